theorem fl_RJx4a65c_48 : q_fl "java/util/ArrayList" 48 9 2 false := ⟨_, "java/util/ArrayList", rfl, by decide, by decide +kernel, wd_47, (Or.inl rfl)⟩
theorem fl_RJx4a65c_63 : q_fl "java/util/ArrayList" 63 9 0 false := ⟨_, "java/util/ArrayList", rfl, by decide, by decide +kernel, wd_49, (Or.inr (List.mem_of_getElem? (i := 74) (by decide +kernel)))⟩
theorem fl_RJx4a65c_9 : q_fl "java/util/ArrayList" 9 9 1 true := ⟨_, "java/util/ArrayList", rfl, by decide, by decide +kernel, wd_46, (Or.inl rfl)⟩
theorem fl_RX0_12 : q_fl "GutterPages$Balloon" 12 0 2 true := ⟨_, "GutterPages$Balloon", rfl, by decide, by decide +kernel, wd_644, (Or.inl rfl)⟩
theorem fl_RX0_25 : q_fl "GutterPages$Balloon" 25 0 4 true := ⟨_, "GutterPages$Balloon", rfl, by decide, by decide +kernel, wd_650, (Or.inl rfl)⟩
theorem fl_RX0_46 : q_fl "GutterPages$Balloon" 46 5 1 true := ⟨_, "GutterPages$Panel", rfl, by decide, by decide +kernel, wd_379, (Or.inl rfl)⟩
theorem fl_RX0_49 : q_fl "GutterPages$Balloon" 49 4 0 false := ⟨_, "GutterPages$Page", rfl, by decide, by decide +kernel, wd_194, (Or.inl rfl)⟩
theorem fl_RX0_59 : q_fl "GutterPages$Balloon" 59 5 9 false := ⟨_, "GutterPages$Panel", rfl, by decide, by decide +kernel, wd_401, (Or.inl rfl)⟩
theorem fl_RX0_62 : q_fl "GutterPages$Balloon" 62 5 7 true := ⟨_, "GutterPages$Panel", rfl, by decide, by decide +kernel, wd_395, (Or.inl rfl)⟩
theorem fl_RX0_67 : q_fl "GutterPages$Balloon" 67 1 1 false := ⟨_, "GutterPages$Box", rfl, by decide, by decide +kernel, wd_357, (Or.inl rfl)⟩
theorem fl_RX0_70 : q_fl "GutterPages$Balloon" 70 1 2 false := ⟨_, "GutterPages$Box", rfl, by decide, by decide +kernel, wd_361, (Or.inl rfl)⟩
theorem fl_RX0_73 : q_fl "GutterPages$Balloon" 73 1 0 false := ⟨_, "GutterPages$Box", rfl, by decide, by decide +kernel, wd_354, (Or.inl rfl)⟩
theorem fl_RX1_13 : q_fl "GutterPages$Box" 13 1 1 false := ⟨_, "GutterPages$Box", rfl, by decide, by decide +kernel, wd_356, (Or.inl rfl)⟩
theorem fl_RX1_16 : q_fl "GutterPages$Box" 16 1 2 false := ⟨_, "GutterPages$Box", rfl, by decide, by decide +kernel, wd_359, (Or.inl rfl)⟩
theorem fl_RX1_19 : q_fl "GutterPages$Box" 19 1 3 false := ⟨_, "GutterPages$Box", rfl, by decide, by decide +kernel, wd_363, (Or.inl rfl)⟩
theorem fl_RX1_7 : q_fl "GutterPages$Box" 7 1 0 false := ⟨_, "GutterPages$Box", rfl, by decide, by decide +kernel, wd_353, (Or.inl rfl)⟩
theorem fl_RX3_100 : q_fl "GutterPages$Layout" 100 1 0 false := ⟨_, "GutterPages$Box", rfl, by decide, by decide +kernel, wd_355, (Or.inl rfl)⟩
theorem fl_RX3_103 : q_fl "GutterPages$Layout" 103 5 1 true := ⟨_, "GutterPages$Panel", rfl, by decide, by decide +kernel, wd_381, (Or.inl rfl)⟩
theorem fl_RX3_111 : q_fl "GutterPages$Layout" 111 5 6 true := ⟨_, "GutterPages$Panel", rfl, by decide, by decide +kernel, wd_393, (Or.inl rfl)⟩
theorem fl_RX3_114 : q_fl "GutterPages$Layout" 114 0 3 true := ⟨_, "GutterPages$Balloon", rfl, by decide, by decide +kernel, wd_648, (Or.inl rfl)⟩
theorem fl_RX3_115 : q_fl "GutterPages$Layout" 115 0 1 false := ⟨_, "GutterPages$Balloon", rfl, by decide, by decide +kernel, wd_643, (Or.inl rfl)⟩
theorem fl_RX3_136 : q_fl "GutterPages$Layout" 136 4 2 false := ⟨_, "GutterPages$Page", rfl, by decide, by decide +kernel, wd_199, (Or.inl rfl)⟩
theorem fl_RX3_139 : q_fl "GutterPages$Layout" 139 5 5 true := ⟨_, "GutterPages$Panel", rfl, by decide, by decide +kernel, wd_390, (Or.inl rfl)⟩
theorem fl_RX3_144 : q_fl "GutterPages$Layout" 144 2 0 false := ⟨_, "GutterPages$Face", rfl, by decide, by decide +kernel, wd_609, (Or.inl rfl)⟩
theorem fl_RX3_147 : q_fl "GutterPages$Layout" 147 2 1 false := ⟨_, "GutterPages$Face", rfl, by decide, by decide +kernel, wd_612, (Or.inl rfl)⟩
theorem fl_RX3_148 : q_fl "GutterPages$Layout" 148 2 2 false := ⟨_, "GutterPages$Face", rfl, by decide, by decide +kernel, wd_615, (Or.inl rfl)⟩
theorem fl_RX3_15 : q_fl "GutterPages$Layout" 15 3 1 true := ⟨_, "GutterPages$Layout", rfl, by decide, by decide +kernel, wd_66, (Or.inl rfl)⟩
theorem fl_RX3_18 : q_fl "GutterPages$Layout" 18 4 4 false := ⟨_, "GutterPages$Page", rfl, by decide, by decide +kernel, wd_203, (Or.inl rfl)⟩
theorem fl_RX3_24 : q_fl "GutterPages$Layout" 24 4 1 true := ⟨_, "GutterPages$Page", rfl, by decide, by decide +kernel, wd_196, (Or.inl rfl)⟩
theorem fl_RX3_40 : q_fl "GutterPages$Layout" 40 5 3 false := ⟨_, "GutterPages$Panel", rfl, by decide, by decide +kernel, wd_385, (Or.inl rfl)⟩
theorem fl_RX3_54 : q_fl "GutterPages$Layout" 54 5 2 false := ⟨_, "GutterPages$Panel", rfl, by decide, by decide +kernel, wd_383, (Or.inl rfl)⟩
theorem fl_RX3_57 : q_fl "GutterPages$Layout" 57 5 8 true := ⟨_, "GutterPages$Panel", rfl, by decide, by decide +kernel, wd_399, (Or.inl rfl)⟩
theorem fl_RX3_61 : q_fl "GutterPages$Layout" 61 1 2 false := ⟨_, "GutterPages$Box", rfl, by decide, by decide +kernel, wd_360, (Or.inl rfl)⟩
theorem fl_RX3_66 : q_fl "GutterPages$Layout" 66 5 4 false := ⟨_, "GutterPages$Panel", rfl, by decide, by decide +kernel, wd_387, (Or.inl rfl)⟩
theorem fl_RX3_79 : q_fl "GutterPages$Layout" 79 1 3 false := ⟨_, "GutterPages$Box", rfl, by decide, by decide +kernel, wd_364, (Or.inl rfl)⟩
theorem fl_RX3_89 : q_fl "GutterPages$Layout" 89 1 1 false := ⟨_, "GutterPages$Box", rfl, by decide, by decide +kernel, wd_358, (Or.inl rfl)⟩
theorem fl_RX3_9 : q_fl "GutterPages$Layout" 9 3 0 true := ⟨_, "GutterPages$Layout", rfl, by decide, by decide +kernel, wd_64, (Or.inl rfl)⟩
theorem fl_RX4_12 : q_fl "GutterPages$Page" 12 4 1 true := ⟨_, "GutterPages$Page", rfl, by decide, by decide +kernel, wd_195, (Or.inl rfl)⟩
theorem fl_RX4_22 : q_fl "GutterPages$Page" 22 4 2 false := ⟨_, "GutterPages$Page", rfl, by decide, by decide +kernel, wd_198, (Or.inl rfl)⟩
theorem fl_RX4_42 : q_fl "GutterPages$Page" 42 5 7 true := ⟨_, "GutterPages$Panel", rfl, by decide, by decide +kernel, wd_396, (Or.inl rfl)⟩
theorem fl_RX4_46 : q_fl "GutterPages$Page" 46 5 8 true := ⟨_, "GutterPages$Panel", rfl, by decide, by decide +kernel, wd_400, (Or.inl rfl)⟩
theorem fl_RX4_58 : q_fl "GutterPages$Page" 58 4 4 false := ⟨_, "GutterPages$Page", rfl, by decide, by decide +kernel, wd_204, (Or.inl rfl)⟩
theorem fl_RX5_10 : q_fl "GutterPages$Panel" 10 5 5 true := ⟨_, "GutterPages$Panel", rfl, by decide, by decide +kernel, wd_388, (Or.inl rfl)⟩
theorem fl_RX5_16 : q_fl "GutterPages$Panel" 16 5 6 true := ⟨_, "GutterPages$Panel", rfl, by decide, by decide +kernel, wd_391, (Or.inl rfl)⟩
theorem fl_RX5_22 : q_fl "GutterPages$Panel" 22 5 7 true := ⟨_, "GutterPages$Panel", rfl, by decide, by decide +kernel, wd_394, (Or.inl rfl)⟩
theorem fl_RX5_26 : q_fl "GutterPages$Panel" 26 5 8 true := ⟨_, "GutterPages$Panel", rfl, by decide, by decide +kernel, wd_398, (Or.inl rfl)⟩
theorem fl_RX5_63 : q_fl "GutterPages$Panel" 63 2 0 false := ⟨_, "GutterPages$Face", rfl, by decide, by decide +kernel, wd_608, (Or.inl rfl)⟩
theorem fl_RX5_66 : q_fl "GutterPages$Panel" 66 2 1 false := ⟨_, "GutterPages$Face", rfl, by decide, by decide +kernel, wd_611, (Or.inl rfl)⟩
theorem fl_RX5_69 : q_fl "GutterPages$Panel" 69 1 3 false := ⟨_, "GutterPages$Box", rfl, by decide, by decide +kernel, wd_365, (Or.inl rfl)⟩
theorem fl_RX5_72 : q_fl "GutterPages$Panel" 72 2 2 false := ⟨_, "GutterPages$Face", rfl, by decide, by decide +kernel, wd_614, (Or.inl rfl)⟩
theorem fl_RX5_77 : q_fl "GutterPages$Panel" 77 5 10 false := ⟨_, "GutterPages$Panel", rfl, by decide, by decide +kernel, wd_405, (Or.inl rfl)⟩
theorem fl_RX5_85 : q_fl "GutterPages$Panel" 85 0 2 true := ⟨_, "GutterPages$Balloon", rfl, by decide, by decide +kernel, wd_645, (Or.inl rfl)⟩
theorem fl_RX5_86 : q_fl "GutterPages$Panel" 86 0 3 true := ⟨_, "GutterPages$Balloon", rfl, by decide, by decide +kernel, wd_649, (Or.inl rfl)⟩
theorem fl_RX6_11 : q_fl "GutterPages$Reader" 11 6 0 true := ⟨_, "GutterPages$Reader", rfl, by decide, by decide +kernel, wd_81, (Or.inl rfl)⟩
theorem fl_RX6_17 : q_fl "GutterPages$Reader" 17 6 2 true := ⟨_, "GutterPages$Reader", rfl, by decide, by decide +kernel, wd_83, (Or.inl rfl)⟩
theorem fl_RX6_21 : q_fl "GutterPages$Reader" 21 6 1 false := ⟨_, "GutterPages$Reader", rfl, by decide, by decide +kernel, wd_82, (Or.inl rfl)⟩
theorem fl_RX7_10 : q_fl "GutterPages" 10 7 0 true := ⟨_, "GutterPages", rfl, by decide, by decide +kernel, wd_92, (Or.inl rfl)⟩
theorem fl_RX7_103 : q_fl "GutterPages" 103 5 1 true := ⟨_, "GutterPages$Panel", rfl, by decide, by decide +kernel, wd_380, (Or.inl rfl)⟩
theorem fl_RX7_137 : q_fl "GutterPages" 137 5 6 true := ⟨_, "GutterPages$Panel", rfl, by decide, by decide +kernel, wd_392, (Or.inl rfl)⟩
theorem fl_RX7_138 : q_fl "GutterPages" 138 5 5 true := ⟨_, "GutterPages$Panel", rfl, by decide, by decide +kernel, wd_389, (Or.inl rfl)⟩
theorem fl_RX7_150 : q_fl "GutterPages" 150 5 7 true := ⟨_, "GutterPages$Panel", rfl, by decide, by decide +kernel, wd_397, (Or.inl rfl)⟩
theorem fl_RX7_154 : q_fl "GutterPages" 154 1 3 false := ⟨_, "GutterPages$Box", rfl, by decide, by decide +kernel, wd_366, (Or.inl rfl)⟩
theorem fl_RX7_16 : q_fl "GutterPages" 16 7 1 true := ⟨_, "GutterPages", rfl, by decide, by decide +kernel, wd_93, (Or.inl rfl)⟩
theorem fl_RX7_170 : q_fl "GutterPages" 170 0 0 false := ⟨_, "GutterPages$Balloon", rfl, by decide, by decide +kernel, wd_641, (Or.inl rfl)⟩
theorem fl_RX7_175 : q_fl "GutterPages" 175 0 4 true := ⟨_, "GutterPages$Balloon", rfl, by decide, by decide +kernel, wd_651, (Or.inl rfl)⟩
theorem fl_RX7_19 : q_fl "GutterPages" 19 7 2 true := ⟨_, "GutterPages", rfl, by decide, by decide +kernel, wd_94, (Or.inl rfl)⟩
theorem fl_RX7_195 : q_fl "GutterPages" 195 0 6 false := ⟨_, "GutterPages$Balloon", rfl, by decide, by decide +kernel, wd_654, (Or.inl rfl)⟩
theorem fl_RX7_204 : q_fl "GutterPages" 204 0 5 true := ⟨_, "GutterPages$Balloon", rfl, by decide, by decide +kernel, wd_652, (Or.inl rfl)⟩
theorem fl_RX7_208 : q_fl "GutterPages" 208 4 2 false := ⟨_, "GutterPages$Page", rfl, by decide, by decide +kernel, wd_200, (Or.inl rfl)⟩
theorem fl_RX7_211 : q_fl "GutterPages" 211 3 0 true := ⟨_, "GutterPages$Layout", rfl, by decide, by decide +kernel, wd_65, (Or.inl rfl)⟩
theorem fl_RX7_221 : q_fl "GutterPages" 221 4 3 false := ⟨_, "GutterPages$Page", rfl, by decide, by decide +kernel, wd_202, (Or.inl rfl)⟩
theorem fl_RX7_224 : q_fl "GutterPages" 224 5 9 false := ⟨_, "GutterPages$Panel", rfl, by decide, by decide +kernel, wd_403, (Or.inl rfl)⟩
theorem fl_RX7_231 : q_fl "GutterPages" 231 0 2 true := ⟨_, "GutterPages$Balloon", rfl, by decide, by decide +kernel, wd_646, (Or.inl rfl)⟩
theorem fl_RX7_232 : q_fl "GutterPages" 232 1 2 false := ⟨_, "GutterPages$Box", rfl, by decide, by decide +kernel, wd_362, (Or.inl rfl)⟩
theorem fl_RX7_25 : q_fl "GutterPages" 25 7 3 true := ⟨_, "GutterPages", rfl, by decide, by decide +kernel, wd_95, (Or.inl rfl)⟩
theorem fl_RX7_287 : q_fl "GutterPages" 287 6 2 true := ⟨_, "GutterPages$Reader", rfl, by decide, by decide +kernel, wd_84, (Or.inl rfl)⟩
theorem fl_RX7_303 : q_fl "GutterPages" 303 5 11 false := ⟨_, "GutterPages$Panel", rfl, by decide, by decide +kernel, wd_407, (Or.inl rfl)⟩
theorem fl_RX7_32 : q_fl "GutterPages" 32 7 4 true := ⟨_, "GutterPages", rfl, by decide, by decide +kernel, wd_96, (Or.inl rfl)⟩
theorem fl_RX7_56 : q_fl "GutterPages" 56 4 0 false := ⟨_, "GutterPages$Page", rfl, by decide, by decide +kernel, wd_193, (Or.inl rfl)⟩
theorem fl_RX7_64 : q_fl "GutterPages" 64 4 1 true := ⟨_, "GutterPages$Page", rfl, by decide, by decide +kernel, wd_197, (Or.inl rfl)⟩
theorem fl_RX7_98 : q_fl "GutterPages" 98 5 0 false := ⟨_, "GutterPages$Panel", rfl, by decide, by decide +kernel, wd_377, (Or.inl rfl)⟩
theorem fs_RJx4a65c_48 : q_fs "java/util/ArrayList" 48 9 2 0 false := ⟨_, "java/util/ArrayList", .int, rfl, by decide, by decide +kernel, wd_47, (Or.inl rfl), rfl, fun h => absurd h (by decide), by decide +kernel, (Or.inl ⟨rfl, rfl⟩)⟩
theorem fs_RJx4a65c_63 : q_fs "java/util/ArrayList" 63 9 0 0 false := ⟨_, "java/util/ArrayList", .int, rfl, by decide, by decide +kernel, wd_49, (Or.inr (List.mem_of_getElem? (i := 74) (by decide +kernel))), rfl, fun h => absurd h (by decide), by decide +kernel, (Or.inl ⟨rfl, rfl⟩)⟩
theorem fs_RJx4a65c_9 : q_fs "java/util/ArrayList" 9 9 1 2 false := ⟨_, "java/util/ArrayList", (.array (.object "java/lang/Object")), rfl, by decide, by decide +kernel, wd_46, (Or.inl rfl), rfl, fun h => absurd h (by decide), by decide +kernel, (Or.inr (Or.inr ⟨rfl, Or.inr ⟨_, rfl⟩⟩))⟩
theorem fs_RJxc12de_7 : q_fs "java/util/AbstractList" 7 9 0 0 false := ⟨_, "java/util/AbstractList", .int, rfl, by decide, by decide +kernel, wd_48, (Or.inl rfl), rfl, fun h => absurd h (by decide), by decide +kernel, (Or.inl ⟨rfl, rfl⟩)⟩
theorem fs_RX0_12 : q_fs "GutterPages$Balloon" 12 0 2 2 true := ⟨_, "GutterPages$Balloon", (.object "GutterPages$Box"), rfl, by decide, by decide +kernel, wd_644, (Or.inl rfl), rfl, fun _ => rfl, by decide +kernel, (Or.inr (Or.inr ⟨rfl, Or.inl ⟨_, rfl⟩⟩))⟩
theorem fs_RX0_18 : q_fs "GutterPages$Balloon" 18 0 3 2 true := ⟨_, "GutterPages$Balloon", (.object "GutterPages$Box"), rfl, by decide, by decide +kernel, wd_647, (Or.inl rfl), rfl, fun _ => rfl, by decide +kernel, (Or.inr (Or.inr ⟨rfl, Or.inl ⟨_, rfl⟩⟩))⟩
theorem fs_RX0_21 : q_fs "GutterPages$Balloon" 21 0 0 0 true := ⟨_, "GutterPages$Balloon", .int, rfl, by decide, by decide +kernel, wd_640, (Or.inl rfl), rfl, fun _ => rfl, by decide +kernel, (Or.inl ⟨rfl, rfl⟩)⟩
theorem fs_RX0_25 : q_fs "GutterPages$Balloon" 25 0 4 2 false := ⟨_, "GutterPages$Balloon", (.object "GutterPages$Panel"), rfl, by decide, by decide +kernel, wd_650, (Or.inl rfl), rfl, fun h => absurd h (by decide), by decide +kernel, (Or.inr (Or.inr ⟨rfl, Or.inl ⟨_, rfl⟩⟩))⟩
theorem fs_RX0_29 : q_fs "GutterPages$Balloon" 29 0 1 0 true := ⟨_, "GutterPages$Balloon", .int, rfl, by decide, by decide +kernel, wd_642, (Or.inl rfl), rfl, fun _ => rfl, by decide +kernel, (Or.inl ⟨rfl, rfl⟩)⟩
theorem fs_RX1_13 : q_fs "GutterPages$Box" 13 1 1 0 false := ⟨_, "GutterPages$Box", .int, rfl, by decide, by decide +kernel, wd_356, (Or.inl rfl), rfl, fun h => absurd h (by decide), by decide +kernel, (Or.inl ⟨rfl, rfl⟩)⟩
theorem fs_RX1_16 : q_fs "GutterPages$Box" 16 1 2 0 false := ⟨_, "GutterPages$Box", .int, rfl, by decide, by decide +kernel, wd_359, (Or.inl rfl), rfl, fun h => absurd h (by decide), by decide +kernel, (Or.inl ⟨rfl, rfl⟩)⟩
theorem fs_RX1_19 : q_fs "GutterPages$Box" 19 1 3 0 false := ⟨_, "GutterPages$Box", .int, rfl, by decide, by decide +kernel, wd_363, (Or.inl rfl), rfl, fun h => absurd h (by decide), by decide +kernel, (Or.inl ⟨rfl, rfl⟩)⟩
theorem fs_RX1_7 : q_fs "GutterPages$Box" 7 1 0 0 false := ⟨_, "GutterPages$Box", .int, rfl, by decide, by decide +kernel, wd_353, (Or.inl rfl), rfl, fun h => absurd h (by decide), by decide +kernel, (Or.inl ⟨rfl, rfl⟩)⟩
theorem fs_RX2_13 : q_fs "GutterPages$Face" 13 2 1 0 true := ⟨_, "GutterPages$Face", .int, rfl, by decide, by decide +kernel, wd_610, (Or.inl rfl), rfl, fun _ => rfl, by decide +kernel, (Or.inl ⟨rfl, rfl⟩)⟩
theorem fs_RX2_16 : q_fs "GutterPages$Face" 16 2 2 0 true := ⟨_, "GutterPages$Face", .int, rfl, by decide, by decide +kernel, wd_613, (Or.inl rfl), rfl, fun _ => rfl, by decide +kernel, (Or.inl ⟨rfl, rfl⟩)⟩
theorem fs_RX2_7 : q_fs "GutterPages$Face" 7 2 0 0 true := ⟨_, "GutterPages$Face", .int, rfl, by decide, by decide +kernel, wd_607, (Or.inl rfl), rfl, fun _ => rfl, by decide +kernel, (Or.inl ⟨rfl, rfl⟩)⟩
theorem fs_RX3_100 : q_fs "GutterPages$Layout" 100 1 0 0 false := ⟨_, "GutterPages$Box", .int, rfl, by decide, by decide +kernel, wd_355, (Or.inl rfl), rfl, fun h => absurd h (by decide), by decide +kernel, (Or.inl ⟨rfl, rfl⟩)⟩
theorem fs_RX3_15 : q_fs "GutterPages$Layout" 15 3 1 2 true := ⟨_, "GutterPages$Layout", (.array .int), rfl, by decide, by decide +kernel, wd_66, (Or.inl rfl), rfl, fun _ => rfl, by decide +kernel, (Or.inr (Or.inr ⟨rfl, Or.inr ⟨_, rfl⟩⟩))⟩
theorem fs_RX3_18 : q_fs "GutterPages$Layout" 18 4 4 0 false := ⟨_, "GutterPages$Page", .int, rfl, by decide, by decide +kernel, wd_203, (Or.inl rfl), rfl, fun h => absurd h (by decide), by decide +kernel, (Or.inl ⟨rfl, rfl⟩)⟩
theorem fs_RX3_61 : q_fs "GutterPages$Layout" 61 1 2 0 false := ⟨_, "GutterPages$Box", .int, rfl, by decide, by decide +kernel, wd_360, (Or.inl rfl), rfl, fun h => absurd h (by decide), by decide +kernel, (Or.inl ⟨rfl, rfl⟩)⟩
theorem fs_RX3_79 : q_fs "GutterPages$Layout" 79 1 3 0 false := ⟨_, "GutterPages$Box", .int, rfl, by decide, by decide +kernel, wd_364, (Or.inl rfl), rfl, fun h => absurd h (by decide), by decide +kernel, (Or.inl ⟨rfl, rfl⟩)⟩
theorem fs_RX3_86 : q_fs "GutterPages$Layout" 86 5 10 0 false := ⟨_, "GutterPages$Panel", .int, rfl, by decide, by decide +kernel, wd_404, (Or.inl rfl), rfl, fun h => absurd h (by decide), by decide +kernel, (Or.inl ⟨rfl, rfl⟩)⟩
theorem fs_RX3_89 : q_fs "GutterPages$Layout" 89 1 1 0 false := ⟨_, "GutterPages$Box", .int, rfl, by decide, by decide +kernel, wd_358, (Or.inl rfl), rfl, fun h => absurd h (by decide), by decide +kernel, (Or.inl ⟨rfl, rfl⟩)⟩
theorem fs_RX3_9 : q_fs "GutterPages$Layout" 9 3 0 2 true := ⟨_, "GutterPages$Layout", (.array .int), rfl, by decide, by decide +kernel, wd_64, (Or.inl rfl), rfl, fun _ => rfl, by decide +kernel, (Or.inr (Or.inr ⟨rfl, Or.inr ⟨_, rfl⟩⟩))⟩
theorem fs_RX4_12 : q_fs "GutterPages$Page" 12 4 1 2 true := ⟨_, "GutterPages$Page", (.object "java/util/ArrayList"), rfl, by decide, by decide +kernel, wd_195, (Or.inl rfl), rfl, fun _ => rfl, by decide +kernel, (Or.inr (Or.inr ⟨rfl, Or.inl ⟨_, rfl⟩⟩))⟩
theorem fs_RX4_18 : q_fs "GutterPages$Page" 18 4 0 0 true := ⟨_, "GutterPages$Page", .int, rfl, by decide, by decide +kernel, wd_192, (Or.inl rfl), rfl, fun _ => rfl, by decide +kernel, (Or.inl ⟨rfl, rfl⟩)⟩
theorem fs_RX4_61 : q_fs "GutterPages$Page" 61 4 3 0 false := ⟨_, "GutterPages$Page", .int, rfl, by decide, by decide +kernel, wd_201, (Or.inl rfl), rfl, fun h => absurd h (by decide), by decide +kernel, (Or.inl ⟨rfl, rfl⟩)⟩
theorem fs_RX5_10 : q_fs "GutterPages$Panel" 10 5 5 2 true := ⟨_, "GutterPages$Panel", (.object "java/util/ArrayList"), rfl, by decide, by decide +kernel, wd_388, (Or.inl rfl), rfl, fun _ => rfl, by decide +kernel, (Or.inr (Or.inr ⟨rfl, Or.inl ⟨_, rfl⟩⟩))⟩
theorem fs_RX5_16 : q_fs "GutterPages$Panel" 16 5 6 2 true := ⟨_, "GutterPages$Panel", (.object "java/util/ArrayList"), rfl, by decide, by decide +kernel, wd_391, (Or.inl rfl), rfl, fun _ => rfl, by decide +kernel, (Or.inr (Or.inr ⟨rfl, Or.inl ⟨_, rfl⟩⟩))⟩
theorem fs_RX5_22 : q_fs "GutterPages$Panel" 22 5 7 2 true := ⟨_, "GutterPages$Panel", (.object "GutterPages$Box"), rfl, by decide, by decide +kernel, wd_394, (Or.inl rfl), rfl, fun _ => rfl, by decide +kernel, (Or.inr (Or.inr ⟨rfl, Or.inl ⟨_, rfl⟩⟩))⟩
theorem fs_RX5_26 : q_fs "GutterPages$Panel" 26 5 8 2 true := ⟨_, "GutterPages$Panel", (.object "GutterPages$Box"), rfl, by decide, by decide +kernel, wd_398, (Or.inl rfl), rfl, fun _ => rfl, by decide +kernel, (Or.inr (Or.inr ⟨rfl, Or.inl ⟨_, rfl⟩⟩))⟩
theorem fs_RX5_29 : q_fs "GutterPages$Panel" 29 5 0 0 true := ⟨_, "GutterPages$Panel", .int, rfl, by decide, by decide +kernel, wd_376, (Or.inl rfl), rfl, fun _ => rfl, by decide +kernel, (Or.inl ⟨rfl, rfl⟩)⟩
theorem fs_RX5_33 : q_fs "GutterPages$Panel" 33 5 1 2 true := ⟨_, "GutterPages$Panel", (.object "GutterPages$Page"), rfl, by decide, by decide +kernel, wd_378, (Or.inl rfl), rfl, fun _ => rfl, by decide +kernel, (Or.inr (Or.inr ⟨rfl, Or.inl ⟨_, rfl⟩⟩))⟩
theorem fs_RX5_37 : q_fs "GutterPages$Panel" 37 5 2 0 true := ⟨_, "GutterPages$Panel", .int, rfl, by decide, by decide +kernel, wd_382, (Or.inl rfl), rfl, fun _ => rfl, by decide +kernel, (Or.inl ⟨rfl, rfl⟩)⟩
theorem fs_RX5_40 : q_fs "GutterPages$Panel" 40 5 3 0 true := ⟨_, "GutterPages$Panel", .int, rfl, by decide, by decide +kernel, wd_384, (Or.inl rfl), rfl, fun _ => rfl, by decide +kernel, (Or.inl ⟨rfl, rfl⟩)⟩
theorem fs_RX5_43 : q_fs "GutterPages$Panel" 43 5 4 0 true := ⟨_, "GutterPages$Panel", .int, rfl, by decide, by decide +kernel, wd_386, (Or.inl rfl), rfl, fun _ => rfl, by decide +kernel, (Or.inl ⟨rfl, rfl⟩)⟩
theorem fs_RX5_80 : q_fs "GutterPages$Panel" 80 5 9 0 false := ⟨_, "GutterPages$Panel", .int, rfl, by decide, by decide +kernel, wd_402, (Or.inl rfl), rfl, fun h => absurd h (by decide), by decide +kernel, (Or.inl ⟨rfl, rfl⟩)⟩
theorem fs_RX5_87 : q_fs "GutterPages$Panel" 87 5 11 1 false := ⟨_, "GutterPages$Panel", .boolean, rfl, by decide, by decide +kernel, wd_406, (Or.inl rfl), rfl, fun h => absurd h (by decide), by decide +kernel, (Or.inr (Or.inl ⟨rfl, rfl⟩))⟩
theorem fs_RX5_91 : q_fs "GutterPages$Panel" 91 0 6 1 false := ⟨_, "GutterPages$Balloon", .boolean, rfl, by decide, by decide +kernel, wd_653, (Or.inl rfl), rfl, fun h => absurd h (by decide), by decide +kernel, (Or.inr (Or.inl ⟨rfl, rfl⟩))⟩
theorem fs_RX6_11 : q_fs "GutterPages$Reader" 11 6 0 2 true := ⟨_, "GutterPages$Reader", (.array (.object "GutterPages$Panel")), rfl, by decide, by decide +kernel, wd_81, (Or.inl rfl), rfl, fun _ => rfl, by decide +kernel, (Or.inr (Or.inr ⟨rfl, Or.inr ⟨_, rfl⟩⟩))⟩
theorem fs_RX6_17 : q_fs "GutterPages$Reader" 17 6 2 2 false := ⟨_, "GutterPages$Reader", (.object "GutterPages$Panel"), rfl, by decide, by decide +kernel, wd_83, (Or.inl rfl), rfl, fun h => absurd h (by decide), by decide +kernel, (Or.inr (Or.inr ⟨rfl, Or.inl ⟨_, rfl⟩⟩))⟩
theorem fs_RX6_21 : q_fs "GutterPages$Reader" 21 6 1 0 false := ⟨_, "GutterPages$Reader", .int, rfl, by decide, by decide +kernel, wd_82, (Or.inl rfl), rfl, fun h => absurd h (by decide), by decide +kernel, (Or.inl ⟨rfl, rfl⟩)⟩
theorem fs_RX7_10 : q_fs "GutterPages" 10 7 0 2 true := ⟨_, "GutterPages", (.object "java/util/ArrayList"), rfl, by decide, by decide +kernel, wd_92, (Or.inl rfl), rfl, fun _ => rfl, by decide +kernel, (Or.inr (Or.inr ⟨rfl, Or.inl ⟨_, rfl⟩⟩))⟩
theorem fs_RX7_16 : q_fs "GutterPages" 16 7 1 2 true := ⟨_, "GutterPages", (.object "java/util/ArrayList"), rfl, by decide, by decide +kernel, wd_93, (Or.inl rfl), rfl, fun _ => rfl, by decide +kernel, (Or.inr (Or.inr ⟨rfl, Or.inl ⟨_, rfl⟩⟩))⟩
theorem fs_RX7_19 : q_fs "GutterPages" 19 7 2 2 true := ⟨_, "GutterPages", (.object "java/util/ArrayList"), rfl, by decide, by decide +kernel, wd_94, (Or.inl rfl), rfl, fun _ => rfl, by decide +kernel, (Or.inr (Or.inr ⟨rfl, Or.inl ⟨_, rfl⟩⟩))⟩
theorem fs_RX7_195 : q_fs "GutterPages" 195 0 6 1 false := ⟨_, "GutterPages$Balloon", .boolean, rfl, by decide, by decide +kernel, wd_654, (Or.inl rfl), rfl, fun h => absurd h (by decide), by decide +kernel, (Or.inr (Or.inl ⟨rfl, rfl⟩))⟩
theorem fs_RX7_204 : q_fs "GutterPages" 204 0 5 2 false := ⟨_, "GutterPages$Balloon", (.object "GutterPages$Balloon"), rfl, by decide, by decide +kernel, wd_652, (Or.inl rfl), rfl, fun h => absurd h (by decide), by decide +kernel, (Or.inr (Or.inr ⟨rfl, Or.inl ⟨_, rfl⟩⟩))⟩
theorem fs_RX7_208 : q_fs "GutterPages" 208 4 2 0 false := ⟨_, "GutterPages$Page", .int, rfl, by decide, by decide +kernel, wd_200, (Or.inl rfl), rfl, fun h => absurd h (by decide), by decide +kernel, (Or.inl ⟨rfl, rfl⟩)⟩
theorem fs_RX7_25 : q_fs "GutterPages" 25 7 3 2 true := ⟨_, "GutterPages", (.object "GutterPages$Layout"), rfl, by decide, by decide +kernel, wd_95, (Or.inl rfl), rfl, fun _ => rfl, by decide +kernel, (Or.inr (Or.inr ⟨rfl, Or.inl ⟨_, rfl⟩⟩))⟩
theorem fs_RX7_32 : q_fs "GutterPages" 32 7 4 2 true := ⟨_, "GutterPages", (.object "GutterPages$Reader"), rfl, by decide, by decide +kernel, wd_96, (Or.inl rfl), rfl, fun _ => rfl, by decide +kernel, (Or.inr (Or.inr ⟨rfl, Or.inl ⟨_, rfl⟩⟩))⟩
theorem nw_RX0_9 : q_nw "GutterPages$Balloon" 9 1 := ⟨_, rfl, wd_638, wd_348, wd_21⟩
theorem nw_RX4_9 : q_nw "GutterPages$Page" 9 9 := ⟨_, rfl, wd_190, wd_33, wd_4⟩
theorem nw_RX5_19 : q_nw "GutterPages$Panel" 19 1 := ⟨_, rfl, wd_347, wd_348, wd_21⟩
theorem nw_RX5_7 : q_nw "GutterPages$Panel" 7 9 := ⟨_, rfl, wd_345, wd_33, wd_4⟩
theorem nw_RX7_143 : q_nw "GutterPages" 143 2 := ⟨_, rfl, wd_601, wd_602, wd_23⟩
theorem nw_RX7_161 : q_nw "GutterPages" 161 0 := ⟨_, rfl, wd_560, wd_633, wd_22⟩
theorem nw_RX7_22 : q_nw "GutterPages" 22 3 := ⟨_, rfl, wd_58, wd_59, wd_5⟩
theorem nw_RX7_29 : q_nw "GutterPages" 29 6 := ⟨_, rfl, wd_73, wd_74, wd_6⟩
theorem nw_RX7_47 : q_nw "GutterPages" 47 4 := ⟨_, rfl, wd_184, wd_185, wd_11⟩
theorem nw_RX7_7 : q_nw "GutterPages" 7 9 := ⟨_, rfl, wd_32, wd_33, wd_4⟩
theorem nw_RX7_77 : q_nw "GutterPages" 77 5 := ⟨_, rfl, wd_339, wd_340, wd_20⟩
theorem sel_X7_answersComeLater : Cond.selects "GutterPages" ⟨"GutterPages", "answersComeLater", "()Z"⟩ ⟨"GutterPages", "answersComeLater", "()Z"⟩ ∈ lw_tbl := List.mem_of_getElem? (i := 16) (by decide +kernel)
theorem sel_X7_balloonReadAt : Cond.selects "GutterPages" ⟨"GutterPages", "balloonReadAt", "(I)LGutterPages$Balloon;"⟩ ⟨"GutterPages", "balloonReadAt", "(I)LGutterPages$Balloon;"⟩ ∈ lw_tbl := List.mem_of_getElem? (i := 23) (by decide +kernel)
theorem sel_X7_countReadBefore : Cond.selects "GutterPages" ⟨"GutterPages", "countReadBefore", "(LGutterPages$Balloon;)I"⟩ ⟨"GutterPages", "countReadBefore", "(LGutterPages$Balloon;)I"⟩ ∈ lw_tbl := List.mem_of_getElem? (i := 22) (by decide +kernel)
theorem sel_X7_isAnswered : Cond.selects "GutterPages" ⟨"GutterPages", "isAnswered", "(LGutterPages$Balloon;)Z"⟩ ⟨"GutterPages", "isAnswered", "(LGutterPages$Balloon;)Z"⟩ ∈ lw_tbl := List.mem_of_getElem? (i := 21) (by decide +kernel)
theorem sel_X7_isAnsweredFromElsewhere : Cond.selects "GutterPages" ⟨"GutterPages", "isAnsweredFromElsewhere", "(LGutterPages$Panel;)Z"⟩ ⟨"GutterPages", "isAnsweredFromElsewhere", "(LGutterPages$Panel;)Z"⟩ ∈ lw_tbl := List.mem_of_getElem? (i := 17) (by decide +kernel)
theorem sel_X7_needBalloon : Cond.selects "GutterPages" ⟨"GutterPages", "needBalloon", "(I)LGutterPages$Balloon;"⟩ ⟨"GutterPages", "needBalloon", "(I)LGutterPages$Balloon;"⟩ ∈ lw_tbl := List.mem_of_getElem? (i := 20) (by decide +kernel)
theorem sel_X7_needPage : Cond.selects "GutterPages" ⟨"GutterPages", "needPage", "(I)LGutterPages$Page;"⟩ ⟨"GutterPages", "needPage", "(I)LGutterPages$Page;"⟩ ∈ lw_tbl := List.mem_of_getElem? (i := 4) (by decide +kernel)
theorem sel_X7_needPanel : Cond.selects "GutterPages" ⟨"GutterPages", "needPanel", "(I)LGutterPages$Panel;"⟩ ⟨"GutterPages", "needPanel", "(I)LGutterPages$Panel;"⟩ ∈ lw_tbl := List.mem_of_getElem? (i := 15) (by decide +kernel)
theorem sel_X7_readAheadOf : Cond.selects "GutterPages" ⟨"GutterPages", "readAheadOf", "(LGutterPages$Panel;)LGutterPages$Panel;"⟩ ⟨"GutterPages", "readAheadOf", "(LGutterPages$Panel;)LGutterPages$Panel;"⟩ ∈ lw_tbl := List.mem_of_getElem? (i := 19) (by decide +kernel)
theorem sel_X7_readBehind : Cond.selects "GutterPages" ⟨"GutterPages", "readBehind", "(LGutterPages$Panel;)LGutterPages$Panel;"⟩ ⟨"GutterPages", "readBehind", "(LGutterPages$Panel;)LGutterPages$Panel;"⟩ ∈ lw_tbl := List.mem_of_getElem? (i := 18) (by decide +kernel)
theorem sel_X3_findSpot : Cond.selects "GutterPages$Layout" ⟨"GutterPages$Layout", "findSpot", "(LGutterPages$Box;IILGutterPages$Box;Z)Z"⟩ ⟨"GutterPages$Layout", "findSpot", "(LGutterPages$Box;IILGutterPages$Box;Z)Z"⟩ ∈ lw_tbl := List.mem_of_getElem? (i := 12) (by decide +kernel)
theorem sel_X3_fitsInto : Cond.selects "GutterPages$Layout" ⟨"GutterPages$Layout", "fitsInto", "(ILGutterPages$Page;II)Z"⟩ ⟨"GutterPages$Layout", "fitsInto", "(ILGutterPages$Page;II)Z"⟩ ∈ lw_tbl := List.mem_of_getElem? (i := 7) (by decide +kernel)
theorem sel_X3_growthOf : Cond.selects "GutterPages$Layout" ⟨"GutterPages$Layout", "growthOf", "(LGutterPages$Page;)I"⟩ ⟨"GutterPages$Layout", "growthOf", "(LGutterPages$Page;)I"⟩ ∈ lw_tbl := List.mem_of_getElem? (i := 11) (by decide +kernel)
theorem sel_X3_heightOfRow : Cond.selects "GutterPages$Layout" ⟨"GutterPages$Layout", "heightOfRow", "(LGutterPages$Page;II)I"⟩ ⟨"GutterPages$Layout", "heightOfRow", "(LGutterPages$Page;II)I"⟩ ∈ lw_tbl := List.mem_of_getElem? (i := 6) (by decide +kernel)
theorem sel_X3_placeBalloons : Cond.selects "GutterPages$Layout" ⟨"GutterPages$Layout", "placeBalloons", "(LGutterPages$Panel;)Z"⟩ ⟨"GutterPages$Layout", "placeBalloons", "(LGutterPages$Panel;)Z"⟩ ∈ lw_tbl := List.mem_of_getElem? (i := 8) (by decide +kernel)
theorem sel_X3_take : Cond.selects "GutterPages$Layout" ⟨"GutterPages$Layout", "take", "(IIII)V"⟩ ⟨"GutterPages$Layout", "take", "(IIII)V"⟩ ∈ lw_tbl := List.mem_of_getElem? (i := 10) (by decide +kernel)
theorem sel_X3_takeFaces : Cond.selects "GutterPages$Layout" ⟨"GutterPages$Layout", "takeFaces", "(LGutterPages$Panel;)V"⟩ ⟨"GutterPages$Layout", "takeFaces", "(LGutterPages$Panel;)V"⟩ ∈ lw_tbl := List.mem_of_getElem? (i := 9) (by decide +kernel)
theorem sel_X3_takenBetween : Cond.selects "GutterPages$Layout" ⟨"GutterPages$Layout", "takenBetween", "(II)I"⟩ ⟨"GutterPages$Layout", "takenBetween", "(II)I"⟩ ∈ lw_tbl := List.mem_of_getElem? (i := 13) (by decide +kernel)
theorem sel_Jx4a65c_add_72be8 : Cond.selects "java/util/ArrayList" ⟨"java/util/ArrayList", "add", "(Ljava/lang/Object;[Ljava/lang/Object;I)V"⟩ ⟨"java/util/ArrayList", "add", "(Ljava/lang/Object;[Ljava/lang/Object;I)V"⟩ ∈ lw_tbl := List.mem_of_getElem? (i := 1) (by decide +kernel)
theorem sel_Jx4a65c_fastRemove_b59b0 : Cond.selects "java/util/ArrayList" ⟨"java/util/ArrayList", "fastRemove", "([Ljava/lang/Object;I)V"⟩ ⟨"java/util/ArrayList", "fastRemove", "([Ljava/lang/Object;I)V"⟩ ∈ lw_tbl := List.mem_of_getElem? (i := 14) (by decide +kernel)
theorem sel_Jx4a65c_grow_d5877 : Cond.selects "java/util/ArrayList" ⟨"java/util/ArrayList", "grow", "()[Ljava/lang/Object;"⟩ ⟨"java/util/ArrayList", "grow", "()[Ljava/lang/Object;"⟩ ∈ lw_tbl := List.mem_of_getElem? (i := 2) (by decide +kernel)
theorem sel_Jx4a65c_grow_92f84 : Cond.selects "java/util/ArrayList" ⟨"java/util/ArrayList", "grow", "(I)[Ljava/lang/Object;"⟩ ⟨"java/util/ArrayList", "grow", "(I)[Ljava/lang/Object;"⟩ ∈ lw_tbl := List.mem_of_getElem? (i := 3) (by decide +kernel)
theorem sel_Jx4a65c_rangeCheckForAdd_d00df : Cond.selects "java/util/ArrayList" ⟨"java/util/ArrayList", "rangeCheckForAdd", "(I)V"⟩ ⟨"java/util/ArrayList", "rangeCheckForAdd", "(I)V"⟩ ∈ lw_tbl := List.mem_of_getElem? (i := 5) (by decide +kernel)
def M_J15_checkIndex_7cf53 : qM := (yJ15_checkIndex_7cf53, cJ15_checkIndex_7cf53, 2, (some .int), { frames := 2, cells := 0, slots := 0, locals := 222 }, [])
theorem cee_J15_checkIndex_7cf53 : q_cee M_J15_checkIndex_7cf53 := ⟨rfl, wd_307, wd_17, by decide, by decide⟩
theorem np_J15_checkIndex_7cf53 : q_np M_J15_checkIndex_7cf53 2 := by unfold q_np; decide +kernel
def M_J3_checkIndex_8e157 : qM := (yJ3_checkIndex_8e157, cJ3_checkIndex_8e157, 3, (some .int), { frames := 1, cells := 0, slots := 0, locals := 200 }, [])
theorem cee_J3_checkIndex_8e157 : q_cee M_J3_checkIndex_8e157 := ⟨rfl, wd_310, wd_18, by decide, by decide⟩
theorem np_J3_checkIndex_8e157 : q_np M_J3_checkIndex_8e157 3 := by unfold q_np; decide +kernel
def M_J7_copyOf_1904c : qM := (yJ7_copyOf_1904c, cJ7_copyOf_1904c, 2, (some (.array (.object "java/lang/Object"))), { frames := 2, cells := 1, slots := 200, locals := 223 }, [])
theorem cee_J7_copyOf_1904c : q_cee M_J7_copyOf_1904c := ⟨rfl, wd_246, wd_14, by decide, by decide⟩
theorem np_J7_copyOf_1904c : q_np M_J7_copyOf_1904c 2 := by unfold q_np; decide +kernel
def M_J7_copyOf_6403c : qM := (yJ7_copyOf_6403c, cJ7_copyOf_6403c, 4, (some (.array (.object "java/lang/Object"))), { frames := 1, cells := 1, slots := 200, locals := 200 }, [])
theorem cee_J7_copyOf_6403c : q_cee M_J7_copyOf_6403c := ⟨rfl, wd_265, wd_14, by decide, by decide⟩
theorem np_J7_copyOf_6403c : q_np M_J7_copyOf_6403c 3 := by unfold q_np; decide +kernel
def M_J8_newLength_cabcc : qM := (yJ8_newLength_cabcc, cJ8_newLength_cabcc, 4, (some .int), { frames := 1, cells := 0, slots := 0, locals := 200 }, [])
theorem cee_J8_newLength_cabcc : q_cee M_J8_newLength_cabcc := ⟨rfl, wd_236, wd_12, by decide, by decide⟩
theorem np_J8_newLength_cabcc : q_np M_J8_newLength_cabcc 3 := by unfold q_np; decide +kernel
def M_Jx4a65c_add_72be8 : qM := (yJx4a65c_add_72be8, cJx4a65c_add_72be8, 4, (none), { frames := 5, cells := 2, slots := 400, locals := 287 }, [])
theorem cee_Jx4a65c_add_72be8 : q_cee M_Jx4a65c_add_72be8 := ⟨rfl, wd_225, wd_4, by decide, by decide⟩
theorem np_Jx4a65c_add_72be8 : q_np M_Jx4a65c_add_72be8 3 := by unfold q_np; decide +kernel
def M_Jx4a65c_add_7a177 : qM := (yJx4a65c_add_7a177, cJx4a65c_add_7a177, 5, (none), { frames := 5, cells := 2, slots := 400, locals := 287 }, [])
theorem cee_Jx4a65c_add_7a177 : q_cee M_Jx4a65c_add_7a177 := ⟨rfl, wd_441, wd_4, by decide, by decide⟩
theorem np_Jx4a65c_add_7a177 : q_np M_Jx4a65c_add_7a177 2 := by unfold q_np; decide +kernel
def M_Jx4a65c_add_9ea2d : qM := (yJx4a65c_add_9ea2d, cJx4a65c_add_9ea2d, 2, (some .boolean), { frames := 6, cells := 2, slots := 400, locals := 310 }, [])
theorem cee_Jx4a65c_add_9ea2d : q_cee M_Jx4a65c_add_9ea2d := ⟨rfl, wd_221, wd_4, by decide, by decide⟩
theorem np_Jx4a65c_add_9ea2d : q_np M_Jx4a65c_add_9ea2d 1 := by unfold q_np; decide +kernel
def M_Jx4a65c_elementData_915e3 : qM := (yJx4a65c_elementData_915e3, cJx4a65c_elementData_915e3, 2, (some (.object "java/lang/Object")), { frames := 0, cells := 0, slots := 0, locals := 0 }, [])
theorem cee_Jx4a65c_elementData_915e3 : q_cee M_Jx4a65c_elementData_915e3 := ⟨rfl, wd_314, wd_4, by decide, by decide⟩
theorem np_Jx4a65c_elementData_915e3 : q_np M_Jx4a65c_elementData_915e3 1 := by unfold q_np; decide +kernel
def M_Jx4a65c_fastRemove_b59b0 : qM := (yJx4a65c_fastRemove_b59b0, cJx4a65c_fastRemove_b59b0, 4, (none), { frames := 1, cells := 0, slots := 0, locals := 200 }, [])
theorem cee_Jx4a65c_fastRemove_b59b0 : q_cee M_Jx4a65c_fastRemove_b59b0 := ⟨rfl, wd_520, wd_4, by decide, by decide⟩
theorem np_Jx4a65c_fastRemove_b59b0 : q_np M_Jx4a65c_fastRemove_b59b0 2 := by unfold q_np; decide +kernel
def M_Jx4a65c_get_915e3 : qM := (yJx4a65c_get_915e3, cJx4a65c_get_915e3, 2, (some (.object "java/lang/Object")), { frames := 3, cells := 0, slots := 0, locals := 243 }, [])
theorem cee_Jx4a65c_get_915e3 : q_cee M_Jx4a65c_get_915e3 := ⟨rfl, wd_304, wd_4, by decide, by decide⟩
theorem np_Jx4a65c_get_915e3 : q_np M_Jx4a65c_get_915e3 1 := by unfold q_np; decide +kernel
def M_Jx4a65c_grow_92f84 : qM := (yJx4a65c_grow_92f84, cJx4a65c_grow_92f84, 4, (some (.array (.object "java/lang/Object"))), { frames := 3, cells := 1, slots := 200, locals := 244 }, [])
theorem cee_Jx4a65c_grow_92f84 : q_cee M_Jx4a65c_grow_92f84 := ⟨rfl, wd_233, wd_4, by decide, by decide⟩
theorem np_Jx4a65c_grow_92f84 : q_np M_Jx4a65c_grow_92f84 1 := by unfold q_np; decide +kernel
def M_Jx4a65c_grow_d5877 : qM := (yJx4a65c_grow_d5877, cJx4a65c_grow_d5877, 1, (some (.array (.object "java/lang/Object"))), { frames := 4, cells := 2, slots := 400, locals := 267 }, [])
theorem cee_Jx4a65c_grow_d5877 : q_cee M_Jx4a65c_grow_d5877 := ⟨rfl, wd_229, wd_4, by decide, by decide⟩
theorem np_Jx4a65c_grow_d5877 : q_np M_Jx4a65c_grow_d5877 0 := by unfold q_np; decide +kernel
def M_Jx4a65c_init_da8c8 : qM := (yJx4a65c_init_da8c8, cJx4a65c_init_da8c8, 1, (none), { frames := 3, cells := 0, slots := 0, locals := 240 }, [])
theorem cee_Jx4a65c_init_da8c8 : q_cee M_Jx4a65c_init_da8c8 := ⟨rfl, wd_36, wd_4, by decide, by decide⟩
theorem np_Jx4a65c_init_da8c8 : q_np M_Jx4a65c_init_da8c8 0 := by unfold q_np; decide +kernel
def M_Jx4a65c_rangeCheckForAdd_d00df : qM := (yJx4a65c_rangeCheckForAdd_d00df, cJx4a65c_rangeCheckForAdd_d00df, 2, (none), { frames := 1, cells := 0, slots := 0, locals := 200 }, [])
theorem cee_Jx4a65c_rangeCheckForAdd_d00df : q_cee M_Jx4a65c_rangeCheckForAdd_d00df := ⟨rfl, wd_445, wd_4, by decide, by decide⟩
theorem np_Jx4a65c_rangeCheckForAdd_d00df : q_np M_Jx4a65c_rangeCheckForAdd_d00df 1 := by unfold q_np; decide +kernel
def M_Jx4a65c_remove_915e3 : qM := (yJx4a65c_remove_915e3, cJx4a65c_remove_915e3, 4, (some (.object "java/lang/Object")), { frames := 3, cells := 0, slots := 0, locals := 243 }, [])
theorem cee_Jx4a65c_remove_915e3 : q_cee M_Jx4a65c_remove_915e3 := ⟨rfl, wd_516, wd_4, by decide, by decide⟩
theorem np_Jx4a65c_remove_915e3 : q_np M_Jx4a65c_remove_915e3 1 := by unfold q_np; decide +kernel
def M_Jx4a65c_size_8abf5 : qM := (yJx4a65c_size_8abf5, cJx4a65c_size_8abf5, 1, (some .int), { frames := 0, cells := 0, slots := 0, locals := 0 }, [])
theorem cee_Jx4a65c_size_8abf5 : q_cee M_Jx4a65c_size_8abf5 := ⟨rfl, wd_115, wd_4, by decide, by decide⟩
theorem np_Jx4a65c_size_8abf5 : q_np M_Jx4a65c_size_8abf5 0 := by unfold q_np; decide +kernel
def M_Jxa1e45_init_da8c8 : qM := (yJxa1e45_init_da8c8, cJxa1e45_init_da8c8, 1, (none), { frames := 1, cells := 0, slots := 0, locals := 200 }, [])
theorem cee_Jxa1e45_init_da8c8 : q_cee M_Jxa1e45_init_da8c8 := ⟨rfl, wd_42, wd_2, by decide, by decide⟩
theorem np_Jxa1e45_init_da8c8 : q_np M_Jxa1e45_init_da8c8 0 := by unfold q_np; decide +kernel
def M_Jxc12de_init_da8c8 : qM := (yJxc12de_init_da8c8, cJxc12de_init_da8c8, 1, (none), { frames := 2, cells := 0, slots := 0, locals := 220 }, [])
theorem cee_Jxc12de_init_da8c8 : q_cee M_Jxc12de_init_da8c8 := ⟨rfl, wd_39, wd_3, by decide, by decide⟩
theorem np_Jxc12de_init_da8c8 : q_np M_Jxc12de_init_da8c8 0 := by unfold q_np; decide +kernel
def M_X0_goTo : qM := (yX0_goTo, cX0_goTo, 3, (none), { frames := 7, cells := 2, slots := 400, locals := 333 }, [])
theorem cee_X0_goTo : q_cee M_X0_goTo := ⟨rfl, wd_693, wd_22, by decide, by decide⟩
theorem np_X0_goTo : q_np M_X0_goTo 2 := by unfold q_np; decide +kernel
def M_X0_init : qM := (yX0_init, cX0_init, 4, (none), { frames := 2, cells := 2, slots := 8, locals := 220 }, [])
theorem cee_X0_init : q_cee M_X0_init := ⟨rfl, wd_636, wd_22, by decide, by decide⟩
theorem np_X0_init : q_np M_X0_init 3 := by unfold q_np; decide +kernel
def M_X0_isNearer : qM := (yX0_isNearer, cX0_isNearer, 4, (some .boolean), { frames := 1, cells := 0, slots := 0, locals := 23 }, [])
theorem cee_X0_isNearer : q_cee M_X0_isNearer := ⟨rfl, wd_832, wd_22, by decide, by decide⟩
theorem np_X0_isNearer : q_np M_X0_isNearer 4 := by unfold q_np; decide +kernel
def M_X0_liesBefore : qM := (yX0_liesBefore, cX0_liesBefore, 5, (some .boolean), { frames := 2, cells := 0, slots := 0, locals := 46 }, [])
theorem cee_X0_liesBefore : q_cee M_X0_liesBefore := ⟨rfl, wd_828, wd_22, by decide, by decide⟩
theorem np_X0_liesBefore : q_np M_X0_liesBefore 1 := by unfold q_np; decide +kernel
def M_X0_readingKey : qM := (yX0_readingKey, cX0_readingKey, 3, (some .int), { frames := 5, cells := 0, slots := 0, locals := 286 }, [])
theorem cee_X0_readingKey : q_cee M_X0_readingKey := ⟨rfl, wd_564, wd_22, by decide, by decide⟩
theorem np_X0_readingKey : q_np M_X0_readingKey 0 := by unfold q_np; decide +kernel
def M_X1_holds : qM := (yX1_holds, cX1_holds, 3, (some .boolean), { frames := 0, cells := 0, slots := 0, locals := 0 }, [])
theorem cee_X1_holds : q_cee M_X1_holds := ⟨rfl, wd_815, wd_21, by decide, by decide⟩
theorem np_X1_holds : q_np M_X1_holds 2 := by unfold q_np; decide +kernel
def M_X1_init : qM := (yX1_init, cX1_init, 1, (none), { frames := 1, cells := 0, slots := 0, locals := 200 }, [])
theorem cee_X1_init : q_cee M_X1_init := ⟨rfl, wd_351, wd_21, by decide, by decide⟩
theorem np_X1_init : q_np M_X1_init 0 := by unfold q_np; decide +kernel
def M_X1_isLike : qM := (yX1_isLike, cX1_isLike, 2, (some .boolean), { frames := 0, cells := 0, slots := 0, locals := 0 }, [])
theorem cee_X1_isLike : q_cee M_X1_isLike := ⟨rfl, wd_531, wd_21, by decide, by decide⟩
theorem np_X1_isLike : q_np M_X1_isLike 1 := by unfold q_np; decide +kernel
def M_X1_measure : qM := (yX1_measure, cX1_measure, 2, (some .int), { frames := 0, cells := 0, slots := 0, locals := 0 }, [])
theorem cee_X1_measure : q_cee M_X1_measure := ⟨rfl, wd_735, wd_21, by decide, by decide⟩
theorem np_X1_measure : q_np M_X1_measure 1 := by unfold q_np; decide +kernel
def M_X1_set : qM := (yX1_set, cX1_set, 2, (none), { frames := 0, cells := 0, slots := 0, locals := 0 }, [])
theorem cee_X1_set : q_cee M_X1_set := ⟨rfl, wd_539, wd_21, by decide, by decide⟩
theorem np_X1_set : q_np M_X1_set 1 := by unfold q_np; decide +kernel
def M_X2_init : qM := (yX2_init, cX2_init, 4, (none), { frames := 1, cells := 0, slots := 0, locals := 200 }, [])
theorem cee_X2_init : q_cee M_X2_init := ⟨rfl, wd_605, wd_23, by decide, by decide⟩
theorem np_X2_init : q_np M_X2_init 3 := by unfold q_np; decide +kernel
def M_X3_bitsOf : qM := (yX3_bitsOf, cX3_bitsOf, 2, (some .int), { frames := 0, cells := 0, slots := 0, locals := 0 }, [])
theorem cee_X3_bitsOf : q_cee M_X3_bitsOf := ⟨rfl, wd_485, wd_5, by decide, by decide⟩
theorem np_X3_bitsOf : q_np M_X3_bitsOf 2 := by unfold q_np; decide +kernel
def M_X3_findSpot : qM := (yX3_findSpot, cX3_findSpot, 10, (some .boolean), { frames := 2, cells := 0, slots := 0, locals := 224 }, [])
theorem cee_X3_findSpot : q_cee M_X3_findSpot := ⟨rfl, wd_498, wd_5, by decide, by decide⟩
theorem np_X3_findSpot : q_np M_X3_findSpot 5 := by unfold q_np; decide +kernel
def M_X3_fitsInto : qM := (yX3_fitsInto, cX3_fitsInto, 7, (some .boolean), { frames := 6, cells := 0, slots := 0, locals := 317 }, [])
theorem cee_X3_fitsInto : q_cee M_X3_fitsInto := ⟨rfl, wd_465, wd_5, by decide, by decide⟩
theorem np_X3_fitsInto : q_np M_X3_fitsInto 4 := by unfold q_np; decide +kernel
def M_X3_growthOf : qM := (yX3_growthOf, cX3_growthOf, 2, (some .int), { frames := 0, cells := 0, slots := 0, locals := 0 }, [])
theorem cee_X3_growthOf : q_cee M_X3_growthOf := ⟨rfl, wd_490, wd_5, by decide, by decide⟩
theorem np_X3_growthOf : q_np M_X3_growthOf 1 := by unfold q_np; decide +kernel
def M_X3_heightOfRow : qM := (yX3_heightOfRow, cX3_heightOfRow, 6, (some .int), { frames := 7, cells := 0, slots := 0, locals := 343 }, [])
theorem cee_X3_heightOfRow : q_cee M_X3_heightOfRow := ⟨rfl, wd_460, wd_5, by decide, by decide⟩
theorem np_X3_heightOfRow : q_np M_X3_heightOfRow 3 := by unfold q_np; decide +kernel
def M_X3_init : qM := (yX3_init, cX3_init, 2, (none), { frames := 1, cells := 2, slots := 19, locals := 200 }, [])
theorem cee_X3_init : q_cee M_X3_init := ⟨rfl, wd_62, wd_5, by decide, by decide⟩
theorem np_X3_init : q_np M_X3_init 0 := by unfold q_np; decide +kernel
def M_X3_placeBalloons : qM := (yX3_placeBalloons, cX3_placeBalloons, 10, (some .boolean), { frames := 5, cells := 0, slots := 0, locals := 288 }, [])
theorem cee_X3_placeBalloons : q_cee M_X3_placeBalloons := ⟨rfl, wd_469, wd_5, by decide, by decide⟩
theorem np_X3_placeBalloons : q_np M_X3_placeBalloons 1 := by unfold q_np; decide +kernel
def M_X3_putRow : qM := (yX3_putRow, cX3_putRow, 7, (none), { frames := 4, cells := 0, slots := 0, locals := 264 }, [])
theorem cee_X3_putRow : q_cee M_X3_putRow := ⟨rfl, wd_508, wd_5, by decide, by decide⟩
theorem np_X3_putRow : q_np M_X3_putRow 4 := by unfold q_np; decide +kernel
def M_X3_shareWidth : qM := (yX3_shareWidth, cX3_shareWidth, 9, (none), { frames := 4, cells := 0, slots := 0, locals := 264 }, [])
theorem cee_X3_shareWidth : q_cee M_X3_shareWidth := ⟨rfl, wd_456, wd_5, by decide, by decide⟩
theorem np_X3_shareWidth : q_np M_X3_shareWidth 4 := by unfold q_np; decide +kernel
def M_X3_take : qM := (yX3_take, cX3_take, 6, (none), { frames := 1, cells := 0, slots := 0, locals := 200 }, [])
theorem cee_X3_take : q_cee M_X3_take := ⟨rfl, wd_482, wd_5, by decide, by decide⟩
theorem np_X3_take : q_np M_X3_take 4 := by unfold q_np; decide +kernel
def M_X3_takeFaces : qM := (yX3_takeFaces, cX3_takeFaces, 5, (none), { frames := 4, cells := 0, slots := 0, locals := 264 }, [])
theorem cee_X3_takeFaces : q_cee M_X3_takeFaces := ⟨rfl, wd_477, wd_5, by decide, by decide⟩
theorem np_X3_takeFaces : q_np M_X3_takeFaces 1 := by unfold q_np; decide +kernel
def M_X3_takenBetween : qM := (yX3_takenBetween, cX3_takenBetween, 5, (some .int), { frames := 1, cells := 0, slots := 0, locals := 200 }, [])
theorem cee_X3_takenBetween : q_cee M_X3_takenBetween := ⟨rfl, wd_502, wd_5, by decide, by decide⟩
theorem np_X3_takenBetween : q_np M_X3_takenBetween 2 := by unfold q_np; decide +kernel
def M_X3_tryPage : qM := (yX3_tryPage, cX3_tryPage, 7, (some .boolean), { frames := 8, cells := 0, slots := 0, locals := 368 }, [])
theorem cee_X3_tryPage : q_cee M_X3_tryPage := ⟨rfl, wd_450, wd_5, by decide, by decide⟩
theorem np_X3_tryPage : q_np M_X3_tryPage 1 := by unfold q_np; decide +kernel
def M_X4_indexOf : qM := (yX4_indexOf, cX4_indexOf, 3, (some .int), { frames := 4, cells := 0, slots := 0, locals := 264 }, [])
theorem cee_X4_indexOf : q_cee M_X4_indexOf := ⟨rfl, wd_555, wd_11, by decide, by decide⟩
theorem np_X4_indexOf : q_np M_X4_indexOf 1 := by unfold q_np; decide +kernel
def M_X4_init : qM := (yX4_init, cX4_init, 2, (none), { frames := 4, cells := 1, slots := 3, locals := 260 }, [])
theorem cee_X4_init : q_cee M_X4_init := ⟨rfl, wd_188, wd_11, by decide, by decide⟩
theorem np_X4_init : q_np M_X4_init 1 := by unfold q_np; decide +kernel
def M_X4_isFromRight : qM := (yX4_isFromRight, cX4_isFromRight, 1, (some .boolean), { frames := 0, cells := 0, slots := 0, locals := 0 }, [])
theorem cee_X4_isFromRight : q_cee M_X4_isFromRight := ⟨rfl, wd_473, wd_11, by decide, by decide⟩
theorem np_X4_isFromRight : q_np M_X4_isFromRight 0 := by unfold q_np; decide +kernel
def M_X4_keepTrial : qM := (yX4_keepTrial, cX4_keepTrial, 4, (some .int), { frames := 5, cells := 0, slots := 0, locals := 285 }, [])
theorem cee_X4_keepTrial : q_cee M_X4_keepTrial := ⟨rfl, wd_525, wd_11, by decide, by decide⟩
theorem np_X4_keepTrial : q_np M_X4_keepTrial 0 := by unfold q_np; decide +kernel
def M_X4_putIn : qM := (yX4_putIn, cX4_putIn, 3, (none), { frames := 6, cells := 2, slots := 400, locals := 311 }, [])
theorem cee_X4_putIn : q_cee M_X4_putIn := ⟨rfl, wd_436, wd_11, by decide, by decide⟩
theorem np_X4_putIn : q_np M_X4_putIn 2 := by unfold q_np; decide +kernel
def M_X4_takeOut : qM := (yX4_takeOut, cX4_takeOut, 2, (none), { frames := 4, cells := 0, slots := 0, locals := 266 }, [])
theorem cee_X4_takeOut : q_cee M_X4_takeOut := ⟨rfl, wd_512, wd_11, by decide, by decide⟩
theorem np_X4_takeOut : q_np M_X4_takeOut 1 := by unfold q_np; decide +kernel
def M_X5_dropLastFace : qM := (yX5_dropLastFace, cX5_dropLastFace, 1, (none), { frames := 4, cells := 0, slots := 0, locals := 266 }, [])
theorem cee_X5_dropLastFace : q_cee M_X5_dropLastFace := ⟨rfl, wd_626, wd_20, by decide, by decide⟩
theorem np_X5_dropLastFace : q_np M_X5_dropLastFace 0 := by unfold q_np; decide +kernel
def M_X5_hasFaceAt : qM := (yX5_hasFaceAt, cX5_hasFaceAt, 5, (some .boolean), { frames := 4, cells := 0, slots := 0, locals := 264 }, [])
theorem cee_X5_hasFaceAt : q_cee M_X5_hasFaceAt := ⟨rfl, wd_819, wd_20, by decide, by decide⟩
theorem np_X5_hasFaceAt : q_np M_X5_hasFaceAt 2 := by unfold q_np; decide +kernel
def M_X5_indexOf : qM := (yX5_indexOf, cX5_indexOf, 3, (some .int), { frames := 4, cells := 0, slots := 0, locals := 264 }, [])
theorem cee_X5_indexOf : q_cee M_X5_indexOf := ⟨rfl, wd_569, wd_20, by decide, by decide⟩
theorem np_X5_indexOf : q_np M_X5_indexOf 1 := by unfold q_np; decide +kernel
def M_X5_init : qM := (yX5_init, cX5_init, 6, (none), { frames := 4, cells := 4, slots := 14, locals := 260 }, [])
theorem cee_X5_init : q_cee M_X5_init := ⟨rfl, wd_343, wd_20, by decide, by decide⟩
theorem np_X5_init : q_np M_X5_init 5 := by unfold q_np; decide +kernel
def M_X5_keepTrial : qM := (yX5_keepTrial, cX5_keepTrial, 2, (none), { frames := 4, cells := 0, slots := 0, locals := 264 }, [])
theorem cee_X5_keepTrial : q_cee M_X5_keepTrial := ⟨rfl, wd_535, wd_20, by decide, by decide⟩
theorem np_X5_keepTrial : q_np M_X5_keepTrial 0 := by unfold q_np; decide +kernel
def M_X5_leave : qM := (yX5_leave, cX5_leave, 2, (none), { frames := 4, cells := 0, slots := 0, locals := 264 }, [])
theorem cee_X5_leave : q_cee M_X5_leave := ⟨rfl, wd_591, wd_20, by decide, by decide⟩
theorem np_X5_leave : q_np M_X5_leave 0 := by unfold q_np; decide +kernel
def M_X5_putIn : qM := (yX5_putIn, cX5_putIn, 3, (none), { frames := 6, cells := 2, slots := 400, locals := 311 }, [])
theorem cee_X5_putIn : q_cee M_X5_putIn := ⟨rfl, wd_673, wd_20, by decide, by decide⟩
theorem np_X5_putIn : q_np M_X5_putIn 2 := by unfold q_np; decide +kernel
def M_X5_takeOut : qM := (yX5_takeOut, cX5_takeOut, 2, (none), { frames := 4, cells := 0, slots := 0, locals := 266 }, [])
theorem cee_X5_takeOut : q_cee M_X5_takeOut := ⟨rfl, wd_678, wd_20, by decide, by decide⟩
theorem np_X5_takeOut : q_np M_X5_takeOut 1 := by unfold q_np; decide +kernel
def M_X6_beginAt : qM := (yX6_beginAt, cX6_beginAt, 2, (none), { frames := 0, cells := 0, slots := 0, locals := 0 }, [])
theorem cee_X6_beginAt : q_cee M_X6_beginAt := ⟨rfl, wd_759, wd_6, by decide, by decide⟩
theorem np_X6_beginAt : q_np M_X6_beginAt 1 := by unfold q_np; decide +kernel
def M_X6_forget : qM := (yX6_forget, cX6_forget, 5, (none), { frames := 0, cells := 0, slots := 0, locals := 0 }, [])
theorem cee_X6_forget : q_cee M_X6_forget := ⟨rfl, wd_595, wd_6, by decide, by decide⟩
theorem np_X6_forget : q_np M_X6_forget 2 := by unfold q_np; decide +kernel
def M_X6_goBack : qM := (yX6_goBack, cX6_goBack, 1, (some .boolean), { frames := 0, cells := 0, slots := 0, locals := 0 }, [])
theorem cee_X6_goBack : q_cee M_X6_goBack := ⟨rfl, wd_778, wd_6, by decide, by decide⟩
theorem np_X6_goBack : q_np M_X6_goBack 0 := by unfold q_np; decide +kernel
def M_X6_goTo : qM := (yX6_goTo, cX6_goTo, 2, (none), { frames := 0, cells := 0, slots := 0, locals := 0 }, [])
theorem cee_X6_goTo : q_cee M_X6_goTo := ⟨rfl, wd_770, wd_6, by decide, by decide⟩
theorem np_X6_goTo : q_np M_X6_goTo 1 := by unfold q_np; decide +kernel
def M_X6_init : qM := (yX6_init, cX6_init, 1, (none), { frames := 1, cells := 1, slots := 512, locals := 200 }, [])
theorem cee_X6_init : q_cee M_X6_init := ⟨rfl, wd_77, wd_6, by decide, by decide⟩
theorem np_X6_init : q_np M_X6_init 0 := by unfold q_np; decide +kernel
def M_X7_answer : qM := (yX7_answer, cX7_answer, 6, (some .int), { frames := 7, cells := 3, slots := 18, locals := 308 }, [])
theorem cee_X7_answer : q_cee M_X7_answer := ⟨rfl, wd_709, wd_1, by decide, by decide⟩
theorem np_X7_answer : q_np M_X7_answer 2 := by unfold q_np; decide +kernel
def M_X7_answersComeLater : qM := (yX7_answersComeLater, cX7_answersComeLater, 3, (some .boolean), { frames := 6, cells := 0, slots := 0, locals := 308 }, [])
theorem cee_X7_answersComeLater : q_cee M_X7_answersComeLater := ⟨rfl, wd_559, wd_1, by decide, by decide⟩
theorem np_X7_answersComeLater : q_np M_X7_answersComeLater 0 := by unfold q_np; decide +kernel
def M_X7_back : qM := (yX7_back, cX7_back, 1, (some .int), { frames := 1, cells := 0, slots := 0, locals := 20 }, [])
theorem cee_X7_back : q_cee M_X7_back := ⟨rfl, wd_774, wd_1, by decide, by decide⟩
theorem np_X7_back : q_np M_X7_back 0 := by unfold q_np; decide +kernel
def M_X7_balloon : qM := (yX7_balloon, cX7_balloon, 6, (some .int), { frames := 9, cells := 12, slots := 845, locals := 394 }, [])
theorem cee_X7_balloon : q_cee M_X7_balloon := ⟨rfl, wd_631, wd_1, by decide, by decide⟩
theorem np_X7_balloon : q_np M_X7_balloon 3 := by unfold q_np; decide +kernel
def M_X7_balloonReadAt : qM := (yX7_balloonReadAt, cX7_balloonReadAt, 7, (some (.object "GutterPages$Balloon")), { frames := 4, cells := 0, slots := 0, locals := 264 }, [])
theorem cee_X7_balloonReadAt : q_cee M_X7_balloonReadAt := ⟨rfl, wd_841, wd_1, by decide, by decide⟩
theorem np_X7_balloonReadAt : q_np M_X7_balloonReadAt 1 := by unfold q_np; decide +kernel
def M_X7_balloons : qM := (yX7_balloons, cX7_balloons, 3, (some .int), { frames := 4, cells := 0, slots := 0, locals := 264 }, [])
theorem cee_X7_balloons : q_cee M_X7_balloons := ⟨rfl, wd_739, wd_1, by decide, by decide⟩
theorem np_X7_balloons : q_np M_X7_balloons 0 := by unfold q_np; decide +kernel
def M_X7_cell : qM := (yX7_cell, cX7_cell, 6, (some .int), { frames := 7, cells := 3, slots := 18, locals := 288 }, [])
theorem cee_X7_cell : q_cee M_X7_cell := ⟨rfl, wd_811, wd_1, by decide, by decide⟩
theorem np_X7_cell : q_np M_X7_cell 3 := by unfold q_np; decide +kernel
def M_X7_countReadBefore : qM := (yX7_countReadBefore, cX7_countReadBefore, 6, (some .int), { frames := 6, cells := 0, slots := 0, locals := 308 }, [])
theorem cee_X7_countReadBefore : q_cee M_X7_countReadBefore := ⟨rfl, wd_747, wd_1, by decide, by decide⟩
theorem np_X7_countReadBefore : q_np M_X7_countReadBefore 1 := by unfold q_np; decide +kernel
def M_X7_cutBalloon : qM := (yX7_cutBalloon, cX7_cutBalloon, 5, (some .int), { frames := 9, cells := 5, slots := 418, locals := 394 }, [])
theorem cee_X7_cutBalloon : q_cee M_X7_cutBalloon := ⟨rfl, wd_700, wd_1, by decide, by decide⟩
theorem np_X7_cutBalloon : q_np M_X7_cutBalloon 1 := by unfold q_np; decide +kernel
def M_X7_cutPanel : qM := (yX7_cutPanel, cX7_cutPanel, 6, (some .int), { frames := 9, cells := 5, slots := 418, locals := 394 }, [])
theorem cee_X7_cutPanel : q_cee M_X7_cutPanel := ⟨rfl, wd_574, wd_1, by decide, by decide⟩
theorem np_X7_cutPanel : q_np M_X7_cutPanel 1 := by unfold q_np; decide +kernel
def M_X7_depth : qM := (yX7_depth, cX7_depth, 5, (some .int), { frames := 7, cells := 1, slots := 6, locals := 285 }, [])
theorem cee_X7_depth : q_cee M_X7_depth := ⟨rfl, wd_751, wd_1, by decide, by decide⟩
theorem np_X7_depth : q_np M_X7_depth 1 := by unfold q_np; decide +kernel
def M_X7_face : qM := (yX7_face, cX7_face, 6, (some .int), { frames := 9, cells := 9, slots := 439, locals := 394 }, [])
theorem cee_X7_face : q_cee M_X7_face := ⟨rfl, wd_599, wd_1, by decide, by decide⟩
theorem np_X7_face : q_np M_X7_face 4 := by unfold q_np; decide +kernel
def M_X7_floats : qM := (yX7_floats, cX7_floats, 4, (some .int), { frames := 7, cells := 2, slots := 12, locals := 285 }, [])
theorem cee_X7_floats : q_cee M_X7_floats := ⟨rfl, wd_807, wd_1, by decide, by decide⟩
theorem np_X7_floats : q_np M_X7_floats 2 := by unfold q_np; decide +kernel
def M_X7_forth : qM := (yX7_forth, cX7_forth, 2, (some .int), { frames := 5, cells := 0, slots := 0, locals := 289 }, [])
theorem cee_X7_forth : q_cee M_X7_forth := ⟨rfl, wd_766, wd_1, by decide, by decide⟩
theorem np_X7_forth : q_np M_X7_forth 0 := by unfold q_np; decide +kernel
def M_X7_here : qM := (yX7_here, cX7_here, 1, (some .int), { frames := 1, cells := 0, slots := 0, locals := 20 }, [])
theorem cee_X7_here : q_cee M_X7_here := ⟨rfl, wd_782, wd_1, by decide, by decide⟩
theorem np_X7_here : q_np M_X7_here 0 := by unfold q_np; decide +kernel
def M_X7_init : qM := (yX7_init, cX7_init, 1, (none), { frames := 4, cells := 8, slots := 545, locals := 260 }, [])
theorem cee_X7_init : q_cee M_X7_init := ⟨rfl, wd_28, wd_1, by decide, by decide⟩
theorem np_X7_init : q_np M_X7_init 0 := by unfold q_np; decide +kernel
def M_X7_isAnswered : qM := (yX7_isAnswered, cX7_isAnswered, 4, (some .boolean), { frames := 4, cells := 0, slots := 0, locals := 264 }, [])
theorem cee_X7_isAnswered : q_cee M_X7_isAnswered := ⟨rfl, wd_704, wd_1, by decide, by decide⟩
theorem np_X7_isAnswered : q_np M_X7_isAnswered 1 := by unfold q_np; decide +kernel
def M_X7_isAnsweredFromElsewhere : qM := (yX7_isAnsweredFromElsewhere, cX7_isAnsweredFromElsewhere, 4, (some .boolean), { frames := 4, cells := 0, slots := 0, locals := 264 }, [])
theorem cee_X7_isAnsweredFromElsewhere : q_cee M_X7_isAnsweredFromElsewhere := ⟨rfl, wd_578, wd_1, by decide, by decide⟩
theorem np_X7_isAnsweredFromElsewhere : q_np M_X7_isAnsweredFromElsewhere 1 := by unfold q_np; decide +kernel
def M_X7_lies : qM := (yX7_lies, cX7_lies, 4, (some .int), { frames := 7, cells := 2, slots := 12, locals := 285 }, [])
theorem cee_X7_lies : q_cee M_X7_lies := ⟨rfl, wd_731, wd_1, by decide, by decide⟩
theorem np_X7_lies : q_np M_X7_lies 2 := by unfold q_np; decide +kernel
def M_X7_moveBalloon : qM := (yX7_moveBalloon, cX7_moveBalloon, 8, (none), { frames := 9, cells := 9, slots := 830, locals := 394 }, [])
theorem cee_X7_moveBalloon : q_cee M_X7_moveBalloon := ⟨rfl, wd_682, wd_1, by decide, by decide⟩
theorem np_X7_moveBalloon : q_np M_X7_moveBalloon 3 := by unfold q_np; decide +kernel
def M_X7_movePanel : qM := (yX7_movePanel, cX7_movePanel, 6, (some .int), { frames := 9, cells := 7, slots := 818, locals := 394 }, [])
theorem cee_X7_movePanel : q_cee M_X7_movePanel := ⟨rfl, wd_546, wd_1, by decide, by decide⟩
theorem np_X7_movePanel : q_np M_X7_movePanel 2 := by unfold q_np; decide +kernel
def M_X7_needBalloon : qM := (yX7_needBalloon, cX7_needBalloon, 2, (some (.object "GutterPages$Balloon")), { frames := 6, cells := 1, slots := 6, locals := 264 }, [])
theorem cee_X7_needBalloon : q_cee M_X7_needBalloon := ⟨rfl, wd_686, wd_1, by decide, by decide⟩
theorem np_X7_needBalloon : q_np M_X7_needBalloon 1 := by unfold q_np; decide +kernel
def M_X7_needPage : qM := (yX7_needPage, cX7_needPage, 2, (some (.object "GutterPages$Page")), { frames := 6, cells := 1, slots := 6, locals := 264 }, [])
theorem cee_X7_needPage : q_cee M_X7_needPage := ⟨rfl, wd_284, wd_1, by decide, by decide⟩
theorem np_X7_needPage : q_np M_X7_needPage 1 := by unfold q_np; decide +kernel
def M_X7_needPanel : qM := (yX7_needPanel, cX7_needPanel, 2, (some (.object "GutterPages$Panel")), { frames := 6, cells := 1, slots := 6, locals := 264 }, [])
theorem cee_X7_needPanel : q_cee M_X7_needPanel := ⟨rfl, wd_550, wd_1, by decide, by decide⟩
theorem np_X7_needPanel : q_np M_X7_needPanel 1 := by unfold q_np; decide +kernel
def M_X7_needPlace : qM := (yX7_needPlace, cX7_needPlace, 2, (none), { frames := 6, cells := 1, slots := 6, locals := 200 }, [])
theorem cee_X7_needPlace : q_cee M_X7_needPlace := ⟨rfl, wd_317, wd_1, by decide, by decide⟩
theorem np_X7_needPlace : q_np M_X7_needPlace 2 := by unfold q_np; decide +kernel
def M_X7_needWithin : qM := (yX7_needWithin, cX7_needWithin, 3, (none), { frames := 6, cells := 1, slots := 6, locals := 200 }, [])
theorem cee_X7_needWithin : q_cee M_X7_needWithin := ⟨rfl, wd_321, wd_1, by decide, by decide⟩
theorem np_X7_needWithin : q_np M_X7_needWithin 3 := by unfold q_np; decide +kernel
def M_X7_numberOf : qM := (yX7_numberOf, cX7_numberOf, 1, (some .int), { frames := 0, cells := 0, slots := 0, locals := 0 }, [])
theorem cee_X7_numberOf : q_cee M_X7_numberOf := ⟨rfl, wd_762, wd_1, by decide, by decide⟩
theorem np_X7_numberOf : q_np M_X7_numberOf 1 := by unfold q_np; decide +kernel
def M_X7_open : qM := (yX7_open, cX7_open, 1, (some .int), { frames := 5, cells := 0, slots := 0, locals := 289 }, [])
theorem cee_X7_open : q_cee M_X7_open := ⟨rfl, wd_755, wd_1, by decide, by decide⟩
theorem np_X7_open : q_np M_X7_open 0 := by unfold q_np; decide +kernel
def M_X7_page : qM := (yX7_page, cX7_page, 2, (some .int), { frames := 7, cells := 5, slots := 415, locals := 331 }, [])
theorem cee_X7_page : q_cee M_X7_page := ⟨rfl, wd_111, wd_1, by decide, by decide⟩
theorem np_X7_page : q_np M_X7_page 0 := by unfold q_np; decide +kernel
def M_X7_pages : qM := (yX7_pages, cX7_pages, 1, (some .int), { frames := 1, cells := 0, slots := 0, locals := 20 }, [])
theorem cee_X7_pages : q_cee M_X7_pages := ⟨rfl, wd_723, wd_1, by decide, by decide⟩
theorem np_X7_pages : q_np M_X7_pages 0 := by unfold q_np; decide +kernel
def M_X7_panel : qM := (yX7_panel, cX7_panel, 8, (some .int), { frames := 9, cells := 16, slots := 868, locals := 394 }, [])
theorem cee_X7_panel : q_cee M_X7_panel := ⟨rfl, wd_280, wd_1, by decide, by decide⟩
theorem np_X7_panel : q_np M_X7_panel 5 := by unfold q_np; decide +kernel
def M_X7_panelAt : qM := (yX7_panelAt, cX7_panelAt, 4, (some .int), { frames := 7, cells := 2, slots := 12, locals := 285 }, [])
theorem cee_X7_panelAt : q_cee M_X7_panelAt := ⟨rfl, wd_800, wd_1, by decide, by decide⟩
theorem np_X7_panelAt : q_np M_X7_panelAt 2 := by unfold q_np; decide +kernel
def M_X7_panels : qM := (yX7_panels, cX7_panels, 2, (some .int), { frames := 7, cells := 1, slots := 6, locals := 285 }, [])
theorem cee_X7_panels : q_cee M_X7_panels := ⟨rfl, wd_727, wd_1, by decide, by decide⟩
theorem np_X7_panels : q_np M_X7_panels 1 := by unfold q_np; decide +kernel
def M_X7_placeByPairs : qM := (yX7_placeByPairs, cX7_placeByPairs, 6, (some .int), { frames := 7, cells := 1, slots := 6, locals := 285 }, [])
theorem cee_X7_placeByPairs : q_cee M_X7_placeByPairs := ⟨rfl, wd_824, wd_1, by decide, by decide⟩
theorem np_X7_placeByPairs : q_np M_X7_placeByPairs 1 := by unfold q_np; decide +kernel
def M_X7_placeOf : qM := (yX7_placeOf, cX7_placeOf, 2, (some .int), { frames := 7, cells := 1, slots := 6, locals := 333 }, [])
theorem cee_X7_placeOf : q_cee M_X7_placeOf := ⟨rfl, wd_743, wd_1, by decide, by decide⟩
theorem np_X7_placeOf : q_np M_X7_placeOf 1 := by unfold q_np; decide +kernel
def M_X7_read : qM := (yX7_read, cX7_read, 3, (some .int), { frames := 6, cells := 1, slots := 6, locals := 290 }, [])
theorem cee_X7_read : q_cee M_X7_read := ⟨rfl, wd_837, wd_1, by decide, by decide⟩
theorem np_X7_read : q_np M_X7_read 1 := by unfold q_np; decide +kernel
def M_X7_readAheadOf : qM := (yX7_readAheadOf, cX7_readAheadOf, 6, (some (.object "GutterPages$Panel")), { frames := 4, cells := 0, slots := 0, locals := 264 }, [])
theorem cee_X7_readAheadOf : q_cee M_X7_readAheadOf := ⟨rfl, wd_587, wd_1, by decide, by decide⟩
theorem np_X7_readAheadOf : q_np M_X7_readAheadOf 1 := by unfold q_np; decide +kernel
def M_X7_readBehind : qM := (yX7_readBehind, cX7_readBehind, 6, (some (.object "GutterPages$Panel")), { frames := 4, cells := 0, slots := 0, locals := 264 }, [])
theorem cee_X7_readBehind : q_cee M_X7_readBehind := ⟨rfl, wd_583, wd_1, by decide, by decide⟩
theorem np_X7_readBehind : q_np M_X7_readBehind 1 := by unfold q_np; decide +kernel
def M_X7_roundedUp : qM := (yX7_roundedUp, cX7_roundedUp, 2, (some .int), { frames := 0, cells := 0, slots := 0, locals := 0 }, [])
theorem cee_X7_roundedUp : q_cee M_X7_roundedUp := ⟨rfl, wd_493, wd_1, by decide, by decide⟩
theorem np_X7_roundedUp : q_np M_X7_roundedUp 2 := by unfold q_np; decide +kernel
def M_X7_rows : qM := (yX7_rows, cX7_rows, 2, (some .int), { frames := 7, cells := 1, slots := 6, locals := 285 }, [])
theorem cee_X7_rows : q_cee M_X7_rows := ⟨rfl, wd_796, wd_1, by decide, by decide⟩
theorem np_X7_rows : q_np M_X7_rows 1 := by unfold q_np; decide +kernel
def M_X7_setGrowth : qM := (yX7_setGrowth, cX7_setGrowth, 6, (some .int), { frames := 9, cells := 3, slots := 18, locals := 394 }, [])
theorem cee_X7_setGrowth : q_cee M_X7_setGrowth := ⟨rfl, wd_718, wd_1, by decide, by decide⟩
theorem np_X7_setGrowth : q_np M_X7_setGrowth 2 := by unfold q_np; decide +kernel
def M_X7_translate : qM := (yX7_translate, cX7_translate, 5, (some .int), { frames := 9, cells := 3, slots := 18, locals := 394 }, [])
theorem cee_X7_translate : q_cee M_X7_translate := ⟨rfl, wd_714, wd_1, by decide, by decide⟩
theorem np_X7_translate : q_np M_X7_translate 2 := by unfold q_np; decide +kernel
def M_X7_turned : qM := (yX7_turned, cX7_turned, 4, (some .int), { frames := 0, cells := 0, slots := 0, locals := 0 }, [])
theorem cee_X7_turned : q_cee M_X7_turned := ⟨rfl, wd_505, wd_1, by decide, by decide⟩
theorem np_X7_turned : q_np M_X7_turned 4 := by unfold q_np; decide +kernel
