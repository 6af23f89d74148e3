theorem dX8_stands_83 : decode cX8_stands 83 = .ok (.iload_n 2, 1) := by decide +kernel
theorem dX8_stands_84 : decode cX8_stands 84 = .ok (.if_icmp .ge 55, 3) := by decide +kernel
theorem dX8_stands_87 : decode cX8_stands 87 = .ok (.iload_n 3, 1) := by decide +kernel
theorem dX8_stands_88 : decode cX8_stands 88 = .ok (.iconst 1, 1) := by decide +kernel
theorem dX8_stands_89 : decode cX8_stands 89 = .ok (.isub, 1) := by decide +kernel
theorem dX8_stands_90 : decode cX8_stands 90 = .ok (.istore 7, 2) := by decide +kernel
theorem dX8_stands_92 : decode cX8_stands 92 = .ok (.iload 7, 2) := by decide +kernel
theorem dX8_stands_94 : decode cX8_stands 94 = .ok (.iload_n 3, 1) := by decide +kernel
theorem dX8_stands_95 : decode cX8_stands 95 = .ok (.aload_n 0, 1) := by decide +kernel
theorem dX8_stands_96 : decode cX8_stands 96 = .ok (.getfield 41, 3) := by decide +kernel
theorem dX8_stands_99 : decode cX8_stands 99 = .ok (.iload 5, 2) := by decide +kernel
theorem dX8_stands_101 : decode cX8_stands 101 = .ok (.iconst 2, 1) := by decide +kernel
theorem dX8_stands_102 : decode cX8_stands 102 = .ok (.iadd, 1) := by decide +kernel
theorem dX8_stands_103 : decode cX8_stands 103 = .ok (.iaload, 1) := by decide +kernel
theorem dX8_stands_104 : decode cX8_stands 104 = .ok (.isub, 1) := by decide +kernel
theorem dX8_stands_105 : decode cX8_stands 105 = .ok (.if_icmp .lt 28, 3) := by decide +kernel
theorem dX8_stands_108 : decode cX8_stands 108 = .ok (.iload 7, 2) := by decide +kernel
theorem dX8_stands_110 : decode cX8_stands 110 = .ok (.ifCond .lt 23, 3) := by decide +kernel
theorem dX8_stands_113 : decode cX8_stands 113 = .ok (.aload_n 0, 1) := by decide +kernel
theorem dX8_stands_114 : decode cX8_stands 114 = .ok (.getfield 65, 3) := by decide +kernel
theorem dX8_stands_117 : decode cX8_stands 117 = .ok (.iload_n 2, 1) := by decide +kernel
theorem dX8_stands_118 : decode cX8_stands 118 = .ok (.iload 7, 2) := by decide +kernel
theorem dX8_stands_120 : decode cX8_stands 120 = .ok (.imul, 1) := by decide +kernel
theorem dX8_stands_121 : decode cX8_stands 121 = .ok (.iload 6, 2) := by decide +kernel
theorem dX8_stands_123 : decode cX8_stands 123 = .ok (.iadd, 1) := by decide +kernel
theorem dX8_stands_124 : decode cX8_stands 124 = .ok (.bipush (-2), 2) := by decide +kernel
theorem dX8_stands_126 : decode cX8_stands 126 = .ok (.iastore, 1) := by decide +kernel
theorem dX8_stands_127 : decode cX8_stands 127 = .ok (.iinc 7 (-1), 3) := by decide +kernel
theorem dX8_stands_130 : decode cX8_stands 130 = .ok (.goto (-38), 3) := by decide +kernel
theorem dX8_stands_133 : decode cX8_stands 133 = .ok (.iinc 6 1, 3) := by decide +kernel
theorem dX8_stands_136 : decode cX8_stands 136 = .ok (.goto (-77), 3) := by decide +kernel
theorem dX8_stands_139 : decode cX8_stands 139 = .ok (.iinc 4 1, 3) := by decide +kernel
theorem dX8_stands_142 : decode cX8_stands 142 = .ok (.goto (-114), 3) := by decide +kernel
theorem dX8_stands_145 : decode cX8_stands 145 = .ok (.return_, 1) := by decide +kernel
theorem dX8_stays_0 : decode cX8_stays 0 = .ok (.aload_n 0, 1) := by decide +kernel
theorem dX8_stays_1 : decode cX8_stays 1 = .ok (.invokevirtual 166, 3) := by decide +kernel
theorem dX8_stays_4 : decode cX8_stays 4 = .ok (.ifCond .eq 12, 3) := by decide +kernel
theorem dX8_stays_7 : decode cX8_stays 7 = .ok (.aload_n 0, 1) := by decide +kernel
theorem dX8_stays_8 : decode cX8_stays 8 = .ok (.invokevirtual 170, 3) := by decide +kernel
theorem dX8_stays_11 : decode cX8_stays 11 = .ok (.ifCond .eq 5, 3) := by decide +kernel
theorem dX8_stays_14 : decode cX8_stays 14 = .ok (.iconst 1, 1) := by decide +kernel
theorem dX8_stays_15 : decode cX8_stays 15 = .ok (.ireturn, 1) := by decide +kernel
theorem dX8_stays_16 : decode cX8_stays 16 = .ok (.aload_n 0, 1) := by decide +kernel
theorem dX8_stays_17 : decode cX8_stays 17 = .ok (.getfield 71, 3) := by decide +kernel
theorem dX8_stays_20 : decode cX8_stays 20 = .ok (.aload_n 0, 1) := by decide +kernel
theorem dX8_stays_21 : decode cX8_stays 21 = .ok (.getfield 7, 3) := by decide +kernel
theorem dX8_stays_24 : decode cX8_stays 24 = .ok (.invokestatic 162, 3) := by decide +kernel
theorem dX8_stays_27 : decode cX8_stays 27 = .ok (.aload_n 0, 1) := by decide +kernel
theorem dX8_stays_28 : decode cX8_stays 28 = .ok (.getfield 74, 3) := by decide +kernel
theorem dX8_stays_31 : decode cX8_stays 31 = .ok (.aload_n 0, 1) := by decide +kernel
theorem dX8_stays_32 : decode cX8_stays 32 = .ok (.getfield 13, 3) := by decide +kernel
theorem dX8_stays_35 : decode cX8_stays 35 = .ok (.invokestatic 162, 3) := by decide +kernel
theorem dX8_stays_38 : decode cX8_stays 38 = .ok (.aload_n 0, 1) := by decide +kernel
theorem dX8_stays_39 : decode cX8_stays 39 = .ok (.getfield 77, 3) := by decide +kernel
theorem dX8_stays_42 : decode cX8_stays 42 = .ok (.aload_n 0, 1) := by decide +kernel
theorem dX8_stays_43 : decode cX8_stays 43 = .ok (.getfield 16, 3) := by decide +kernel
theorem dX8_stays_46 : decode cX8_stays 46 = .ok (.invokestatic 162, 3) := by decide +kernel
theorem dX8_stays_49 : decode cX8_stays 49 = .ok (.aload_n 0, 1) := by decide +kernel
theorem dX8_stays_50 : decode cX8_stays 50 = .ok (.getfield 80, 3) := by decide +kernel
theorem dX8_stays_53 : decode cX8_stays 53 = .ok (.aload_n 0, 1) := by decide +kernel
theorem dX8_stays_54 : decode cX8_stays 54 = .ok (.getfield 23, 3) := by decide +kernel
theorem dX8_stays_57 : decode cX8_stays 57 = .ok (.invokestatic 162, 3) := by decide +kernel
theorem dX8_stays_60 : decode cX8_stays 60 = .ok (.aload_n 0, 1) := by decide +kernel
theorem dX8_stays_61 : decode cX8_stays 61 = .ok (.getfield 83, 3) := by decide +kernel
theorem dX8_stays_64 : decode cX8_stays 64 = .ok (.aload_n 0, 1) := by decide +kernel
theorem dX8_stays_65 : decode cX8_stays 65 = .ok (.getfield 26, 3) := by decide +kernel
theorem dX8_stays_68 : decode cX8_stays 68 = .ok (.invokestatic 162, 3) := by decide +kernel
theorem dX8_stays_71 : decode cX8_stays 71 = .ok (.aload_n 0, 1) := by decide +kernel
theorem dX8_stays_72 : decode cX8_stays 72 = .ok (.getfield 86, 3) := by decide +kernel
theorem dX8_stays_75 : decode cX8_stays 75 = .ok (.aload_n 0, 1) := by decide +kernel
theorem dX8_stays_76 : decode cX8_stays 76 = .ok (.getfield 38, 3) := by decide +kernel
theorem dX8_stays_79 : decode cX8_stays 79 = .ok (.invokestatic 162, 3) := by decide +kernel
theorem dX8_stays_82 : decode cX8_stays 82 = .ok (.aload_n 0, 1) := by decide +kernel
theorem dX8_stays_83 : decode cX8_stays 83 = .ok (.getfield 89, 3) := by decide +kernel
theorem dX8_stays_86 : decode cX8_stays 86 = .ok (.aload_n 0, 1) := by decide +kernel
theorem dX8_stays_87 : decode cX8_stays 87 = .ok (.getfield 44, 3) := by decide +kernel
theorem dX8_stays_90 : decode cX8_stays 90 = .ok (.invokestatic 162, 3) := by decide +kernel
theorem dX8_stays_93 : decode cX8_stays 93 = .ok (.aload_n 0, 1) := by decide +kernel
theorem dX8_stays_94 : decode cX8_stays 94 = .ok (.getfield 92, 3) := by decide +kernel
theorem dX8_stays_97 : decode cX8_stays 97 = .ok (.aload_n 0, 1) := by decide +kernel
theorem dX8_stays_98 : decode cX8_stays 98 = .ok (.getfield 47, 3) := by decide +kernel
theorem dX8_stays_101 : decode cX8_stays 101 = .ok (.invokestatic 162, 3) := by decide +kernel
theorem dX8_stays_104 : decode cX8_stays 104 = .ok (.aload_n 0, 1) := by decide +kernel
theorem dX8_stays_105 : decode cX8_stays 105 = .ok (.getfield 95, 3) := by decide +kernel
theorem dX8_stays_108 : decode cX8_stays 108 = .ok (.aload_n 0, 1) := by decide +kernel
theorem dX8_stays_109 : decode cX8_stays 109 = .ok (.getfield 50, 3) := by decide +kernel
theorem dX8_stays_112 : decode cX8_stays 112 = .ok (.invokestatic 162, 3) := by decide +kernel
theorem dX8_stays_115 : decode cX8_stays 115 = .ok (.aload_n 0, 1) := by decide +kernel
theorem dX8_stays_116 : decode cX8_stays 116 = .ok (.invokevirtual 166, 3) := by decide +kernel
theorem dX8_stays_119 : decode cX8_stays 119 = .ok (.pop, 1) := by decide +kernel
theorem dX8_stays_120 : decode cX8_stays 120 = .ok (.iconst 0, 1) := by decide +kernel
theorem dX8_stays_121 : decode cX8_stays 121 = .ok (.ireturn, 1) := by decide +kernel
theorem dX8_thrown_0 : decode cX8_thrown 0 = .ok (.aload_n 0, 1) := by decide +kernel
theorem dX8_thrown_1 : decode cX8_thrown 1 = .ok (.getfield 108, 3) := by decide +kernel
theorem dX8_thrown_4 : decode cX8_thrown 4 = .ok (.ireturn, 1) := by decide +kernel
theorem dX8_translate_0 : decode cX8_translate 0 = .ok (.aload_n 0, 1) := by decide +kernel
theorem dX8_translate_1 : decode cX8_translate 1 = .ok (.aload_n 0, 1) := by decide +kernel
theorem dX8_translate_2 : decode cX8_translate 2 = .ok (.iload_n 1, 1) := by decide +kernel
theorem dX8_translate_3 : decode cX8_translate 3 = .ok (.invokevirtual 173, 3) := by decide +kernel
theorem dX8_translate_6 : decode cX8_translate 6 = .ok (.ifCond .ne 7, 3) := by decide +kernel
theorem dX8_translate_9 : decode cX8_translate 9 = .ok (.iconst 1, 1) := by decide +kernel
theorem dX8_translate_10 : decode cX8_translate 10 = .ok (.goto 17, 3) := by decide +kernel
theorem dX8_translate_13 : decode cX8_translate 13 = .ok (.iload_n 2, 1) := by decide +kernel
theorem dX8_translate_14 : decode cX8_translate 14 = .ok (.iconst 0, 1) := by decide +kernel
theorem dX8_translate_15 : decode cX8_translate 15 = .ok (.iconst 2, 1) := by decide +kernel
theorem dX8_translate_16 : decode cX8_translate 16 = .ok (.invokestatic 114, 3) := by decide +kernel
theorem dX8_translate_19 : decode cX8_translate 19 = .ok (.ifCond .eq 7, 3) := by decide +kernel
theorem dX8_translate_22 : decode cX8_translate 22 = .ok (.iconst 0, 1) := by decide +kernel
theorem dX8_translate_23 : decode cX8_translate 23 = .ok (.goto 4, 3) := by decide +kernel
theorem dX8_translate_26 : decode cX8_translate 26 = .ok (.iconst 2, 1) := by decide +kernel
theorem dX8_translate_27 : decode cX8_translate 27 = .ok (.putfield 108, 3) := by decide +kernel
theorem dX8_translate_30 : decode cX8_translate 30 = .ok (.aload_n 0, 1) := by decide +kernel
theorem dX8_translate_31 : decode cX8_translate 31 = .ok (.getfield 108, 3) := by decide +kernel
theorem dX8_translate_34 : decode cX8_translate 34 = .ok (.ifCond .le 5, 3) := by decide +kernel
theorem dX8_translate_37 : decode cX8_translate 37 = .ok (.iconst 0, 1) := by decide +kernel
theorem dX8_translate_38 : decode cX8_translate 38 = .ok (.ireturn, 1) := by decide +kernel
theorem dX8_translate_39 : decode cX8_translate 39 = .ok (.aload_n 0, 1) := by decide +kernel
theorem dX8_translate_40 : decode cX8_translate 40 = .ok (.invokevirtual 179, 3) := by decide +kernel
theorem dX8_translate_43 : decode cX8_translate 43 = .ok (.aload_n 0, 1) := by decide +kernel
theorem dX8_translate_44 : decode cX8_translate 44 = .ok (.getfield 7, 3) := by decide +kernel
theorem dX8_translate_47 : decode cX8_translate 47 = .ok (.iload_n 1, 1) := by decide +kernel
theorem dX8_translate_48 : decode cX8_translate 48 = .ok (.iload_n 2, 1) := by decide +kernel
theorem dX8_translate_49 : decode cX8_translate 49 = .ok (.iastore, 1) := by decide +kernel
theorem dX8_translate_50 : decode cX8_translate 50 = .ok (.aload_n 0, 1) := by decide +kernel
theorem dX8_translate_51 : decode cX8_translate 51 = .ok (.aload_n 0, 1) := by decide +kernel
theorem dX8_translate_52 : decode cX8_translate 52 = .ok (.invokevirtual 186, 3) := by decide +kernel
theorem dX8_translate_55 : decode cX8_translate 55 = .ok (.ifCond .eq 7, 3) := by decide +kernel
theorem dX8_translate_58 : decode cX8_translate 58 = .ok (.iconst 0, 1) := by decide +kernel
theorem dX8_translate_59 : decode cX8_translate 59 = .ok (.goto 4, 3) := by decide +kernel
theorem dX8_translate_62 : decode cX8_translate 62 = .ok (.iconst 3, 1) := by decide +kernel
theorem dX8_translate_63 : decode cX8_translate 63 = .ok (.putfield 108, 3) := by decide +kernel
theorem dX8_translate_66 : decode cX8_translate 66 = .ok (.aload_n 0, 1) := by decide +kernel
theorem dX8_translate_67 : decode cX8_translate 67 = .ok (.getfield 108, 3) := by decide +kernel
theorem dX8_translate_70 : decode cX8_translate 70 = .ok (.ifCond .le 7, 3) := by decide +kernel
theorem dX8_translate_73 : decode cX8_translate 73 = .ok (.iconst 0, 1) := by decide +kernel
theorem dX8_translate_74 : decode cX8_translate 74 = .ok (.goto 8, 3) := by decide +kernel
theorem dX8_translate_77 : decode cX8_translate 77 = .ok (.aload_n 0, 1) := by decide +kernel
theorem dX8_translate_78 : decode cX8_translate 78 = .ok (.iload_n 1, 1) := by decide +kernel
theorem dX8_translate_79 : decode cX8_translate 79 = .ok (.invokevirtual 196, 3) := by decide +kernel
theorem dX8_translate_82 : decode cX8_translate 82 = .ok (.ireturn, 1) := by decide +kernel
