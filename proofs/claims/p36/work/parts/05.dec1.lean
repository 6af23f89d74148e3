theorem dX7_forth_4 : decode cX7_forth 4 = .ok (.getfield 287, 3) := by decide +kernel
theorem dX7_forth_7 : decode cX7_forth 7 = .ok (.ifnonnull 7, 3) := by decide +kernel
theorem dX7_forth_10 : decode cX7_forth 10 = .ok (.aconst_null, 1) := by decide +kernel
theorem dX7_forth_11 : decode cX7_forth 11 = .ok (.goto 14, 3) := by decide +kernel
theorem dX7_forth_14 : decode cX7_forth 14 = .ok (.aload_n 0, 1) := by decide +kernel
theorem dX7_forth_15 : decode cX7_forth 15 = .ok (.aload_n 0, 1) := by decide +kernel
theorem dX7_forth_16 : decode cX7_forth 16 = .ok (.getfield 32, 3) := by decide +kernel
theorem dX7_forth_19 : decode cX7_forth 19 = .ok (.getfield 287, 3) := by decide +kernel
theorem dX7_forth_22 : decode cX7_forth 22 = .ok (.invokevirtual 123, 3) := by decide +kernel
theorem dX7_forth_25 : decode cX7_forth 25 = .ok (.astore_n 1, 1) := by decide +kernel
theorem dX7_forth_26 : decode cX7_forth 26 = .ok (.aload_n 1, 1) := by decide +kernel
theorem dX7_forth_27 : decode cX7_forth 27 = .ok (.ifnull 11, 3) := by decide +kernel
theorem dX7_forth_30 : decode cX7_forth 30 = .ok (.aload_n 0, 1) := by decide +kernel
theorem dX7_forth_31 : decode cX7_forth 31 = .ok (.getfield 32, 3) := by decide +kernel
theorem dX7_forth_34 : decode cX7_forth 34 = .ok (.aload_n 1, 1) := by decide +kernel
theorem dX7_forth_35 : decode cX7_forth 35 = .ok (.invokevirtual 293, 3) := by decide +kernel
theorem dX7_forth_38 : decode cX7_forth 38 = .ok (.aload_n 1, 1) := by decide +kernel
theorem dX7_forth_39 : decode cX7_forth 39 = .ok (.invokestatic 290, 3) := by decide +kernel
theorem dX7_forth_42 : decode cX7_forth 42 = .ok (.ireturn, 1) := by decide +kernel
theorem dX7_here_0 : decode cX7_here 0 = .ok (.aload_n 0, 1) := by decide +kernel
theorem dX7_here_1 : decode cX7_here 1 = .ok (.getfield 32, 3) := by decide +kernel
theorem dX7_here_4 : decode cX7_here 4 = .ok (.getfield 287, 3) := by decide +kernel
theorem dX7_here_7 : decode cX7_here 7 = .ok (.invokestatic 290, 3) := by decide +kernel
theorem dX7_here_10 : decode cX7_here 10 = .ok (.ireturn, 1) := by decide +kernel
theorem dX7_init_0 : decode cX7_init 0 = .ok (.aload_n 0, 1) := by decide +kernel
theorem dX7_init_1 : decode cX7_init 1 = .ok (.invokespecial 1, 3) := by decide +kernel
theorem dX7_init_4 : decode cX7_init 4 = .ok (.aload_n 0, 1) := by decide +kernel
theorem dX7_init_5 : decode cX7_init 5 = .ok (.new 7, 3) := by decide +kernel
theorem dX7_init_8 : decode cX7_init 8 = .ok (.dup, 1) := by decide +kernel
theorem dX7_init_9 : decode cX7_init 9 = .ok (.invokespecial 9, 3) := by decide +kernel
theorem dX7_init_12 : decode cX7_init 12 = .ok (.putfield 10, 3) := by decide +kernel
theorem dX7_init_15 : decode cX7_init 15 = .ok (.aload_n 0, 1) := by decide +kernel
theorem dX7_init_16 : decode cX7_init 16 = .ok (.new 7, 3) := by decide +kernel
theorem dX7_init_19 : decode cX7_init 19 = .ok (.dup, 1) := by decide +kernel
theorem dX7_init_20 : decode cX7_init 20 = .ok (.invokespecial 9, 3) := by decide +kernel
theorem dX7_init_23 : decode cX7_init 23 = .ok (.putfield 16, 3) := by decide +kernel
theorem dX7_init_26 : decode cX7_init 26 = .ok (.aload_n 0, 1) := by decide +kernel
theorem dX7_init_27 : decode cX7_init 27 = .ok (.new 7, 3) := by decide +kernel
theorem dX7_init_30 : decode cX7_init 30 = .ok (.dup, 1) := by decide +kernel
theorem dX7_init_31 : decode cX7_init 31 = .ok (.invokespecial 9, 3) := by decide +kernel
theorem dX7_init_34 : decode cX7_init 34 = .ok (.putfield 19, 3) := by decide +kernel
theorem dX7_init_37 : decode cX7_init 37 = .ok (.aload_n 0, 1) := by decide +kernel
theorem dX7_init_38 : decode cX7_init 38 = .ok (.new 22, 3) := by decide +kernel
theorem dX7_init_41 : decode cX7_init 41 = .ok (.dup, 1) := by decide +kernel
theorem dX7_init_42 : decode cX7_init 42 = .ok (.invokespecial 24, 3) := by decide +kernel
theorem dX7_init_45 : decode cX7_init 45 = .ok (.putfield 25, 3) := by decide +kernel
theorem dX7_init_48 : decode cX7_init 48 = .ok (.aload_n 0, 1) := by decide +kernel
theorem dX7_init_49 : decode cX7_init 49 = .ok (.new 29, 3) := by decide +kernel
theorem dX7_init_52 : decode cX7_init 52 = .ok (.dup, 1) := by decide +kernel
theorem dX7_init_53 : decode cX7_init 53 = .ok (.invokespecial 31, 3) := by decide +kernel
theorem dX7_init_56 : decode cX7_init 56 = .ok (.putfield 32, 3) := by decide +kernel
theorem dX7_init_59 : decode cX7_init 59 = .ok (.return_, 1) := by decide +kernel
theorem dX7_isAnswered_0 : decode cX7_isAnswered 0 = .ok (.iconst 0, 1) := by decide +kernel
theorem dX7_isAnswered_1 : decode cX7_isAnswered 1 = .ok (.istore_n 2, 1) := by decide +kernel
theorem dX7_isAnswered_2 : decode cX7_isAnswered 2 = .ok (.iload_n 2, 1) := by decide +kernel
theorem dX7_isAnswered_3 : decode cX7_isAnswered 3 = .ok (.aload_n 0, 1) := by decide +kernel
theorem dX7_isAnswered_4 : decode cX7_isAnswered 4 = .ok (.getfield 19, 3) := by decide +kernel
theorem dX7_isAnswered_7 : decode cX7_isAnswered 7 = .ok (.invokevirtual 36, 3) := by decide +kernel
theorem dX7_isAnswered_10 : decode cX7_isAnswered 10 = .ok (.if_icmp .ge 38, 3) := by decide +kernel
theorem dX7_isAnswered_13 : decode cX7_isAnswered 13 = .ok (.aload_n 0, 1) := by decide +kernel
theorem dX7_isAnswered_14 : decode cX7_isAnswered 14 = .ok (.getfield 19, 3) := by decide +kernel
theorem dX7_isAnswered_17 : decode cX7_isAnswered 17 = .ok (.iload_n 2, 1) := by decide +kernel
theorem dX7_isAnswered_18 : decode cX7_isAnswered 18 = .ok (.invokevirtual 215, 3) := by decide +kernel
theorem dX7_isAnswered_21 : decode cX7_isAnswered 21 = .ok (.checkcast 161, 3) := by decide +kernel
theorem dX7_isAnswered_24 : decode cX7_isAnswered 24 = .ok (.astore_n 3, 1) := by decide +kernel
theorem dX7_isAnswered_25 : decode cX7_isAnswered 25 = .ok (.aload_n 3, 1) := by decide +kernel
theorem dX7_isAnswered_26 : decode cX7_isAnswered 26 = .ok (.getfield 195, 3) := by decide +kernel
theorem dX7_isAnswered_29 : decode cX7_isAnswered 29 = .ok (.ifCond .ne 13, 3) := by decide +kernel
theorem dX7_isAnswered_32 : decode cX7_isAnswered 32 = .ok (.aload_n 3, 1) := by decide +kernel
theorem dX7_isAnswered_33 : decode cX7_isAnswered 33 = .ok (.getfield 204, 3) := by decide +kernel
theorem dX7_isAnswered_36 : decode cX7_isAnswered 36 = .ok (.aload_n 1, 1) := by decide +kernel
theorem dX7_isAnswered_37 : decode cX7_isAnswered 37 = .ok (.if_acmp .ne 5, 3) := by decide +kernel
theorem dX7_isAnswered_40 : decode cX7_isAnswered 40 = .ok (.iconst 1, 1) := by decide +kernel
theorem dX7_isAnswered_41 : decode cX7_isAnswered 41 = .ok (.ireturn, 1) := by decide +kernel
theorem dX7_isAnswered_42 : decode cX7_isAnswered 42 = .ok (.iinc 2 1, 3) := by decide +kernel
theorem dX7_isAnswered_45 : decode cX7_isAnswered 45 = .ok (.goto (-43), 3) := by decide +kernel
theorem dX7_isAnswered_48 : decode cX7_isAnswered 48 = .ok (.iconst 0, 1) := by decide +kernel
theorem dX7_isAnswered_49 : decode cX7_isAnswered 49 = .ok (.ireturn, 1) := by decide +kernel
theorem dX7_isAnsweredFromElsewhere_0 : decode cX7_isAnsweredFromElsewhere 0 = .ok (.iconst 0, 1) := by decide +kernel
theorem dX7_isAnsweredFromElsewhere_1 : decode cX7_isAnsweredFromElsewhere 1 = .ok (.istore_n 2, 1) := by decide +kernel
theorem dX7_isAnsweredFromElsewhere_2 : decode cX7_isAnsweredFromElsewhere 2 = .ok (.iload_n 2, 1) := by decide +kernel
theorem dX7_isAnsweredFromElsewhere_3 : decode cX7_isAnsweredFromElsewhere 3 = .ok (.aload_n 0, 1) := by decide +kernel
theorem dX7_isAnsweredFromElsewhere_4 : decode cX7_isAnsweredFromElsewhere 4 = .ok (.getfield 19, 3) := by decide +kernel
theorem dX7_isAnsweredFromElsewhere_7 : decode cX7_isAnsweredFromElsewhere 7 = .ok (.invokevirtual 36, 3) := by decide +kernel
theorem dX7_isAnsweredFromElsewhere_10 : decode cX7_isAnsweredFromElsewhere 10 = .ok (.if_icmp .ge 56, 3) := by decide +kernel
theorem dX7_isAnsweredFromElsewhere_13 : decode cX7_isAnsweredFromElsewhere 13 = .ok (.aload_n 0, 1) := by decide +kernel
theorem dX7_isAnsweredFromElsewhere_14 : decode cX7_isAnsweredFromElsewhere 14 = .ok (.getfield 19, 3) := by decide +kernel
theorem dX7_isAnsweredFromElsewhere_17 : decode cX7_isAnsweredFromElsewhere 17 = .ok (.iload_n 2, 1) := by decide +kernel
theorem dX7_isAnsweredFromElsewhere_18 : decode cX7_isAnsweredFromElsewhere 18 = .ok (.invokevirtual 215, 3) := by decide +kernel
theorem dX7_isAnsweredFromElsewhere_21 : decode cX7_isAnsweredFromElsewhere 21 = .ok (.checkcast 161, 3) := by decide +kernel
theorem dX7_isAnsweredFromElsewhere_24 : decode cX7_isAnsweredFromElsewhere 24 = .ok (.astore_n 3, 1) := by decide +kernel
theorem dX7_isAnsweredFromElsewhere_25 : decode cX7_isAnsweredFromElsewhere 25 = .ok (.aload_n 3, 1) := by decide +kernel
theorem dX7_isAnsweredFromElsewhere_26 : decode cX7_isAnsweredFromElsewhere 26 = .ok (.getfield 195, 3) := by decide +kernel
theorem dX7_isAnsweredFromElsewhere_29 : decode cX7_isAnsweredFromElsewhere 29 = .ok (.ifCond .ne 31, 3) := by decide +kernel
theorem dX7_isAnsweredFromElsewhere_32 : decode cX7_isAnsweredFromElsewhere 32 = .ok (.aload_n 3, 1) := by decide +kernel
theorem dX7_isAnsweredFromElsewhere_33 : decode cX7_isAnsweredFromElsewhere 33 = .ok (.getfield 175, 3) := by decide +kernel
theorem dX7_isAnsweredFromElsewhere_36 : decode cX7_isAnsweredFromElsewhere 36 = .ok (.aload_n 1, 1) := by decide +kernel
theorem dX7_isAnsweredFromElsewhere_37 : decode cX7_isAnsweredFromElsewhere 37 = .ok (.if_acmp .eq 23, 3) := by decide +kernel
theorem dX7_isAnsweredFromElsewhere_40 : decode cX7_isAnsweredFromElsewhere 40 = .ok (.aload_n 3, 1) := by decide +kernel
theorem dX7_isAnsweredFromElsewhere_41 : decode cX7_isAnsweredFromElsewhere 41 = .ok (.getfield 204, 3) := by decide +kernel
theorem dX7_isAnsweredFromElsewhere_44 : decode cX7_isAnsweredFromElsewhere 44 = .ok (.ifnull 16, 3) := by decide +kernel
theorem dX7_isAnsweredFromElsewhere_47 : decode cX7_isAnsweredFromElsewhere 47 = .ok (.aload_n 3, 1) := by decide +kernel
theorem dX7_isAnsweredFromElsewhere_48 : decode cX7_isAnsweredFromElsewhere 48 = .ok (.getfield 204, 3) := by decide +kernel
theorem dX7_isAnsweredFromElsewhere_51 : decode cX7_isAnsweredFromElsewhere 51 = .ok (.getfield 175, 3) := by decide +kernel
theorem dX7_isAnsweredFromElsewhere_54 : decode cX7_isAnsweredFromElsewhere 54 = .ok (.aload_n 1, 1) := by decide +kernel
theorem dX7_isAnsweredFromElsewhere_55 : decode cX7_isAnsweredFromElsewhere 55 = .ok (.if_acmp .ne 5, 3) := by decide +kernel
theorem dX7_isAnsweredFromElsewhere_58 : decode cX7_isAnsweredFromElsewhere 58 = .ok (.iconst 1, 1) := by decide +kernel
theorem dX7_isAnsweredFromElsewhere_59 : decode cX7_isAnsweredFromElsewhere 59 = .ok (.ireturn, 1) := by decide +kernel
theorem dX7_isAnsweredFromElsewhere_60 : decode cX7_isAnsweredFromElsewhere 60 = .ok (.iinc 2 1, 3) := by decide +kernel
theorem dX7_isAnsweredFromElsewhere_63 : decode cX7_isAnsweredFromElsewhere 63 = .ok (.goto (-61), 3) := by decide +kernel
theorem dX7_isAnsweredFromElsewhere_66 : decode cX7_isAnsweredFromElsewhere 66 = .ok (.iconst 0, 1) := by decide +kernel
theorem dX7_isAnsweredFromElsewhere_67 : decode cX7_isAnsweredFromElsewhere 67 = .ok (.ireturn, 1) := by decide +kernel
theorem dX7_lies_0 : decode cX7_lies 0 = .ok (.aload_n 0, 1) := by decide +kernel
theorem dX7_lies_1 : decode cX7_lies 1 = .ok (.iload_n 1, 1) := by decide +kernel
theorem dX7_lies_2 : decode cX7_lies 2 = .ok (.invokevirtual 99, 3) := by decide +kernel
theorem dX7_lies_5 : decode cX7_lies 5 = .ok (.astore_n 3, 1) := by decide +kernel
theorem dX7_lies_6 : decode cX7_lies 6 = .ok (.iload_n 2, 1) := by decide +kernel
theorem dX7_lies_7 : decode cX7_lies 7 = .ok (.iconst 0, 1) := by decide +kernel
theorem dX7_lies_8 : decode cX7_lies 8 = .ok (.iconst 4, 1) := by decide +kernel
theorem dX7_lies_9 : decode cX7_lies 9 = .ok (.invokestatic 71, 3) := by decide +kernel
theorem dX7_lies_12 : decode cX7_lies 12 = .ok (.iload_n 2, 1) := by decide +kernel
theorem dX7_lies_13 : decode cX7_lies 13 = .ok (.ifCond .ne 10, 3) := by decide +kernel
theorem dX7_lies_16 : decode cX7_lies 16 = .ok (.aload_n 3, 1) := by decide +kernel
theorem dX7_lies_17 : decode cX7_lies 17 = .ok (.getfield 224, 3) := by decide +kernel
theorem dX7_lies_20 : decode cX7_lies 20 = .ok (.goto 11, 3) := by decide +kernel
theorem dX7_lies_23 : decode cX7_lies 23 = .ok (.aload_n 3, 1) := by decide +kernel
theorem dX7_lies_24 : decode cX7_lies 24 = .ok (.getfield 150, 3) := by decide +kernel
theorem dX7_lies_27 : decode cX7_lies 27 = .ok (.iload_n 2, 1) := by decide +kernel
theorem dX7_lies_28 : decode cX7_lies 28 = .ok (.invokevirtual 227, 3) := by decide +kernel
theorem dX7_lies_31 : decode cX7_lies 31 = .ok (.ireturn, 1) := by decide +kernel
theorem dX7_moveBalloon_0 : decode cX7_moveBalloon 0 = .ok (.aload_n 0, 1) := by decide +kernel
theorem dX7_moveBalloon_1 : decode cX7_moveBalloon 1 = .ok (.iload_n 1, 1) := by decide +kernel
theorem dX7_moveBalloon_2 : decode cX7_moveBalloon 2 = .ok (.invokevirtual 171, 3) := by decide +kernel
theorem dX7_moveBalloon_5 : decode cX7_moveBalloon 5 = .ok (.astore 4, 2) := by decide +kernel
theorem dX7_moveBalloon_7 : decode cX7_moveBalloon 7 = .ok (.aload_n 0, 1) := by decide +kernel
theorem dX7_moveBalloon_8 : decode cX7_moveBalloon 8 = .ok (.iload_n 2, 1) := by decide +kernel
theorem dX7_moveBalloon_9 : decode cX7_moveBalloon 9 = .ok (.invokevirtual 99, 3) := by decide +kernel
theorem dX7_moveBalloon_12 : decode cX7_moveBalloon 12 = .ok (.astore 5, 2) := by decide +kernel
theorem dX7_moveBalloon_14 : decode cX7_moveBalloon 14 = .ok (.aload 4, 2) := by decide +kernel
theorem dX7_moveBalloon_16 : decode cX7_moveBalloon 16 = .ok (.getfield 175, 3) := by decide +kernel
theorem dX7_moveBalloon_19 : decode cX7_moveBalloon 19 = .ok (.astore 6, 2) := by decide +kernel
theorem dX7_moveBalloon_21 : decode cX7_moveBalloon 21 = .ok (.iload_n 3, 1) := by decide +kernel
theorem dX7_moveBalloon_22 : decode cX7_moveBalloon 22 = .ok (.aload 5, 2) := by decide +kernel
theorem dX7_moveBalloon_24 : decode cX7_moveBalloon 24 = .ok (.aload 6, 2) := by decide +kernel
theorem dX7_moveBalloon_26 : decode cX7_moveBalloon 26 = .ok (.if_acmp .ne 16, 3) := by decide +kernel
theorem dX7_moveBalloon_29 : decode cX7_moveBalloon 29 = .ok (.aload 5, 2) := by decide +kernel
theorem dX7_moveBalloon_31 : decode cX7_moveBalloon 31 = .ok (.getfield 137, 3) := by decide +kernel
theorem dX7_moveBalloon_34 : decode cX7_moveBalloon 34 = .ok (.invokevirtual 36, 3) := by decide +kernel
theorem dX7_moveBalloon_37 : decode cX7_moveBalloon 37 = .ok (.iconst 1, 1) := by decide +kernel
theorem dX7_moveBalloon_38 : decode cX7_moveBalloon 38 = .ok (.isub, 1) := by decide +kernel
theorem dX7_moveBalloon_39 : decode cX7_moveBalloon 39 = .ok (.goto 11, 3) := by decide +kernel
theorem dX7_moveBalloon_42 : decode cX7_moveBalloon 42 = .ok (.aload 5, 2) := by decide +kernel
theorem dX7_moveBalloon_44 : decode cX7_moveBalloon 44 = .ok (.getfield 137, 3) := by decide +kernel
theorem dX7_moveBalloon_47 : decode cX7_moveBalloon 47 = .ok (.invokevirtual 36, 3) := by decide +kernel
theorem dX7_moveBalloon_50 : decode cX7_moveBalloon 50 = .ok (.invokestatic 67, 3) := by decide +kernel
theorem dX7_moveBalloon_53 : decode cX7_moveBalloon 53 = .ok (.aload 5, 2) := by decide +kernel
theorem dX7_moveBalloon_55 : decode cX7_moveBalloon 55 = .ok (.aload 6, 2) := by decide +kernel
theorem dX7_moveBalloon_57 : decode cX7_moveBalloon 57 = .ok (.if_acmp .eq 25, 3) := by decide +kernel
theorem dX7_moveBalloon_60 : decode cX7_moveBalloon 60 = .ok (.aload 5, 2) := by decide +kernel
theorem dX7_moveBalloon_62 : decode cX7_moveBalloon 62 = .ok (.getfield 137, 3) := by decide +kernel
theorem dX7_moveBalloon_65 : decode cX7_moveBalloon 65 = .ok (.invokevirtual 36, 3) := by decide +kernel
theorem dX7_moveBalloon_68 : decode cX7_moveBalloon 68 = .ok (.iconst 4, 1) := by decide +kernel
theorem dX7_moveBalloon_69 : decode cX7_moveBalloon 69 = .ok (.if_icmp .lt 13, 3) := by decide +kernel
theorem dX7_moveBalloon_72 : decode cX7_moveBalloon 72 = .ok (.new 40, 3) := by decide +kernel
theorem dX7_moveBalloon_75 : decode cX7_moveBalloon 75 = .ok (.dup, 1) := by decide +kernel
theorem dX7_moveBalloon_76 : decode cX7_moveBalloon 76 = .ok (.ldc 178, 2) := by decide +kernel
theorem dX7_moveBalloon_78 : decode cX7_moveBalloon 78 = .ok (.invokespecial 44, 3) := by decide +kernel
theorem dX7_moveBalloon_81 : decode cX7_moveBalloon 81 = .ok (.athrow, 1) := by decide +kernel
theorem dX7_moveBalloon_82 : decode cX7_moveBalloon 82 = .ok (.aload 6, 2) := by decide +kernel
theorem dX7_moveBalloon_84 : decode cX7_moveBalloon 84 = .ok (.aload 4, 2) := by decide +kernel
theorem dX7_moveBalloon_86 : decode cX7_moveBalloon 86 = .ok (.invokevirtual 180, 3) := by decide +kernel
theorem dX7_moveBalloon_89 : decode cX7_moveBalloon 89 = .ok (.istore 7, 2) := by decide +kernel
theorem dX7_moveBalloon_91 : decode cX7_moveBalloon 91 = .ok (.aload 4, 2) := by decide +kernel
theorem dX7_moveBalloon_93 : decode cX7_moveBalloon 93 = .ok (.aload 5, 2) := by decide +kernel
theorem dX7_moveBalloon_95 : decode cX7_moveBalloon 95 = .ok (.iload_n 3, 1) := by decide +kernel
theorem dX7_moveBalloon_96 : decode cX7_moveBalloon 96 = .ok (.invokevirtual 183, 3) := by decide +kernel
theorem dX7_moveBalloon_99 : decode cX7_moveBalloon 99 = .ok (.aload_n 0, 1) := by decide +kernel
theorem dX7_moveBalloon_100 : decode cX7_moveBalloon 100 = .ok (.getfield 25, 3) := by decide +kernel
theorem dX7_moveBalloon_103 : decode cX7_moveBalloon 103 = .ok (.aload 6, 2) := by decide +kernel
theorem dX7_moveBalloon_105 : decode cX7_moveBalloon 105 = .ok (.getfield 103, 3) := by decide +kernel
theorem dX7_moveBalloon_108 : decode cX7_moveBalloon 108 = .ok (.invokevirtual 86, 3) := by decide +kernel
theorem dX7_moveBalloon_111 : decode cX7_moveBalloon 111 = .ok (.ifCond .eq 25, 3) := by decide +kernel
theorem dX7_moveBalloon_114 : decode cX7_moveBalloon 114 = .ok (.aload_n 0, 1) := by decide +kernel
theorem dX7_moveBalloon_115 : decode cX7_moveBalloon 115 = .ok (.getfield 25, 3) := by decide +kernel
theorem dX7_moveBalloon_118 : decode cX7_moveBalloon 118 = .ok (.aload 5, 2) := by decide +kernel
theorem dX7_moveBalloon_120 : decode cX7_moveBalloon 120 = .ok (.getfield 103, 3) := by decide +kernel
theorem dX7_moveBalloon_123 : decode cX7_moveBalloon 123 = .ok (.invokevirtual 86, 3) := by decide +kernel
theorem dX7_moveBalloon_126 : decode cX7_moveBalloon 126 = .ok (.ifCond .eq 10, 3) := by decide +kernel
theorem dX7_moveBalloon_129 : decode cX7_moveBalloon 129 = .ok (.aload_n 0, 1) := by decide +kernel
theorem dX7_moveBalloon_130 : decode cX7_moveBalloon 130 = .ok (.invokevirtual 111, 3) := by decide +kernel
theorem dX7_moveBalloon_133 : decode cX7_moveBalloon 133 = .ok (.ifCond .ne 22, 3) := by decide +kernel
theorem dX7_moveBalloon_136 : decode cX7_moveBalloon 136 = .ok (.aload 4, 2) := by decide +kernel
theorem dX7_moveBalloon_138 : decode cX7_moveBalloon 138 = .ok (.aload 6, 2) := by decide +kernel
theorem dX7_moveBalloon_140 : decode cX7_moveBalloon 140 = .ok (.iload 7, 2) := by decide +kernel
theorem dX7_moveBalloon_142 : decode cX7_moveBalloon 142 = .ok (.invokevirtual 183, 3) := by decide +kernel
theorem dX7_moveBalloon_145 : decode cX7_moveBalloon 145 = .ok (.new 40, 3) := by decide +kernel
theorem dX7_moveBalloon_148 : decode cX7_moveBalloon 148 = .ok (.dup, 1) := by decide +kernel
theorem dX7_moveBalloon_149 : decode cX7_moveBalloon 149 = .ok (.ldc 187, 2) := by decide +kernel
theorem dX7_moveBalloon_151 : decode cX7_moveBalloon 151 = .ok (.invokespecial 44, 3) := by decide +kernel
theorem dX7_moveBalloon_154 : decode cX7_moveBalloon 154 = .ok (.athrow, 1) := by decide +kernel
theorem dX7_moveBalloon_155 : decode cX7_moveBalloon 155 = .ok (.aload 6, 2) := by decide +kernel
theorem dX7_moveBalloon_157 : decode cX7_moveBalloon 157 = .ok (.getfield 103, 3) := by decide +kernel
theorem dX7_moveBalloon_160 : decode cX7_moveBalloon 160 = .ok (.invokevirtual 95, 3) := by decide +kernel
theorem dX7_moveBalloon_163 : decode cX7_moveBalloon 163 = .ok (.pop, 1) := by decide +kernel
theorem dX7_moveBalloon_164 : decode cX7_moveBalloon 164 = .ok (.aload 5, 2) := by decide +kernel
theorem dX7_moveBalloon_166 : decode cX7_moveBalloon 166 = .ok (.getfield 103, 3) := by decide +kernel
theorem dX7_moveBalloon_169 : decode cX7_moveBalloon 169 = .ok (.invokevirtual 95, 3) := by decide +kernel
theorem dX7_moveBalloon_172 : decode cX7_moveBalloon 172 = .ok (.pop, 1) := by decide +kernel
theorem dX7_moveBalloon_173 : decode cX7_moveBalloon 173 = .ok (.return_, 1) := by decide +kernel
theorem dX7_movePanel_0 : decode cX7_movePanel 0 = .ok (.aload_n 0, 1) := by decide +kernel
theorem dX7_movePanel_1 : decode cX7_movePanel 1 = .ok (.iload_n 1, 1) := by decide +kernel
theorem dX7_movePanel_2 : decode cX7_movePanel 2 = .ok (.invokevirtual 99, 3) := by decide +kernel
theorem dX7_movePanel_5 : decode cX7_movePanel 5 = .ok (.astore_n 3, 1) := by decide +kernel
theorem dX7_movePanel_6 : decode cX7_movePanel 6 = .ok (.aload_n 3, 1) := by decide +kernel
theorem dX7_movePanel_7 : decode cX7_movePanel 7 = .ok (.getfield 103, 3) := by decide +kernel
theorem dX7_movePanel_10 : decode cX7_movePanel 10 = .ok (.astore 4, 2) := by decide +kernel
theorem dX7_movePanel_12 : decode cX7_movePanel 12 = .ok (.iload_n 2, 1) := by decide +kernel
theorem dX7_movePanel_13 : decode cX7_movePanel 13 = .ok (.aload 4, 2) := by decide +kernel
theorem dX7_movePanel_15 : decode cX7_movePanel 15 = .ok (.getfield 64, 3) := by decide +kernel
theorem dX7_movePanel_18 : decode cX7_movePanel 18 = .ok (.invokevirtual 36, 3) := by decide +kernel
theorem dX7_movePanel_21 : decode cX7_movePanel 21 = .ok (.iconst 1, 1) := by decide +kernel
theorem dX7_movePanel_22 : decode cX7_movePanel 22 = .ok (.isub, 1) := by decide +kernel
theorem dX7_movePanel_23 : decode cX7_movePanel 23 = .ok (.invokestatic 67, 3) := by decide +kernel
theorem dX7_movePanel_26 : decode cX7_movePanel 26 = .ok (.aload 4, 2) := by decide +kernel
theorem dX7_movePanel_28 : decode cX7_movePanel 28 = .ok (.aload_n 3, 1) := by decide +kernel
theorem dX7_movePanel_29 : decode cX7_movePanel 29 = .ok (.invokevirtual 107, 3) := by decide +kernel
theorem dX7_movePanel_32 : decode cX7_movePanel 32 = .ok (.istore 5, 2) := by decide +kernel
theorem dX7_movePanel_34 : decode cX7_movePanel 34 = .ok (.aload 4, 2) := by decide +kernel
theorem dX7_movePanel_36 : decode cX7_movePanel 36 = .ok (.iload 5, 2) := by decide +kernel
theorem dX7_movePanel_38 : decode cX7_movePanel 38 = .ok (.invokevirtual 90, 3) := by decide +kernel
theorem dX7_movePanel_41 : decode cX7_movePanel 41 = .ok (.aload 4, 2) := by decide +kernel
theorem dX7_movePanel_43 : decode cX7_movePanel 43 = .ok (.iload_n 2, 1) := by decide +kernel
theorem dX7_movePanel_44 : decode cX7_movePanel 44 = .ok (.aload_n 3, 1) := by decide +kernel
theorem dX7_movePanel_45 : decode cX7_movePanel 45 = .ok (.invokevirtual 82, 3) := by decide +kernel
theorem dX7_movePanel_48 : decode cX7_movePanel 48 = .ok (.aload_n 0, 1) := by decide +kernel
theorem dX7_movePanel_49 : decode cX7_movePanel 49 = .ok (.getfield 25, 3) := by decide +kernel
theorem dX7_movePanel_52 : decode cX7_movePanel 52 = .ok (.aload 4, 2) := by decide +kernel
theorem dX7_movePanel_54 : decode cX7_movePanel 54 = .ok (.invokevirtual 86, 3) := by decide +kernel
theorem dX7_movePanel_57 : decode cX7_movePanel 57 = .ok (.ifCond .eq 10, 3) := by decide +kernel
theorem dX7_movePanel_60 : decode cX7_movePanel 60 = .ok (.aload_n 0, 1) := by decide +kernel
theorem dX7_movePanel_61 : decode cX7_movePanel 61 = .ok (.invokevirtual 111, 3) := by decide +kernel
theorem dX7_movePanel_64 : decode cX7_movePanel 64 = .ok (.ifCond .ne 27, 3) := by decide +kernel
theorem dX7_movePanel_67 : decode cX7_movePanel 67 = .ok (.aload 4, 2) := by decide +kernel
theorem dX7_movePanel_69 : decode cX7_movePanel 69 = .ok (.iload_n 2, 1) := by decide +kernel
theorem dX7_movePanel_70 : decode cX7_movePanel 70 = .ok (.invokevirtual 90, 3) := by decide +kernel
theorem dX7_movePanel_73 : decode cX7_movePanel 73 = .ok (.aload 4, 2) := by decide +kernel
theorem dX7_movePanel_75 : decode cX7_movePanel 75 = .ok (.iload 5, 2) := by decide +kernel
theorem dX7_movePanel_77 : decode cX7_movePanel 77 = .ok (.aload_n 3, 1) := by decide +kernel
theorem dX7_movePanel_78 : decode cX7_movePanel 78 = .ok (.invokevirtual 82, 3) := by decide +kernel
theorem dX7_movePanel_81 : decode cX7_movePanel 81 = .ok (.new 40, 3) := by decide +kernel
theorem dX7_movePanel_84 : decode cX7_movePanel 84 = .ok (.dup, 1) := by decide +kernel
theorem dX7_movePanel_85 : decode cX7_movePanel 85 = .ok (.ldc 115, 2) := by decide +kernel
theorem dX7_movePanel_87 : decode cX7_movePanel 87 = .ok (.invokespecial 44, 3) := by decide +kernel
theorem dX7_movePanel_90 : decode cX7_movePanel 90 = .ok (.athrow, 1) := by decide +kernel
theorem dX7_movePanel_91 : decode cX7_movePanel 91 = .ok (.aload 4, 2) := by decide +kernel
theorem dX7_movePanel_93 : decode cX7_movePanel 93 = .ok (.invokevirtual 95, 3) := by decide +kernel
theorem dX7_movePanel_96 : decode cX7_movePanel 96 = .ok (.ireturn, 1) := by decide +kernel
theorem dX7_needBalloon_0 : decode cX7_needBalloon 0 = .ok (.iload_n 1, 1) := by decide +kernel
theorem dX7_needBalloon_1 : decode cX7_needBalloon 1 = .ok (.ifCond .lt 31, 3) := by decide +kernel
theorem dX7_needBalloon_4 : decode cX7_needBalloon 4 = .ok (.iload_n 1, 1) := by decide +kernel
theorem dX7_needBalloon_5 : decode cX7_needBalloon 5 = .ok (.aload_n 0, 1) := by decide +kernel
theorem dX7_needBalloon_6 : decode cX7_needBalloon 6 = .ok (.getfield 19, 3) := by decide +kernel
theorem dX7_needBalloon_9 : decode cX7_needBalloon 9 = .ok (.invokevirtual 36, 3) := by decide +kernel
theorem dX7_needBalloon_12 : decode cX7_needBalloon 12 = .ok (.if_icmp .ge 20, 3) := by decide +kernel
theorem dX7_needBalloon_15 : decode cX7_needBalloon 15 = .ok (.aload_n 0, 1) := by decide +kernel
theorem dX7_needBalloon_16 : decode cX7_needBalloon 16 = .ok (.getfield 19, 3) := by decide +kernel
theorem dX7_needBalloon_19 : decode cX7_needBalloon 19 = .ok (.iload_n 1, 1) := by decide +kernel
theorem dX7_needBalloon_20 : decode cX7_needBalloon 20 = .ok (.invokevirtual 215, 3) := by decide +kernel
theorem dX7_needBalloon_23 : decode cX7_needBalloon 23 = .ok (.checkcast 161, 3) := by decide +kernel
theorem dX7_needBalloon_26 : decode cX7_needBalloon 26 = .ok (.getfield 195, 3) := by decide +kernel
theorem dX7_needBalloon_29 : decode cX7_needBalloon 29 = .ok (.ifCond .eq 14, 3) := by decide +kernel
theorem dX7_needBalloon_32 : decode cX7_needBalloon 32 = .ok (.new 245, 3) := by decide +kernel
theorem dX7_needBalloon_35 : decode cX7_needBalloon 35 = .ok (.dup, 1) := by decide +kernel
theorem dX7_needBalloon_36 : decode cX7_needBalloon 36 = .ok (.ldc_w 306, 3) := by decide +kernel
theorem dX7_needBalloon_39 : decode cX7_needBalloon 39 = .ok (.invokespecial 249, 3) := by decide +kernel
theorem dX7_needBalloon_42 : decode cX7_needBalloon 42 = .ok (.athrow, 1) := by decide +kernel
theorem dX7_needBalloon_43 : decode cX7_needBalloon 43 = .ok (.aload_n 0, 1) := by decide +kernel
theorem dX7_needBalloon_44 : decode cX7_needBalloon 44 = .ok (.getfield 19, 3) := by decide +kernel
theorem dX7_needBalloon_47 : decode cX7_needBalloon 47 = .ok (.iload_n 1, 1) := by decide +kernel
theorem dX7_needBalloon_48 : decode cX7_needBalloon 48 = .ok (.invokevirtual 215, 3) := by decide +kernel
theorem dX7_needBalloon_51 : decode cX7_needBalloon 51 = .ok (.checkcast 161, 3) := by decide +kernel
theorem dX7_needBalloon_54 : decode cX7_needBalloon 54 = .ok (.areturn, 1) := by decide +kernel
theorem dX7_needPage_0 : decode cX7_needPage 0 = .ok (.iload_n 1, 1) := by decide +kernel
theorem dX7_needPage_1 : decode cX7_needPage 1 = .ok (.ifCond .lt 14, 3) := by decide +kernel
theorem dX7_needPage_4 : decode cX7_needPage 4 = .ok (.iload_n 1, 1) := by decide +kernel
theorem dX7_needPage_5 : decode cX7_needPage 5 = .ok (.aload_n 0, 1) := by decide +kernel
theorem dX7_needPage_6 : decode cX7_needPage 6 = .ok (.getfield 10, 3) := by decide +kernel
theorem dX7_needPage_9 : decode cX7_needPage 9 = .ok (.invokevirtual 36, 3) := by decide +kernel
theorem dX7_needPage_12 : decode cX7_needPage 12 = .ok (.if_icmp .lt 14, 3) := by decide +kernel
theorem dX7_needPage_15 : decode cX7_needPage 15 = .ok (.new 245, 3) := by decide +kernel
theorem dX7_needPage_18 : decode cX7_needPage 18 = .ok (.dup, 1) := by decide +kernel
theorem dX7_needPage_19 : decode cX7_needPage 19 = .ok (.ldc_w 301, 3) := by decide +kernel
theorem dX7_needPage_22 : decode cX7_needPage 22 = .ok (.invokespecial 249, 3) := by decide +kernel
theorem dX7_needPage_25 : decode cX7_needPage 25 = .ok (.athrow, 1) := by decide +kernel
theorem dX7_needPage_26 : decode cX7_needPage 26 = .ok (.aload_n 0, 1) := by decide +kernel
theorem dX7_needPage_27 : decode cX7_needPage 27 = .ok (.getfield 10, 3) := by decide +kernel
theorem dX7_needPage_30 : decode cX7_needPage 30 = .ok (.iload_n 1, 1) := by decide +kernel
theorem dX7_needPage_31 : decode cX7_needPage 31 = .ok (.invokevirtual 215, 3) := by decide +kernel
theorem dX7_needPage_34 : decode cX7_needPage 34 = .ok (.checkcast 47, 3) := by decide +kernel
theorem dX7_needPage_37 : decode cX7_needPage 37 = .ok (.areturn, 1) := by decide +kernel
theorem dX7_needPanel_0 : decode cX7_needPanel 0 = .ok (.iload_n 1, 1) := by decide +kernel
theorem dX7_needPanel_1 : decode cX7_needPanel 1 = .ok (.ifCond .lt 31, 3) := by decide +kernel
theorem dX7_needPanel_4 : decode cX7_needPanel 4 = .ok (.iload_n 1, 1) := by decide +kernel
theorem dX7_needPanel_5 : decode cX7_needPanel 5 = .ok (.aload_n 0, 1) := by decide +kernel
theorem dX7_needPanel_6 : decode cX7_needPanel 6 = .ok (.getfield 16, 3) := by decide +kernel
theorem dX7_needPanel_9 : decode cX7_needPanel 9 = .ok (.invokevirtual 36, 3) := by decide +kernel
theorem dX7_needPanel_12 : decode cX7_needPanel 12 = .ok (.if_icmp .ge 20, 3) := by decide +kernel
theorem dX7_needPanel_15 : decode cX7_needPanel 15 = .ok (.aload_n 0, 1) := by decide +kernel
theorem dX7_needPanel_16 : decode cX7_needPanel 16 = .ok (.getfield 16, 3) := by decide +kernel
theorem dX7_needPanel_19 : decode cX7_needPanel 19 = .ok (.iload_n 1, 1) := by decide +kernel
theorem dX7_needPanel_20 : decode cX7_needPanel 20 = .ok (.invokevirtual 215, 3) := by decide +kernel
theorem dX7_needPanel_23 : decode cX7_needPanel 23 = .ok (.checkcast 77, 3) := by decide +kernel
theorem dX7_needPanel_26 : decode cX7_needPanel 26 = .ok (.getfield 303, 3) := by decide +kernel
theorem dX7_needPanel_29 : decode cX7_needPanel 29 = .ok (.ifCond .eq 14, 3) := by decide +kernel
theorem dX7_needPanel_32 : decode cX7_needPanel 32 = .ok (.new 245, 3) := by decide +kernel
theorem dX7_needPanel_35 : decode cX7_needPanel 35 = .ok (.dup, 1) := by decide +kernel
theorem dX7_needPanel_36 : decode cX7_needPanel 36 = .ok (.ldc_w 304, 3) := by decide +kernel
theorem dX7_needPanel_39 : decode cX7_needPanel 39 = .ok (.invokespecial 249, 3) := by decide +kernel
theorem dX7_needPanel_42 : decode cX7_needPanel 42 = .ok (.athrow, 1) := by decide +kernel
theorem dX7_needPanel_43 : decode cX7_needPanel 43 = .ok (.aload_n 0, 1) := by decide +kernel
theorem dX7_needPanel_44 : decode cX7_needPanel 44 = .ok (.getfield 16, 3) := by decide +kernel
theorem dX7_needPanel_47 : decode cX7_needPanel 47 = .ok (.iload_n 1, 1) := by decide +kernel
theorem dX7_needPanel_48 : decode cX7_needPanel 48 = .ok (.invokevirtual 215, 3) := by decide +kernel
theorem dX7_needPanel_51 : decode cX7_needPanel 51 = .ok (.checkcast 77, 3) := by decide +kernel
theorem dX7_needPanel_54 : decode cX7_needPanel 54 = .ok (.areturn, 1) := by decide +kernel
theorem dX7_needPlace_0 : decode cX7_needPlace 0 = .ok (.iload_n 0, 1) := by decide +kernel
theorem dX7_needPlace_1 : decode cX7_needPlace 1 = .ok (.ifCond .lt 8, 3) := by decide +kernel
theorem dX7_needPlace_4 : decode cX7_needPlace 4 = .ok (.iload_n 0, 1) := by decide +kernel
theorem dX7_needPlace_5 : decode cX7_needPlace 5 = .ok (.iload_n 1, 1) := by decide +kernel
theorem dX7_needPlace_6 : decode cX7_needPlace 6 = .ok (.if_icmp .le 13, 3) := by decide +kernel
theorem dX7_needPlace_9 : decode cX7_needPlace 9 = .ok (.new 245, 3) := by decide +kernel
theorem dX7_needPlace_12 : decode cX7_needPlace 12 = .ok (.dup, 1) := by decide +kernel
theorem dX7_needPlace_13 : decode cX7_needPlace 13 = .ok (.ldc 247, 2) := by decide +kernel
theorem dX7_needPlace_15 : decode cX7_needPlace 15 = .ok (.invokespecial 249, 3) := by decide +kernel
theorem dX7_needPlace_18 : decode cX7_needPlace 18 = .ok (.athrow, 1) := by decide +kernel
theorem dX7_needPlace_19 : decode cX7_needPlace 19 = .ok (.return_, 1) := by decide +kernel
theorem dX7_needWithin_0 : decode cX7_needWithin 0 = .ok (.iload_n 0, 1) := by decide +kernel
theorem dX7_needWithin_1 : decode cX7_needWithin 1 = .ok (.iload_n 1, 1) := by decide +kernel
theorem dX7_needWithin_2 : decode cX7_needWithin 2 = .ok (.if_icmp .lt 8, 3) := by decide +kernel
theorem dX7_needWithin_5 : decode cX7_needWithin 5 = .ok (.iload_n 0, 1) := by decide +kernel
theorem dX7_needWithin_6 : decode cX7_needWithin 6 = .ok (.iload_n 2, 1) := by decide +kernel
theorem dX7_needWithin_7 : decode cX7_needWithin 7 = .ok (.if_icmp .le 14, 3) := by decide +kernel
theorem dX7_needWithin_10 : decode cX7_needWithin 10 = .ok (.new 308, 3) := by decide +kernel
theorem dX7_needWithin_13 : decode cX7_needWithin 13 = .ok (.dup, 1) := by decide +kernel
theorem dX7_needWithin_14 : decode cX7_needWithin 14 = .ok (.ldc_w 310, 3) := by decide +kernel
theorem dX7_needWithin_17 : decode cX7_needWithin 17 = .ok (.invokespecial 312, 3) := by decide +kernel
theorem dX7_needWithin_20 : decode cX7_needWithin 20 = .ok (.athrow, 1) := by decide +kernel
theorem dX7_needWithin_21 : decode cX7_needWithin 21 = .ok (.return_, 1) := by decide +kernel
theorem dX7_numberOf_0 : decode cX7_numberOf 0 = .ok (.aload_n 0, 1) := by decide +kernel
theorem dX7_numberOf_1 : decode cX7_numberOf 1 = .ok (.ifnonnull 7, 3) := by decide +kernel
theorem dX7_numberOf_4 : decode cX7_numberOf 4 = .ok (.iconst (-1), 1) := by decide +kernel
theorem dX7_numberOf_5 : decode cX7_numberOf 5 = .ok (.goto 7, 3) := by decide +kernel
theorem dX7_numberOf_8 : decode cX7_numberOf 8 = .ok (.aload_n 0, 1) := by decide +kernel
theorem dX7_numberOf_9 : decode cX7_numberOf 9 = .ok (.getfield 98, 3) := by decide +kernel
theorem dX7_numberOf_12 : decode cX7_numberOf 12 = .ok (.ireturn, 1) := by decide +kernel
theorem dX7_open_0 : decode cX7_open 0 = .ok (.aload_n 0, 1) := by decide +kernel
theorem dX7_open_1 : decode cX7_open 1 = .ok (.getfield 32, 3) := by decide +kernel
theorem dX7_open_4 : decode cX7_open 4 = .ok (.aload_n 0, 1) := by decide +kernel
theorem dX7_open_5 : decode cX7_open 5 = .ok (.aconst_null, 1) := by decide +kernel
theorem dX7_open_6 : decode cX7_open 6 = .ok (.invokevirtual 123, 3) := by decide +kernel
theorem dX7_open_9 : decode cX7_open 9 = .ok (.invokevirtual 283, 3) := by decide +kernel
theorem dX7_open_12 : decode cX7_open 12 = .ok (.aload_n 0, 1) := by decide +kernel
theorem dX7_open_13 : decode cX7_open 13 = .ok (.getfield 32, 3) := by decide +kernel
theorem dX7_open_16 : decode cX7_open 16 = .ok (.getfield 287, 3) := by decide +kernel
theorem dX7_open_19 : decode cX7_open 19 = .ok (.invokestatic 290, 3) := by decide +kernel
theorem dX7_open_22 : decode cX7_open 22 = .ok (.ireturn, 1) := by decide +kernel
theorem dX7_page_0 : decode cX7_page 0 = .ok (.aload_n 0, 1) := by decide +kernel
theorem dX7_page_1 : decode cX7_page 1 = .ok (.getfield 10, 3) := by decide +kernel
theorem dX7_page_4 : decode cX7_page 4 = .ok (.invokevirtual 36, 3) := by decide +kernel
theorem dX7_page_7 : decode cX7_page 7 = .ok (.bipush 10, 2) := by decide +kernel
theorem dX7_page_9 : decode cX7_page 9 = .ok (.if_icmp .lt 13, 3) := by decide +kernel
theorem dX7_page_12 : decode cX7_page 12 = .ok (.new 40, 3) := by decide +kernel
theorem dX7_page_15 : decode cX7_page 15 = .ok (.dup, 1) := by decide +kernel
theorem dX7_page_16 : decode cX7_page 16 = .ok (.ldc 42, 2) := by decide +kernel
theorem dX7_page_18 : decode cX7_page 18 = .ok (.invokespecial 44, 3) := by decide +kernel
theorem dX7_page_21 : decode cX7_page 21 = .ok (.athrow, 1) := by decide +kernel
theorem dX7_page_22 : decode cX7_page 22 = .ok (.new 47, 3) := by decide +kernel
theorem dX7_page_25 : decode cX7_page 25 = .ok (.dup, 1) := by decide +kernel
theorem dX7_page_26 : decode cX7_page 26 = .ok (.aload_n 0, 1) := by decide +kernel
theorem dX7_page_27 : decode cX7_page 27 = .ok (.getfield 10, 3) := by decide +kernel
theorem dX7_page_30 : decode cX7_page 30 = .ok (.invokevirtual 36, 3) := by decide +kernel
theorem dX7_page_33 : decode cX7_page 33 = .ok (.invokespecial 49, 3) := by decide +kernel
theorem dX7_page_36 : decode cX7_page 36 = .ok (.astore_n 1, 1) := by decide +kernel
theorem dX7_page_37 : decode cX7_page 37 = .ok (.aload_n 0, 1) := by decide +kernel
theorem dX7_page_38 : decode cX7_page 38 = .ok (.getfield 10, 3) := by decide +kernel
theorem dX7_page_41 : decode cX7_page 41 = .ok (.aload_n 1, 1) := by decide +kernel
theorem dX7_page_42 : decode cX7_page 42 = .ok (.invokevirtual 52, 3) := by decide +kernel
theorem dX7_page_45 : decode cX7_page 45 = .ok (.pop, 1) := by decide +kernel
theorem dX7_page_46 : decode cX7_page 46 = .ok (.aload_n 1, 1) := by decide +kernel
theorem dX7_page_47 : decode cX7_page 47 = .ok (.getfield 56, 3) := by decide +kernel
theorem dX7_page_50 : decode cX7_page 50 = .ok (.ireturn, 1) := by decide +kernel
theorem dX7_pages_0 : decode cX7_pages 0 = .ok (.aload_n 0, 1) := by decide +kernel
theorem dX7_pages_1 : decode cX7_pages 1 = .ok (.getfield 10, 3) := by decide +kernel
theorem dX7_pages_4 : decode cX7_pages 4 = .ok (.invokevirtual 36, 3) := by decide +kernel
theorem dX7_pages_7 : decode cX7_pages 7 = .ok (.ireturn, 1) := by decide +kernel
theorem dX7_panel_0 : decode cX7_panel 0 = .ok (.aload_n 0, 1) := by decide +kernel
theorem dX7_panel_1 : decode cX7_panel 1 = .ok (.iload_n 1, 1) := by decide +kernel
theorem dX7_panel_2 : decode cX7_panel 2 = .ok (.invokevirtual 60, 3) := by decide +kernel
theorem dX7_panel_5 : decode cX7_panel 5 = .ok (.astore 6, 2) := by decide +kernel
theorem dX7_panel_7 : decode cX7_panel 7 = .ok (.iload_n 2, 1) := by decide +kernel
theorem dX7_panel_8 : decode cX7_panel 8 = .ok (.aload 6, 2) := by decide +kernel
theorem dX7_panel_10 : decode cX7_panel 10 = .ok (.getfield 64, 3) := by decide +kernel
theorem dX7_panel_13 : decode cX7_panel 13 = .ok (.invokevirtual 36, 3) := by decide +kernel
theorem dX7_panel_16 : decode cX7_panel 16 = .ok (.invokestatic 67, 3) := by decide +kernel
theorem dX7_panel_19 : decode cX7_panel 19 = .ok (.iload_n 3, 1) := by decide +kernel
theorem dX7_panel_20 : decode cX7_panel 20 = .ok (.iconst 1, 1) := by decide +kernel
theorem dX7_panel_21 : decode cX7_panel 21 = .ok (.bipush 9, 2) := by decide +kernel
theorem dX7_panel_23 : decode cX7_panel 23 = .ok (.invokestatic 71, 3) := by decide +kernel
theorem dX7_panel_26 : decode cX7_panel 26 = .ok (.iload 4, 2) := by decide +kernel
theorem dX7_panel_28 : decode cX7_panel 28 = .ok (.iconst 4, 1) := by decide +kernel
theorem dX7_panel_29 : decode cX7_panel 29 = .ok (.bipush 24, 2) := by decide +kernel
theorem dX7_panel_31 : decode cX7_panel 31 = .ok (.invokestatic 71, 3) := by decide +kernel
theorem dX7_panel_34 : decode cX7_panel 34 = .ok (.iload 5, 2) := by decide +kernel
theorem dX7_panel_36 : decode cX7_panel 36 = .ok (.iconst 3, 1) := by decide +kernel
theorem dX7_panel_37 : decode cX7_panel 37 = .ok (.bipush 12, 2) := by decide +kernel
theorem dX7_panel_39 : decode cX7_panel 39 = .ok (.invokestatic 71, 3) := by decide +kernel
theorem dX7_panel_42 : decode cX7_panel 42 = .ok (.aload 6, 2) := by decide +kernel
theorem dX7_panel_44 : decode cX7_panel 44 = .ok (.getfield 64, 3) := by decide +kernel
theorem dX7_panel_47 : decode cX7_panel 47 = .ok (.invokevirtual 36, 3) := by decide +kernel
theorem dX7_panel_50 : decode cX7_panel 50 = .ok (.bipush 8, 2) := by decide +kernel
theorem dX7_panel_52 : decode cX7_panel 52 = .ok (.if_icmp .ge 15, 3) := by decide +kernel
theorem dX7_panel_55 : decode cX7_panel 55 = .ok (.aload_n 0, 1) := by decide +kernel
theorem dX7_panel_56 : decode cX7_panel 56 = .ok (.getfield 16, 3) := by decide +kernel
theorem dX7_panel_59 : decode cX7_panel 59 = .ok (.invokevirtual 36, 3) := by decide +kernel
theorem dX7_panel_62 : decode cX7_panel 62 = .ok (.bipush 50, 2) := by decide +kernel
theorem dX7_panel_64 : decode cX7_panel 64 = .ok (.if_icmp .lt 13, 3) := by decide +kernel
theorem dX7_panel_67 : decode cX7_panel 67 = .ok (.new 40, 3) := by decide +kernel
theorem dX7_panel_70 : decode cX7_panel 70 = .ok (.dup, 1) := by decide +kernel
theorem dX7_panel_71 : decode cX7_panel 71 = .ok (.ldc 75, 2) := by decide +kernel
theorem dX7_panel_73 : decode cX7_panel 73 = .ok (.invokespecial 44, 3) := by decide +kernel
theorem dX7_panel_76 : decode cX7_panel 76 = .ok (.athrow, 1) := by decide +kernel
theorem dX7_panel_77 : decode cX7_panel 77 = .ok (.new 77, 3) := by decide +kernel
theorem dX7_panel_80 : decode cX7_panel 80 = .ok (.dup, 1) := by decide +kernel
theorem dX7_panel_81 : decode cX7_panel 81 = .ok (.aload_n 0, 1) := by decide +kernel
theorem dX7_panel_82 : decode cX7_panel 82 = .ok (.getfield 16, 3) := by decide +kernel
theorem dX7_panel_85 : decode cX7_panel 85 = .ok (.invokevirtual 36, 3) := by decide +kernel
theorem dX7_panel_88 : decode cX7_panel 88 = .ok (.aload 6, 2) := by decide +kernel
theorem dX7_panel_90 : decode cX7_panel 90 = .ok (.iload_n 3, 1) := by decide +kernel
theorem dX7_panel_91 : decode cX7_panel 91 = .ok (.iload 4, 2) := by decide +kernel
theorem dX7_panel_93 : decode cX7_panel 93 = .ok (.iload 5, 2) := by decide +kernel
theorem dX7_panel_95 : decode cX7_panel 95 = .ok (.invokespecial 79, 3) := by decide +kernel
theorem dX7_panel_98 : decode cX7_panel 98 = .ok (.astore 7, 2) := by decide +kernel
theorem dX7_panel_100 : decode cX7_panel 100 = .ok (.aload 6, 2) := by decide +kernel
theorem dX7_panel_102 : decode cX7_panel 102 = .ok (.iload_n 2, 1) := by decide +kernel
theorem dX7_panel_103 : decode cX7_panel 103 = .ok (.aload 7, 2) := by decide +kernel
theorem dX7_panel_105 : decode cX7_panel 105 = .ok (.invokevirtual 82, 3) := by decide +kernel
theorem dX7_panel_108 : decode cX7_panel 108 = .ok (.aload_n 0, 1) := by decide +kernel
theorem dX7_panel_109 : decode cX7_panel 109 = .ok (.getfield 25, 3) := by decide +kernel
theorem dX7_panel_112 : decode cX7_panel 112 = .ok (.aload 6, 2) := by decide +kernel
theorem dX7_panel_114 : decode cX7_panel 114 = .ok (.invokevirtual 86, 3) := by decide +kernel
theorem dX7_panel_117 : decode cX7_panel 117 = .ok (.ifCond .ne 19, 3) := by decide +kernel
theorem dX7_panel_120 : decode cX7_panel 120 = .ok (.aload 6, 2) := by decide +kernel
theorem dX7_panel_122 : decode cX7_panel 122 = .ok (.iload_n 2, 1) := by decide +kernel
theorem dX7_panel_123 : decode cX7_panel 123 = .ok (.invokevirtual 90, 3) := by decide +kernel
theorem dX7_panel_126 : decode cX7_panel 126 = .ok (.new 40, 3) := by decide +kernel
theorem dX7_panel_129 : decode cX7_panel 129 = .ok (.dup, 1) := by decide +kernel
theorem dX7_panel_130 : decode cX7_panel 130 = .ok (.ldc 93, 2) := by decide +kernel
theorem dX7_panel_132 : decode cX7_panel 132 = .ok (.invokespecial 44, 3) := by decide +kernel
theorem dX7_panel_135 : decode cX7_panel 135 = .ok (.athrow, 1) := by decide +kernel
theorem dX7_panel_136 : decode cX7_panel 136 = .ok (.aload_n 0, 1) := by decide +kernel
theorem dX7_panel_137 : decode cX7_panel 137 = .ok (.getfield 16, 3) := by decide +kernel
theorem dX7_panel_140 : decode cX7_panel 140 = .ok (.aload 7, 2) := by decide +kernel
theorem dX7_panel_142 : decode cX7_panel 142 = .ok (.invokevirtual 52, 3) := by decide +kernel
theorem dX7_panel_145 : decode cX7_panel 145 = .ok (.pop, 1) := by decide +kernel
theorem dX7_panel_146 : decode cX7_panel 146 = .ok (.aload 6, 2) := by decide +kernel
theorem dX7_panel_148 : decode cX7_panel 148 = .ok (.invokevirtual 95, 3) := by decide +kernel
theorem dX7_panel_151 : decode cX7_panel 151 = .ok (.pop, 1) := by decide +kernel
theorem dX7_panel_152 : decode cX7_panel 152 = .ok (.aload 7, 2) := by decide +kernel
theorem dX7_panel_154 : decode cX7_panel 154 = .ok (.getfield 98, 3) := by decide +kernel
theorem dX7_panel_157 : decode cX7_panel 157 = .ok (.ireturn, 1) := by decide +kernel
theorem dX7_panelAt_0 : decode cX7_panelAt 0 = .ok (.aload_n 0, 1) := by decide +kernel
theorem dX7_panelAt_1 : decode cX7_panelAt 1 = .ok (.iload_n 1, 1) := by decide +kernel
theorem dX7_panelAt_2 : decode cX7_panelAt 2 = .ok (.invokevirtual 60, 3) := by decide +kernel
theorem dX7_panelAt_5 : decode cX7_panelAt 5 = .ok (.astore_n 3, 1) := by decide +kernel
theorem dX7_panelAt_6 : decode cX7_panelAt 6 = .ok (.iload_n 2, 1) := by decide +kernel
theorem dX7_panelAt_7 : decode cX7_panelAt 7 = .ok (.aload_n 3, 1) := by decide +kernel
theorem dX7_panelAt_8 : decode cX7_panelAt 8 = .ok (.getfield 64, 3) := by decide +kernel
theorem dX7_panelAt_11 : decode cX7_panelAt 11 = .ok (.invokevirtual 36, 3) := by decide +kernel
theorem dX7_panelAt_14 : decode cX7_panelAt 14 = .ok (.iconst 1, 1) := by decide +kernel
theorem dX7_panelAt_15 : decode cX7_panelAt 15 = .ok (.isub, 1) := by decide +kernel
theorem dX7_panelAt_16 : decode cX7_panelAt 16 = .ok (.invokestatic 67, 3) := by decide +kernel
theorem dX7_panelAt_19 : decode cX7_panelAt 19 = .ok (.aload_n 3, 1) := by decide +kernel
theorem dX7_panelAt_20 : decode cX7_panelAt 20 = .ok (.getfield 64, 3) := by decide +kernel
theorem dX7_panelAt_23 : decode cX7_panelAt 23 = .ok (.iload_n 2, 1) := by decide +kernel
theorem dX7_panelAt_24 : decode cX7_panelAt 24 = .ok (.invokevirtual 215, 3) := by decide +kernel
theorem dX7_panelAt_27 : decode cX7_panelAt 27 = .ok (.checkcast 77, 3) := by decide +kernel
theorem dX7_panelAt_30 : decode cX7_panelAt 30 = .ok (.getfield 98, 3) := by decide +kernel
theorem dX7_panelAt_33 : decode cX7_panelAt 33 = .ok (.ireturn, 1) := by decide +kernel
theorem dX7_panels_0 : decode cX7_panels 0 = .ok (.aload_n 0, 1) := by decide +kernel
theorem dX7_panels_1 : decode cX7_panels 1 = .ok (.iload_n 1, 1) := by decide +kernel
theorem dX7_panels_2 : decode cX7_panels 2 = .ok (.invokevirtual 60, 3) := by decide +kernel
theorem dX7_panels_5 : decode cX7_panels 5 = .ok (.getfield 64, 3) := by decide +kernel
theorem dX7_panels_8 : decode cX7_panels 8 = .ok (.invokevirtual 36, 3) := by decide +kernel
theorem dX7_panels_11 : decode cX7_panels 11 = .ok (.ireturn, 1) := by decide +kernel
theorem dX7_placeByPairs_0 : decode cX7_placeByPairs 0 = .ok (.aload_n 0, 1) := by decide +kernel
theorem dX7_placeByPairs_1 : decode cX7_placeByPairs 1 = .ok (.iload_n 1, 1) := by decide +kernel
theorem dX7_placeByPairs_2 : decode cX7_placeByPairs 2 = .ok (.invokevirtual 171, 3) := by decide +kernel
theorem dX7_placeByPairs_5 : decode cX7_placeByPairs 5 = .ok (.astore_n 2, 1) := by decide +kernel
theorem dX7_placeByPairs_6 : decode cX7_placeByPairs 6 = .ok (.iconst 0, 1) := by decide +kernel
theorem dX7_placeByPairs_7 : decode cX7_placeByPairs 7 = .ok (.istore_n 3, 1) := by decide +kernel
theorem dX7_placeByPairs_8 : decode cX7_placeByPairs 8 = .ok (.iconst 0, 1) := by decide +kernel
theorem dX7_placeByPairs_9 : decode cX7_placeByPairs 9 = .ok (.istore 4, 2) := by decide +kernel
theorem dX7_placeByPairs_11 : decode cX7_placeByPairs 11 = .ok (.iload 4, 2) := by decide +kernel
theorem dX7_placeByPairs_13 : decode cX7_placeByPairs 13 = .ok (.aload_n 0, 1) := by decide +kernel
theorem dX7_placeByPairs_14 : decode cX7_placeByPairs 14 = .ok (.getfield 19, 3) := by decide +kernel
theorem dX7_placeByPairs_17 : decode cX7_placeByPairs 17 = .ok (.invokevirtual 36, 3) := by decide +kernel
theorem dX7_placeByPairs_20 : decode cX7_placeByPairs 20 = .ok (.if_icmp .ge 43, 3) := by decide +kernel
theorem dX7_placeByPairs_23 : decode cX7_placeByPairs 23 = .ok (.aload_n 0, 1) := by decide +kernel
theorem dX7_placeByPairs_24 : decode cX7_placeByPairs 24 = .ok (.getfield 19, 3) := by decide +kernel
theorem dX7_placeByPairs_27 : decode cX7_placeByPairs 27 = .ok (.iload 4, 2) := by decide +kernel
theorem dX7_placeByPairs_29 : decode cX7_placeByPairs 29 = .ok (.invokevirtual 215, 3) := by decide +kernel
theorem dX7_placeByPairs_32 : decode cX7_placeByPairs 32 = .ok (.checkcast 161, 3) := by decide +kernel
theorem dX7_placeByPairs_35 : decode cX7_placeByPairs 35 = .ok (.astore 5, 2) := by decide +kernel
theorem dX7_placeByPairs_37 : decode cX7_placeByPairs 37 = .ok (.aload 5, 2) := by decide +kernel
theorem dX7_placeByPairs_39 : decode cX7_placeByPairs 39 = .ok (.getfield 195, 3) := by decide +kernel
theorem dX7_placeByPairs_42 : decode cX7_placeByPairs 42 = .ok (.ifCond .ne 15, 3) := by decide +kernel
theorem dX7_placeByPairs_45 : decode cX7_placeByPairs 45 = .ok (.aload 5, 2) := by decide +kernel
theorem dX7_placeByPairs_47 : decode cX7_placeByPairs 47 = .ok (.aload_n 2, 1) := by decide +kernel
theorem dX7_placeByPairs_48 : decode cX7_placeByPairs 48 = .ok (.invokevirtual 253, 3) := by decide +kernel
theorem dX7_placeByPairs_51 : decode cX7_placeByPairs 51 = .ok (.ifCond .eq 6, 3) := by decide +kernel
theorem dX7_placeByPairs_54 : decode cX7_placeByPairs 54 = .ok (.iinc 3 1, 3) := by decide +kernel
theorem dX7_placeByPairs_57 : decode cX7_placeByPairs 57 = .ok (.iinc 4 1, 3) := by decide +kernel
theorem dX7_placeByPairs_60 : decode cX7_placeByPairs 60 = .ok (.goto (-49), 3) := by decide +kernel
theorem dX7_placeByPairs_63 : decode cX7_placeByPairs 63 = .ok (.iload_n 3, 1) := by decide +kernel
theorem dX7_placeByPairs_64 : decode cX7_placeByPairs 64 = .ok (.ireturn, 1) := by decide +kernel
theorem dX7_placeOf_0 : decode cX7_placeOf 0 = .ok (.aload_n 0, 1) := by decide +kernel
theorem dX7_placeOf_1 : decode cX7_placeOf 1 = .ok (.aload_n 0, 1) := by decide +kernel
theorem dX7_placeOf_2 : decode cX7_placeOf 2 = .ok (.iload_n 1, 1) := by decide +kernel
theorem dX7_placeOf_3 : decode cX7_placeOf 3 = .ok (.invokevirtual 171, 3) := by decide +kernel
theorem dX7_placeOf_6 : decode cX7_placeOf 6 = .ok (.invokevirtual 250, 3) := by decide +kernel
theorem dX7_placeOf_9 : decode cX7_placeOf 9 = .ok (.ireturn, 1) := by decide +kernel
theorem dX7_read_0 : decode cX7_read 0 = .ok (.iload_n 1, 1) := by decide +kernel
theorem dX7_read_1 : decode cX7_read 1 = .ok (.ifCond .ge 7, 3) := by decide +kernel
theorem dX7_read_4 : decode cX7_read 4 = .ok (.aconst_null, 1) := by decide +kernel
theorem dX7_read_5 : decode cX7_read 5 = .ok (.goto 8, 3) := by decide +kernel
theorem dX7_read_8 : decode cX7_read 8 = .ok (.aload_n 0, 1) := by decide +kernel
theorem dX7_read_9 : decode cX7_read 9 = .ok (.iload_n 1, 1) := by decide +kernel
theorem dX7_read_10 : decode cX7_read 10 = .ok (.invokevirtual 242, 3) := by decide +kernel
theorem dX7_read_13 : decode cX7_read 13 = .ok (.astore_n 2, 1) := by decide +kernel
theorem dX7_read_14 : decode cX7_read 14 = .ok (.aload_n 2, 1) := by decide +kernel
theorem dX7_read_15 : decode cX7_read 15 = .ok (.ifnonnull 13, 3) := by decide +kernel
theorem dX7_read_18 : decode cX7_read 18 = .ok (.new 245, 3) := by decide +kernel
theorem dX7_read_21 : decode cX7_read 21 = .ok (.dup, 1) := by decide +kernel
theorem dX7_read_22 : decode cX7_read 22 = .ok (.ldc 247, 2) := by decide +kernel
theorem dX7_read_24 : decode cX7_read 24 = .ok (.invokespecial 249, 3) := by decide +kernel
theorem dX7_read_27 : decode cX7_read 27 = .ok (.athrow, 1) := by decide +kernel
theorem dX7_read_28 : decode cX7_read 28 = .ok (.aload_n 2, 1) := by decide +kernel
theorem dX7_read_29 : decode cX7_read 29 = .ok (.getfield 170, 3) := by decide +kernel
theorem dX7_read_32 : decode cX7_read 32 = .ok (.ireturn, 1) := by decide +kernel
theorem dX7_readAheadOf_0 : decode cX7_readAheadOf 0 = .ok (.aconst_null, 1) := by decide +kernel
theorem dX7_readAheadOf_1 : decode cX7_readAheadOf 1 = .ok (.astore_n 2, 1) := by decide +kernel
theorem dX7_readAheadOf_2 : decode cX7_readAheadOf 2 = .ok (.iconst 0, 1) := by decide +kernel
theorem dX7_readAheadOf_3 : decode cX7_readAheadOf 3 = .ok (.istore_n 3, 1) := by decide +kernel
theorem dX7_readAheadOf_4 : decode cX7_readAheadOf 4 = .ok (.iload_n 3, 1) := by decide +kernel
theorem dX7_readAheadOf_5 : decode cX7_readAheadOf 5 = .ok (.aload_n 0, 1) := by decide +kernel
theorem dX7_readAheadOf_6 : decode cX7_readAheadOf 6 = .ok (.getfield 10, 3) := by decide +kernel
theorem dX7_readAheadOf_9 : decode cX7_readAheadOf 9 = .ok (.invokevirtual 36, 3) := by decide +kernel
theorem dX7_readAheadOf_12 : decode cX7_readAheadOf 12 = .ok (.if_icmp .ge 74, 3) := by decide +kernel
theorem dX7_readAheadOf_15 : decode cX7_readAheadOf 15 = .ok (.aload_n 0, 1) := by decide +kernel
theorem dX7_readAheadOf_16 : decode cX7_readAheadOf 16 = .ok (.getfield 10, 3) := by decide +kernel
theorem dX7_readAheadOf_19 : decode cX7_readAheadOf 19 = .ok (.iload_n 3, 1) := by decide +kernel
theorem dX7_readAheadOf_20 : decode cX7_readAheadOf 20 = .ok (.invokevirtual 215, 3) := by decide +kernel
theorem dX7_readAheadOf_23 : decode cX7_readAheadOf 23 = .ok (.checkcast 47, 3) := by decide +kernel
theorem dX7_readAheadOf_26 : decode cX7_readAheadOf 26 = .ok (.astore 4, 2) := by decide +kernel
theorem dX7_readAheadOf_28 : decode cX7_readAheadOf 28 = .ok (.iconst 0, 1) := by decide +kernel
theorem dX7_readAheadOf_29 : decode cX7_readAheadOf 29 = .ok (.istore 5, 2) := by decide +kernel
theorem dX7_readAheadOf_31 : decode cX7_readAheadOf 31 = .ok (.iload 5, 2) := by decide +kernel
theorem dX7_readAheadOf_33 : decode cX7_readAheadOf 33 = .ok (.aload 4, 2) := by decide +kernel
theorem dX7_readAheadOf_35 : decode cX7_readAheadOf 35 = .ok (.getfield 64, 3) := by decide +kernel
theorem dX7_readAheadOf_38 : decode cX7_readAheadOf 38 = .ok (.invokevirtual 36, 3) := by decide +kernel
theorem dX7_readAheadOf_41 : decode cX7_readAheadOf 41 = .ok (.if_icmp .ge 39, 3) := by decide +kernel
theorem dX7_readAheadOf_44 : decode cX7_readAheadOf 44 = .ok (.aload 4, 2) := by decide +kernel
theorem dX7_readAheadOf_46 : decode cX7_readAheadOf 46 = .ok (.getfield 64, 3) := by decide +kernel
theorem dX7_readAheadOf_49 : decode cX7_readAheadOf 49 = .ok (.iload 5, 2) := by decide +kernel
theorem dX7_readAheadOf_51 : decode cX7_readAheadOf 51 = .ok (.invokevirtual 215, 3) := by decide +kernel
theorem dX7_readAheadOf_54 : decode cX7_readAheadOf 54 = .ok (.aload_n 1, 1) := by decide +kernel
theorem dX7_readAheadOf_55 : decode cX7_readAheadOf 55 = .ok (.if_acmp .ne 5, 3) := by decide +kernel
theorem dX7_readAheadOf_58 : decode cX7_readAheadOf 58 = .ok (.aload_n 2, 1) := by decide +kernel
theorem dX7_readAheadOf_59 : decode cX7_readAheadOf 59 = .ok (.areturn, 1) := by decide +kernel
theorem dX7_readAheadOf_60 : decode cX7_readAheadOf 60 = .ok (.aload 4, 2) := by decide +kernel
theorem dX7_readAheadOf_62 : decode cX7_readAheadOf 62 = .ok (.getfield 64, 3) := by decide +kernel
theorem dX7_readAheadOf_65 : decode cX7_readAheadOf 65 = .ok (.iload 5, 2) := by decide +kernel
theorem dX7_readAheadOf_67 : decode cX7_readAheadOf 67 = .ok (.invokevirtual 215, 3) := by decide +kernel
theorem dX7_readAheadOf_70 : decode cX7_readAheadOf 70 = .ok (.checkcast 77, 3) := by decide +kernel
theorem dX7_readAheadOf_73 : decode cX7_readAheadOf 73 = .ok (.astore_n 2, 1) := by decide +kernel
theorem dX7_readAheadOf_74 : decode cX7_readAheadOf 74 = .ok (.iinc 5 1, 3) := by decide +kernel
theorem dX7_readAheadOf_77 : decode cX7_readAheadOf 77 = .ok (.goto (-46), 3) := by decide +kernel
theorem dX7_readAheadOf_80 : decode cX7_readAheadOf 80 = .ok (.iinc 3 1, 3) := by decide +kernel
theorem dX7_readAheadOf_83 : decode cX7_readAheadOf 83 = .ok (.goto (-79), 3) := by decide +kernel
theorem dX7_readAheadOf_86 : decode cX7_readAheadOf 86 = .ok (.aconst_null, 1) := by decide +kernel
theorem dX7_readAheadOf_87 : decode cX7_readAheadOf 87 = .ok (.areturn, 1) := by decide +kernel
theorem dX7_readBehind_0 : decode cX7_readBehind 0 = .ok (.aconst_null, 1) := by decide +kernel
theorem dX7_readBehind_1 : decode cX7_readBehind 1 = .ok (.astore_n 2, 1) := by decide +kernel
theorem dX7_readBehind_2 : decode cX7_readBehind 2 = .ok (.iconst 0, 1) := by decide +kernel
theorem dX7_readBehind_3 : decode cX7_readBehind 3 = .ok (.istore_n 3, 1) := by decide +kernel
theorem dX7_readBehind_4 : decode cX7_readBehind 4 = .ok (.iload_n 3, 1) := by decide +kernel
theorem dX7_readBehind_5 : decode cX7_readBehind 5 = .ok (.aload_n 0, 1) := by decide +kernel
theorem dX7_readBehind_6 : decode cX7_readBehind 6 = .ok (.getfield 10, 3) := by decide +kernel
theorem dX7_readBehind_9 : decode cX7_readBehind 9 = .ok (.invokevirtual 36, 3) := by decide +kernel
theorem dX7_readBehind_12 : decode cX7_readBehind 12 = .ok (.if_icmp .ge 77, 3) := by decide +kernel
theorem dX7_readBehind_15 : decode cX7_readBehind 15 = .ok (.aload_n 0, 1) := by decide +kernel
theorem dX7_readBehind_16 : decode cX7_readBehind 16 = .ok (.getfield 10, 3) := by decide +kernel
theorem dX7_readBehind_19 : decode cX7_readBehind 19 = .ok (.iload_n 3, 1) := by decide +kernel
theorem dX7_readBehind_20 : decode cX7_readBehind 20 = .ok (.invokevirtual 215, 3) := by decide +kernel
theorem dX7_readBehind_23 : decode cX7_readBehind 23 = .ok (.checkcast 47, 3) := by decide +kernel
theorem dX7_readBehind_26 : decode cX7_readBehind 26 = .ok (.astore 4, 2) := by decide +kernel
theorem dX7_readBehind_28 : decode cX7_readBehind 28 = .ok (.iconst 0, 1) := by decide +kernel
theorem dX7_readBehind_29 : decode cX7_readBehind 29 = .ok (.istore 5, 2) := by decide +kernel
theorem dX7_readBehind_31 : decode cX7_readBehind 31 = .ok (.iload 5, 2) := by decide +kernel
theorem dX7_readBehind_33 : decode cX7_readBehind 33 = .ok (.aload 4, 2) := by decide +kernel
theorem dX7_readBehind_35 : decode cX7_readBehind 35 = .ok (.getfield 64, 3) := by decide +kernel
theorem dX7_readBehind_38 : decode cX7_readBehind 38 = .ok (.invokevirtual 36, 3) := by decide +kernel
theorem dX7_readBehind_41 : decode cX7_readBehind 41 = .ok (.if_icmp .ge 42, 3) := by decide +kernel
theorem dX7_readBehind_44 : decode cX7_readBehind 44 = .ok (.aload_n 2, 1) := by decide +kernel
theorem dX7_readBehind_45 : decode cX7_readBehind 45 = .ok (.aload_n 1, 1) := by decide +kernel
theorem dX7_readBehind_46 : decode cX7_readBehind 46 = .ok (.if_acmp .ne 17, 3) := by decide +kernel
theorem dX7_readBehind_49 : decode cX7_readBehind 49 = .ok (.aload 4, 2) := by decide +kernel
theorem dX7_readBehind_51 : decode cX7_readBehind 51 = .ok (.getfield 64, 3) := by decide +kernel
theorem dX7_readBehind_54 : decode cX7_readBehind 54 = .ok (.iload 5, 2) := by decide +kernel
theorem dX7_readBehind_56 : decode cX7_readBehind 56 = .ok (.invokevirtual 215, 3) := by decide +kernel
theorem dX7_readBehind_59 : decode cX7_readBehind 59 = .ok (.checkcast 77, 3) := by decide +kernel
theorem dX7_readBehind_62 : decode cX7_readBehind 62 = .ok (.areturn, 1) := by decide +kernel
theorem dX7_readBehind_63 : decode cX7_readBehind 63 = .ok (.aload 4, 2) := by decide +kernel
theorem dX7_readBehind_65 : decode cX7_readBehind 65 = .ok (.getfield 64, 3) := by decide +kernel
theorem dX7_readBehind_68 : decode cX7_readBehind 68 = .ok (.iload 5, 2) := by decide +kernel
theorem dX7_readBehind_70 : decode cX7_readBehind 70 = .ok (.invokevirtual 215, 3) := by decide +kernel
theorem dX7_readBehind_73 : decode cX7_readBehind 73 = .ok (.checkcast 77, 3) := by decide +kernel
theorem dX7_readBehind_76 : decode cX7_readBehind 76 = .ok (.astore_n 2, 1) := by decide +kernel
theorem dX7_readBehind_77 : decode cX7_readBehind 77 = .ok (.iinc 5 1, 3) := by decide +kernel
theorem dX7_readBehind_80 : decode cX7_readBehind 80 = .ok (.goto (-49), 3) := by decide +kernel
theorem dX7_readBehind_83 : decode cX7_readBehind 83 = .ok (.iinc 3 1, 3) := by decide +kernel
theorem dX7_readBehind_86 : decode cX7_readBehind 86 = .ok (.goto (-82), 3) := by decide +kernel
theorem dX7_readBehind_89 : decode cX7_readBehind 89 = .ok (.aconst_null, 1) := by decide +kernel
theorem dX7_readBehind_90 : decode cX7_readBehind 90 = .ok (.areturn, 1) := by decide +kernel
theorem dX7_roundedUp_0 : decode cX7_roundedUp 0 = .ok (.iload_n 1, 1) := by decide +kernel
theorem dX7_roundedUp_1 : decode cX7_roundedUp 1 = .ok (.ifCond .le 13, 3) := by decide +kernel
theorem dX7_roundedUp_4 : decode cX7_roundedUp 4 = .ok (.iload_n 0, 1) := by decide +kernel
theorem dX7_roundedUp_5 : decode cX7_roundedUp 5 = .ok (.iload_n 1, 1) := by decide +kernel
theorem dX7_roundedUp_6 : decode cX7_roundedUp 6 = .ok (.iadd, 1) := by decide +kernel
theorem dX7_roundedUp_7 : decode cX7_roundedUp 7 = .ok (.iconst 1, 1) := by decide +kernel
theorem dX7_roundedUp_8 : decode cX7_roundedUp 8 = .ok (.isub, 1) := by decide +kernel
theorem dX7_roundedUp_9 : decode cX7_roundedUp 9 = .ok (.iload_n 1, 1) := by decide +kernel
theorem dX7_roundedUp_10 : decode cX7_roundedUp 10 = .ok (.idiv, 1) := by decide +kernel
theorem dX7_roundedUp_11 : decode cX7_roundedUp 11 = .ok (.goto 4, 3) := by decide +kernel
theorem dX7_roundedUp_14 : decode cX7_roundedUp 14 = .ok (.iconst 0, 1) := by decide +kernel
theorem dX7_roundedUp_15 : decode cX7_roundedUp 15 = .ok (.ireturn, 1) := by decide +kernel
theorem dX7_rows_0 : decode cX7_rows 0 = .ok (.aload_n 0, 1) := by decide +kernel
theorem dX7_rows_1 : decode cX7_rows 1 = .ok (.iload_n 1, 1) := by decide +kernel
theorem dX7_rows_2 : decode cX7_rows 2 = .ok (.invokevirtual 60, 3) := by decide +kernel
theorem dX7_rows_5 : decode cX7_rows 5 = .ok (.getfield 221, 3) := by decide +kernel
theorem dX7_rows_8 : decode cX7_rows 8 = .ok (.ireturn, 1) := by decide +kernel
theorem dX7_setGrowth_0 : decode cX7_setGrowth 0 = .ok (.iload_n 1, 1) := by decide +kernel
theorem dX7_setGrowth_1 : decode cX7_setGrowth 1 = .ok (.iconst 0, 1) := by decide +kernel
theorem dX7_setGrowth_2 : decode cX7_setGrowth 2 = .ok (.iconst 2, 1) := by decide +kernel
theorem dX7_setGrowth_3 : decode cX7_setGrowth 3 = .ok (.invokestatic 71, 3) := by decide +kernel
theorem dX7_setGrowth_6 : decode cX7_setGrowth 6 = .ok (.iload_n 2, 1) := by decide +kernel
theorem dX7_setGrowth_7 : decode cX7_setGrowth 7 = .ok (.bipush 50, 2) := by decide +kernel
theorem dX7_setGrowth_9 : decode cX7_setGrowth 9 = .ok (.sipush 250, 3) := by decide +kernel
theorem dX7_setGrowth_12 : decode cX7_setGrowth 12 = .ok (.invokestatic 71, 3) := by decide +kernel
theorem dX7_setGrowth_15 : decode cX7_setGrowth 15 = .ok (.aload_n 0, 1) := by decide +kernel
theorem dX7_setGrowth_16 : decode cX7_setGrowth 16 = .ok (.getfield 25, 3) := by decide +kernel
theorem dX7_setGrowth_19 : decode cX7_setGrowth 19 = .ok (.getfield 211, 3) := by decide +kernel
theorem dX7_setGrowth_22 : decode cX7_setGrowth 22 = .ok (.iload_n 1, 1) := by decide +kernel
theorem dX7_setGrowth_23 : decode cX7_setGrowth 23 = .ok (.iaload, 1) := by decide +kernel
theorem dX7_setGrowth_24 : decode cX7_setGrowth 24 = .ok (.istore_n 3, 1) := by decide +kernel
theorem dX7_setGrowth_25 : decode cX7_setGrowth 25 = .ok (.aload_n 0, 1) := by decide +kernel
theorem dX7_setGrowth_26 : decode cX7_setGrowth 26 = .ok (.getfield 25, 3) := by decide +kernel
theorem dX7_setGrowth_29 : decode cX7_setGrowth 29 = .ok (.getfield 211, 3) := by decide +kernel
theorem dX7_setGrowth_32 : decode cX7_setGrowth 32 = .ok (.iload_n 1, 1) := by decide +kernel
theorem dX7_setGrowth_33 : decode cX7_setGrowth 33 = .ok (.iload_n 2, 1) := by decide +kernel
theorem dX7_setGrowth_34 : decode cX7_setGrowth 34 = .ok (.iastore, 1) := by decide +kernel
theorem dX7_setGrowth_35 : decode cX7_setGrowth 35 = .ok (.iconst 0, 1) := by decide +kernel
theorem dX7_setGrowth_36 : decode cX7_setGrowth 36 = .ok (.istore 4, 2) := by decide +kernel
theorem dX7_setGrowth_38 : decode cX7_setGrowth 38 = .ok (.iload 4, 2) := by decide +kernel
theorem dX7_setGrowth_40 : decode cX7_setGrowth 40 = .ok (.aload_n 0, 1) := by decide +kernel
theorem dX7_setGrowth_41 : decode cX7_setGrowth 41 = .ok (.getfield 10, 3) := by decide +kernel
theorem dX7_setGrowth_44 : decode cX7_setGrowth 44 = .ok (.invokevirtual 36, 3) := by decide +kernel
theorem dX7_setGrowth_47 : decode cX7_setGrowth 47 = .ok (.if_icmp .ge 51, 3) := by decide +kernel
theorem dX7_setGrowth_50 : decode cX7_setGrowth 50 = .ok (.aload_n 0, 1) := by decide +kernel
theorem dX7_setGrowth_51 : decode cX7_setGrowth 51 = .ok (.getfield 25, 3) := by decide +kernel
theorem dX7_setGrowth_54 : decode cX7_setGrowth 54 = .ok (.aload_n 0, 1) := by decide +kernel
theorem dX7_setGrowth_55 : decode cX7_setGrowth 55 = .ok (.getfield 10, 3) := by decide +kernel
theorem dX7_setGrowth_58 : decode cX7_setGrowth 58 = .ok (.iload 4, 2) := by decide +kernel
theorem dX7_setGrowth_60 : decode cX7_setGrowth 60 = .ok (.invokevirtual 215, 3) := by decide +kernel
theorem dX7_setGrowth_63 : decode cX7_setGrowth 63 = .ok (.checkcast 47, 3) := by decide +kernel
theorem dX7_setGrowth_66 : decode cX7_setGrowth 66 = .ok (.invokevirtual 86, 3) := by decide +kernel
theorem dX7_setGrowth_69 : decode cX7_setGrowth 69 = .ok (.ifCond .ne 23, 3) := by decide +kernel
theorem dX7_setGrowth_72 : decode cX7_setGrowth 72 = .ok (.aload_n 0, 1) := by decide +kernel
theorem dX7_setGrowth_73 : decode cX7_setGrowth 73 = .ok (.getfield 25, 3) := by decide +kernel
theorem dX7_setGrowth_76 : decode cX7_setGrowth 76 = .ok (.getfield 211, 3) := by decide +kernel
theorem dX7_setGrowth_79 : decode cX7_setGrowth 79 = .ok (.iload_n 1, 1) := by decide +kernel
theorem dX7_setGrowth_80 : decode cX7_setGrowth 80 = .ok (.iload_n 3, 1) := by decide +kernel
theorem dX7_setGrowth_81 : decode cX7_setGrowth 81 = .ok (.iastore, 1) := by decide +kernel
theorem dX7_setGrowth_82 : decode cX7_setGrowth 82 = .ok (.new 40, 3) := by decide +kernel
theorem dX7_setGrowth_85 : decode cX7_setGrowth 85 = .ok (.dup, 1) := by decide +kernel
theorem dX7_setGrowth_86 : decode cX7_setGrowth 86 = .ok (.ldc 219, 2) := by decide +kernel
theorem dX7_setGrowth_88 : decode cX7_setGrowth 88 = .ok (.invokespecial 44, 3) := by decide +kernel
theorem dX7_setGrowth_91 : decode cX7_setGrowth 91 = .ok (.athrow, 1) := by decide +kernel
theorem dX7_setGrowth_92 : decode cX7_setGrowth 92 = .ok (.iinc 4 1, 3) := by decide +kernel
theorem dX7_setGrowth_95 : decode cX7_setGrowth 95 = .ok (.goto (-57), 3) := by decide +kernel
theorem dX7_setGrowth_98 : decode cX7_setGrowth 98 = .ok (.iconst 0, 1) := by decide +kernel
theorem dX7_setGrowth_99 : decode cX7_setGrowth 99 = .ok (.istore 4, 2) := by decide +kernel
theorem dX7_setGrowth_101 : decode cX7_setGrowth 101 = .ok (.iconst 0, 1) := by decide +kernel
theorem dX7_setGrowth_102 : decode cX7_setGrowth 102 = .ok (.istore 5, 2) := by decide +kernel
theorem dX7_setGrowth_104 : decode cX7_setGrowth 104 = .ok (.iload 5, 2) := by decide +kernel
theorem dX7_setGrowth_106 : decode cX7_setGrowth 106 = .ok (.aload_n 0, 1) := by decide +kernel
theorem dX7_setGrowth_107 : decode cX7_setGrowth 107 = .ok (.getfield 10, 3) := by decide +kernel
theorem dX7_setGrowth_110 : decode cX7_setGrowth 110 = .ok (.invokevirtual 36, 3) := by decide +kernel
theorem dX7_setGrowth_113 : decode cX7_setGrowth 113 = .ok (.if_icmp .ge 29, 3) := by decide +kernel
theorem dX7_setGrowth_116 : decode cX7_setGrowth 116 = .ok (.iload 4, 2) := by decide +kernel
theorem dX7_setGrowth_118 : decode cX7_setGrowth 118 = .ok (.aload_n 0, 1) := by decide +kernel
theorem dX7_setGrowth_119 : decode cX7_setGrowth 119 = .ok (.getfield 10, 3) := by decide +kernel
theorem dX7_setGrowth_122 : decode cX7_setGrowth 122 = .ok (.iload 5, 2) := by decide +kernel
theorem dX7_setGrowth_124 : decode cX7_setGrowth 124 = .ok (.invokevirtual 215, 3) := by decide +kernel
theorem dX7_setGrowth_127 : decode cX7_setGrowth 127 = .ok (.checkcast 47, 3) := by decide +kernel
theorem dX7_setGrowth_130 : decode cX7_setGrowth 130 = .ok (.invokevirtual 95, 3) := by decide +kernel
theorem dX7_setGrowth_133 : decode cX7_setGrowth 133 = .ok (.iadd, 1) := by decide +kernel
theorem dX7_setGrowth_134 : decode cX7_setGrowth 134 = .ok (.istore 4, 2) := by decide +kernel
theorem dX7_setGrowth_136 : decode cX7_setGrowth 136 = .ok (.iinc 5 1, 3) := by decide +kernel
theorem dX7_setGrowth_139 : decode cX7_setGrowth 139 = .ok (.goto (-35), 3) := by decide +kernel
theorem dX7_setGrowth_142 : decode cX7_setGrowth 142 = .ok (.iload 4, 2) := by decide +kernel
theorem dX7_setGrowth_144 : decode cX7_setGrowth 144 = .ok (.ireturn, 1) := by decide +kernel
theorem dX7_translate_0 : decode cX7_translate 0 = .ok (.aload_n 0, 1) := by decide +kernel
theorem dX7_translate_1 : decode cX7_translate 1 = .ok (.iload_n 1, 1) := by decide +kernel
theorem dX7_translate_2 : decode cX7_translate 2 = .ok (.invokevirtual 60, 3) := by decide +kernel
theorem dX7_translate_5 : decode cX7_translate 5 = .ok (.astore_n 3, 1) := by decide +kernel
theorem dX7_translate_6 : decode cX7_translate 6 = .ok (.iload_n 2, 1) := by decide +kernel
theorem dX7_translate_7 : decode cX7_translate 7 = .ok (.iconst 0, 1) := by decide +kernel
theorem dX7_translate_8 : decode cX7_translate 8 = .ok (.iconst 2, 1) := by decide +kernel
theorem dX7_translate_9 : decode cX7_translate 9 = .ok (.invokestatic 71, 3) := by decide +kernel
theorem dX7_translate_12 : decode cX7_translate 12 = .ok (.aload_n 3, 1) := by decide +kernel
theorem dX7_translate_13 : decode cX7_translate 13 = .ok (.getfield 208, 3) := by decide +kernel
theorem dX7_translate_16 : decode cX7_translate 16 = .ok (.istore 4, 2) := by decide +kernel
theorem dX7_translate_18 : decode cX7_translate 18 = .ok (.aload_n 3, 1) := by decide +kernel
theorem dX7_translate_19 : decode cX7_translate 19 = .ok (.iload_n 2, 1) := by decide +kernel
theorem dX7_translate_20 : decode cX7_translate 20 = .ok (.putfield 208, 3) := by decide +kernel
theorem dX7_translate_23 : decode cX7_translate 23 = .ok (.aload_n 0, 1) := by decide +kernel
theorem dX7_translate_24 : decode cX7_translate 24 = .ok (.getfield 25, 3) := by decide +kernel
theorem dX7_translate_27 : decode cX7_translate 27 = .ok (.aload_n 3, 1) := by decide +kernel
theorem dX7_translate_28 : decode cX7_translate 28 = .ok (.invokevirtual 86, 3) := by decide +kernel
theorem dX7_translate_31 : decode cX7_translate 31 = .ok (.ifCond .ne 19, 3) := by decide +kernel
theorem dX7_translate_34 : decode cX7_translate 34 = .ok (.aload_n 3, 1) := by decide +kernel
theorem dX7_translate_35 : decode cX7_translate 35 = .ok (.iload 4, 2) := by decide +kernel
theorem dX7_translate_37 : decode cX7_translate 37 = .ok (.putfield 208, 3) := by decide +kernel
theorem dX7_translate_40 : decode cX7_translate 40 = .ok (.new 40, 3) := by decide +kernel
theorem dX7_translate_43 : decode cX7_translate 43 = .ok (.dup, 1) := by decide +kernel
theorem dX7_translate_44 : decode cX7_translate 44 = .ok (.ldc 93, 2) := by decide +kernel
theorem dX7_translate_46 : decode cX7_translate 46 = .ok (.invokespecial 44, 3) := by decide +kernel
theorem dX7_translate_49 : decode cX7_translate 49 = .ok (.athrow, 1) := by decide +kernel
theorem dX7_translate_50 : decode cX7_translate 50 = .ok (.aload_n 3, 1) := by decide +kernel
theorem dX7_translate_51 : decode cX7_translate 51 = .ok (.invokevirtual 95, 3) := by decide +kernel
theorem dX7_translate_54 : decode cX7_translate 54 = .ok (.ireturn, 1) := by decide +kernel
theorem dX7_turned_0 : decode cX7_turned 0 = .ok (.iload_n 3, 1) := by decide +kernel
theorem dX7_turned_1 : decode cX7_turned 1 = .ok (.ifCond .eq 11, 3) := by decide +kernel
theorem dX7_turned_4 : decode cX7_turned 4 = .ok (.iload_n 2, 1) := by decide +kernel
theorem dX7_turned_5 : decode cX7_turned 5 = .ok (.iload_n 0, 1) := by decide +kernel
theorem dX7_turned_6 : decode cX7_turned 6 = .ok (.isub, 1) := by decide +kernel
theorem dX7_turned_7 : decode cX7_turned 7 = .ok (.iload_n 1, 1) := by decide +kernel
theorem dX7_turned_8 : decode cX7_turned 8 = .ok (.isub, 1) := by decide +kernel
theorem dX7_turned_9 : decode cX7_turned 9 = .ok (.goto 4, 3) := by decide +kernel
theorem dX7_turned_12 : decode cX7_turned 12 = .ok (.iload_n 0, 1) := by decide +kernel
theorem dX7_turned_13 : decode cX7_turned 13 = .ok (.ireturn, 1) := by decide +kernel
