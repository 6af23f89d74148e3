theorem dX7_face_45 : decode cX7_face 45 = .ok (.ldc 141, 2) := by decide +kernel
theorem dX7_face_47 : decode cX7_face 47 = .ok (.invokespecial 44, 3) := by decide +kernel
theorem dX7_face_50 : decode cX7_face 50 = .ok (.athrow, 1) := by decide +kernel
theorem dX7_face_51 : decode cX7_face 51 = .ok (.aload 5, 2) := by decide +kernel
theorem dX7_face_53 : decode cX7_face 53 = .ok (.getfield 138, 3) := by decide +kernel
theorem dX7_face_56 : decode cX7_face 56 = .ok (.new 143, 3) := by decide +kernel
theorem dX7_face_59 : decode cX7_face 59 = .ok (.dup, 1) := by decide +kernel
theorem dX7_face_60 : decode cX7_face 60 = .ok (.iload_n 2, 1) := by decide +kernel
theorem dX7_face_61 : decode cX7_face 61 = .ok (.iload_n 3, 1) := by decide +kernel
theorem dX7_face_62 : decode cX7_face 62 = .ok (.iload 4, 2) := by decide +kernel
theorem dX7_face_64 : decode cX7_face 64 = .ok (.invokespecial 145, 3) := by decide +kernel
theorem dX7_face_67 : decode cX7_face 67 = .ok (.invokevirtual 52, 3) := by decide +kernel
theorem dX7_face_70 : decode cX7_face 70 = .ok (.pop, 1) := by decide +kernel
theorem dX7_face_71 : decode cX7_face 71 = .ok (.aload_n 0, 1) := by decide +kernel
theorem dX7_face_72 : decode cX7_face 72 = .ok (.getfield 25, 3) := by decide +kernel
theorem dX7_face_75 : decode cX7_face 75 = .ok (.aload 5, 2) := by decide +kernel
theorem dX7_face_77 : decode cX7_face 77 = .ok (.getfield 103, 3) := by decide +kernel
theorem dX7_face_80 : decode cX7_face 80 = .ok (.invokevirtual 86, 3) := by decide +kernel
theorem dX7_face_83 : decode cX7_face 83 = .ok (.ifCond .ne 18, 3) := by decide +kernel
theorem dX7_face_86 : decode cX7_face 86 = .ok (.aload 5, 2) := by decide +kernel
theorem dX7_face_88 : decode cX7_face 88 = .ok (.invokevirtual 147, 3) := by decide +kernel
theorem dX7_face_91 : decode cX7_face 91 = .ok (.new 40, 3) := by decide +kernel
theorem dX7_face_94 : decode cX7_face 94 = .ok (.dup, 1) := by decide +kernel
theorem dX7_face_95 : decode cX7_face 95 = .ok (.ldc 93, 2) := by decide +kernel
theorem dX7_face_97 : decode cX7_face 97 = .ok (.invokespecial 44, 3) := by decide +kernel
theorem dX7_face_100 : decode cX7_face 100 = .ok (.athrow, 1) := by decide +kernel
theorem dX7_face_101 : decode cX7_face 101 = .ok (.aload 5, 2) := by decide +kernel
theorem dX7_face_103 : decode cX7_face 103 = .ok (.getfield 103, 3) := by decide +kernel
theorem dX7_face_106 : decode cX7_face 106 = .ok (.invokevirtual 95, 3) := by decide +kernel
theorem dX7_face_109 : decode cX7_face 109 = .ok (.pop, 1) := by decide +kernel
theorem dX7_face_110 : decode cX7_face 110 = .ok (.aload 5, 2) := by decide +kernel
theorem dX7_face_112 : decode cX7_face 112 = .ok (.getfield 150, 3) := by decide +kernel
theorem dX7_face_115 : decode cX7_face 115 = .ok (.getfield 154, 3) := by decide +kernel
theorem dX7_face_118 : decode cX7_face 118 = .ok (.ireturn, 1) := by decide +kernel
theorem dX7_floats_0 : decode cX7_floats 0 = .ok (.aload_n 0, 1) := by decide +kernel
theorem dX7_floats_1 : decode cX7_floats 1 = .ok (.iload_n 1, 1) := by decide +kernel
theorem dX7_floats_2 : decode cX7_floats 2 = .ok (.invokevirtual 171, 3) := by decide +kernel
theorem dX7_floats_5 : decode cX7_floats 5 = .ok (.astore_n 3, 1) := by decide +kernel
theorem dX7_floats_6 : decode cX7_floats 6 = .ok (.iload_n 2, 1) := by decide +kernel
theorem dX7_floats_7 : decode cX7_floats 7 = .ok (.iconst 0, 1) := by decide +kernel
theorem dX7_floats_8 : decode cX7_floats 8 = .ok (.iconst 4, 1) := by decide +kernel
theorem dX7_floats_9 : decode cX7_floats 9 = .ok (.invokestatic 71, 3) := by decide +kernel
theorem dX7_floats_12 : decode cX7_floats 12 = .ok (.iload_n 2, 1) := by decide +kernel
theorem dX7_floats_13 : decode cX7_floats 13 = .ok (.ifCond .ne 13, 3) := by decide +kernel
theorem dX7_floats_16 : decode cX7_floats 16 = .ok (.aload_n 3, 1) := by decide +kernel
theorem dX7_floats_17 : decode cX7_floats 17 = .ok (.getfield 175, 3) := by decide +kernel
theorem dX7_floats_20 : decode cX7_floats 20 = .ok (.getfield 98, 3) := by decide +kernel
theorem dX7_floats_23 : decode cX7_floats 23 = .ok (.goto 11, 3) := by decide +kernel
theorem dX7_floats_26 : decode cX7_floats 26 = .ok (.aload_n 3, 1) := by decide +kernel
theorem dX7_floats_27 : decode cX7_floats 27 = .ok (.getfield 231, 3) := by decide +kernel
theorem dX7_floats_30 : decode cX7_floats 30 = .ok (.iload_n 2, 1) := by decide +kernel
theorem dX7_floats_31 : decode cX7_floats 31 = .ok (.invokevirtual 227, 3) := by decide +kernel
theorem dX7_floats_34 : decode cX7_floats 34 = .ok (.ireturn, 1) := by decide +kernel
theorem dX7_forth_0 : decode cX7_forth 0 = .ok (.aload_n 0, 1) := by decide +kernel
theorem dX7_forth_1 : decode cX7_forth 1 = .ok (.getfield 32, 3) := by decide +kernel
theorem dX7_forth_4 : decode cX7_forth 4 = .ok (.getfield 287, 3) := by decide +kernel
theorem dX7_forth_7 : decode cX7_forth 7 = .ok (.ifnonnull 7, 3) := by decide +kernel
theorem dX7_forth_10 : decode cX7_forth 10 = .ok (.aconst_null, 1) := by decide +kernel
theorem dX7_forth_11 : decode cX7_forth 11 = .ok (.goto 14, 3) := by decide +kernel
theorem dX7_forth_14 : decode cX7_forth 14 = .ok (.aload_n 0, 1) := by decide +kernel
theorem dX7_forth_15 : decode cX7_forth 15 = .ok (.aload_n 0, 1) := by decide +kernel
theorem dX7_forth_16 : decode cX7_forth 16 = .ok (.getfield 32, 3) := by decide +kernel
theorem dX7_forth_19 : decode cX7_forth 19 = .ok (.getfield 287, 3) := by decide +kernel
theorem dX7_forth_22 : decode cX7_forth 22 = .ok (.invokevirtual 123, 3) := by decide +kernel
theorem dX7_forth_25 : decode cX7_forth 25 = .ok (.astore_n 1, 1) := by decide +kernel
theorem dX7_forth_26 : decode cX7_forth 26 = .ok (.aload_n 1, 1) := by decide +kernel
theorem dX7_forth_27 : decode cX7_forth 27 = .ok (.ifnull 11, 3) := by decide +kernel
theorem dX7_forth_30 : decode cX7_forth 30 = .ok (.aload_n 0, 1) := by decide +kernel
theorem dX7_forth_31 : decode cX7_forth 31 = .ok (.getfield 32, 3) := by decide +kernel
theorem dX7_forth_34 : decode cX7_forth 34 = .ok (.aload_n 1, 1) := by decide +kernel
theorem dX7_forth_35 : decode cX7_forth 35 = .ok (.invokevirtual 293, 3) := by decide +kernel
theorem dX7_forth_38 : decode cX7_forth 38 = .ok (.aload_n 1, 1) := by decide +kernel
theorem dX7_forth_39 : decode cX7_forth 39 = .ok (.invokestatic 290, 3) := by decide +kernel
theorem dX7_forth_42 : decode cX7_forth 42 = .ok (.ireturn, 1) := by decide +kernel
theorem dX7_here_0 : decode cX7_here 0 = .ok (.aload_n 0, 1) := by decide +kernel
theorem dX7_here_1 : decode cX7_here 1 = .ok (.getfield 32, 3) := by decide +kernel
theorem dX7_here_4 : decode cX7_here 4 = .ok (.getfield 287, 3) := by decide +kernel
theorem dX7_here_7 : decode cX7_here 7 = .ok (.invokestatic 290, 3) := by decide +kernel
theorem dX7_here_10 : decode cX7_here 10 = .ok (.ireturn, 1) := by decide +kernel
theorem dX7_init_0 : decode cX7_init 0 = .ok (.aload_n 0, 1) := by decide +kernel
theorem dX7_init_1 : decode cX7_init 1 = .ok (.invokespecial 1, 3) := by decide +kernel
theorem dX7_init_4 : decode cX7_init 4 = .ok (.aload_n 0, 1) := by decide +kernel
theorem dX7_init_5 : decode cX7_init 5 = .ok (.new 7, 3) := by decide +kernel
theorem dX7_init_8 : decode cX7_init 8 = .ok (.dup, 1) := by decide +kernel
theorem dX7_init_9 : decode cX7_init 9 = .ok (.invokespecial 9, 3) := by decide +kernel
theorem dX7_init_12 : decode cX7_init 12 = .ok (.putfield 10, 3) := by decide +kernel
theorem dX7_init_15 : decode cX7_init 15 = .ok (.aload_n 0, 1) := by decide +kernel
theorem dX7_init_16 : decode cX7_init 16 = .ok (.new 7, 3) := by decide +kernel
theorem dX7_init_19 : decode cX7_init 19 = .ok (.dup, 1) := by decide +kernel
theorem dX7_init_20 : decode cX7_init 20 = .ok (.invokespecial 9, 3) := by decide +kernel
theorem dX7_init_23 : decode cX7_init 23 = .ok (.putfield 16, 3) := by decide +kernel
theorem dX7_init_26 : decode cX7_init 26 = .ok (.aload_n 0, 1) := by decide +kernel
theorem dX7_init_27 : decode cX7_init 27 = .ok (.new 7, 3) := by decide +kernel
theorem dX7_init_30 : decode cX7_init 30 = .ok (.dup, 1) := by decide +kernel
theorem dX7_init_31 : decode cX7_init 31 = .ok (.invokespecial 9, 3) := by decide +kernel
theorem dX7_init_34 : decode cX7_init 34 = .ok (.putfield 19, 3) := by decide +kernel
theorem dX7_init_37 : decode cX7_init 37 = .ok (.aload_n 0, 1) := by decide +kernel
theorem dX7_init_38 : decode cX7_init 38 = .ok (.new 22, 3) := by decide +kernel
theorem dX7_init_41 : decode cX7_init 41 = .ok (.dup, 1) := by decide +kernel
theorem dX7_init_42 : decode cX7_init 42 = .ok (.invokespecial 24, 3) := by decide +kernel
theorem dX7_init_45 : decode cX7_init 45 = .ok (.putfield 25, 3) := by decide +kernel
theorem dX7_init_48 : decode cX7_init 48 = .ok (.aload_n 0, 1) := by decide +kernel
theorem dX7_init_49 : decode cX7_init 49 = .ok (.new 29, 3) := by decide +kernel
theorem dX7_init_52 : decode cX7_init 52 = .ok (.dup, 1) := by decide +kernel
theorem dX7_init_53 : decode cX7_init 53 = .ok (.invokespecial 31, 3) := by decide +kernel
theorem dX7_init_56 : decode cX7_init 56 = .ok (.putfield 32, 3) := by decide +kernel
theorem dX7_init_59 : decode cX7_init 59 = .ok (.return_, 1) := by decide +kernel
theorem dX7_isAnswered_0 : decode cX7_isAnswered 0 = .ok (.iconst 0, 1) := by decide +kernel
theorem dX7_isAnswered_1 : decode cX7_isAnswered 1 = .ok (.istore_n 2, 1) := by decide +kernel
theorem dX7_isAnswered_2 : decode cX7_isAnswered 2 = .ok (.iload_n 2, 1) := by decide +kernel
theorem dX7_isAnswered_3 : decode cX7_isAnswered 3 = .ok (.aload_n 0, 1) := by decide +kernel
theorem dX7_isAnswered_4 : decode cX7_isAnswered 4 = .ok (.getfield 19, 3) := by decide +kernel
theorem dX7_isAnswered_7 : decode cX7_isAnswered 7 = .ok (.invokevirtual 36, 3) := by decide +kernel
theorem dX7_isAnswered_10 : decode cX7_isAnswered 10 = .ok (.if_icmp .ge 38, 3) := by decide +kernel
theorem dX7_isAnswered_13 : decode cX7_isAnswered 13 = .ok (.aload_n 0, 1) := by decide +kernel
theorem dX7_isAnswered_14 : decode cX7_isAnswered 14 = .ok (.getfield 19, 3) := by decide +kernel
theorem dX7_isAnswered_17 : decode cX7_isAnswered 17 = .ok (.iload_n 2, 1) := by decide +kernel
theorem dX7_isAnswered_18 : decode cX7_isAnswered 18 = .ok (.invokevirtual 215, 3) := by decide +kernel
theorem dX7_isAnswered_21 : decode cX7_isAnswered 21 = .ok (.checkcast 161, 3) := by decide +kernel
theorem dX7_isAnswered_24 : decode cX7_isAnswered 24 = .ok (.astore_n 3, 1) := by decide +kernel
theorem dX7_isAnswered_25 : decode cX7_isAnswered 25 = .ok (.aload_n 3, 1) := by decide +kernel
theorem dX7_isAnswered_26 : decode cX7_isAnswered 26 = .ok (.getfield 195, 3) := by decide +kernel
theorem dX7_isAnswered_29 : decode cX7_isAnswered 29 = .ok (.ifCond .ne 13, 3) := by decide +kernel
theorem dX7_isAnswered_32 : decode cX7_isAnswered 32 = .ok (.aload_n 3, 1) := by decide +kernel
theorem dX7_isAnswered_33 : decode cX7_isAnswered 33 = .ok (.getfield 204, 3) := by decide +kernel
theorem dX7_isAnswered_36 : decode cX7_isAnswered 36 = .ok (.aload_n 1, 1) := by decide +kernel
theorem dX7_isAnswered_37 : decode cX7_isAnswered 37 = .ok (.if_acmp .ne 5, 3) := by decide +kernel
theorem dX7_isAnswered_40 : decode cX7_isAnswered 40 = .ok (.iconst 1, 1) := by decide +kernel
theorem dX7_isAnswered_41 : decode cX7_isAnswered 41 = .ok (.ireturn, 1) := by decide +kernel
theorem dX7_isAnswered_42 : decode cX7_isAnswered 42 = .ok (.iinc 2 1, 3) := by decide +kernel
theorem dX7_isAnswered_45 : decode cX7_isAnswered 45 = .ok (.goto (-43), 3) := by decide +kernel
theorem dX7_isAnswered_48 : decode cX7_isAnswered 48 = .ok (.iconst 0, 1) := by decide +kernel
theorem dX7_isAnswered_49 : decode cX7_isAnswered 49 = .ok (.ireturn, 1) := by decide +kernel
theorem dX7_isAnsweredFromElsewhere_0 : decode cX7_isAnsweredFromElsewhere 0 = .ok (.iconst 0, 1) := by decide +kernel
theorem dX7_isAnsweredFromElsewhere_1 : decode cX7_isAnsweredFromElsewhere 1 = .ok (.istore_n 2, 1) := by decide +kernel
theorem dX7_isAnsweredFromElsewhere_2 : decode cX7_isAnsweredFromElsewhere 2 = .ok (.iload_n 2, 1) := by decide +kernel
theorem dX7_isAnsweredFromElsewhere_3 : decode cX7_isAnsweredFromElsewhere 3 = .ok (.aload_n 0, 1) := by decide +kernel
theorem dX7_isAnsweredFromElsewhere_4 : decode cX7_isAnsweredFromElsewhere 4 = .ok (.getfield 19, 3) := by decide +kernel
theorem dX7_isAnsweredFromElsewhere_7 : decode cX7_isAnsweredFromElsewhere 7 = .ok (.invokevirtual 36, 3) := by decide +kernel
theorem dX7_isAnsweredFromElsewhere_10 : decode cX7_isAnsweredFromElsewhere 10 = .ok (.if_icmp .ge 56, 3) := by decide +kernel
theorem dX7_isAnsweredFromElsewhere_13 : decode cX7_isAnsweredFromElsewhere 13 = .ok (.aload_n 0, 1) := by decide +kernel
theorem dX7_isAnsweredFromElsewhere_14 : decode cX7_isAnsweredFromElsewhere 14 = .ok (.getfield 19, 3) := by decide +kernel
theorem dX7_isAnsweredFromElsewhere_17 : decode cX7_isAnsweredFromElsewhere 17 = .ok (.iload_n 2, 1) := by decide +kernel
theorem dX7_isAnsweredFromElsewhere_18 : decode cX7_isAnsweredFromElsewhere 18 = .ok (.invokevirtual 215, 3) := by decide +kernel
theorem dX7_isAnsweredFromElsewhere_21 : decode cX7_isAnsweredFromElsewhere 21 = .ok (.checkcast 161, 3) := by decide +kernel
theorem dX7_isAnsweredFromElsewhere_24 : decode cX7_isAnsweredFromElsewhere 24 = .ok (.astore_n 3, 1) := by decide +kernel
theorem dX7_isAnsweredFromElsewhere_25 : decode cX7_isAnsweredFromElsewhere 25 = .ok (.aload_n 3, 1) := by decide +kernel
theorem dX7_isAnsweredFromElsewhere_26 : decode cX7_isAnsweredFromElsewhere 26 = .ok (.getfield 195, 3) := by decide +kernel
theorem dX7_isAnsweredFromElsewhere_29 : decode cX7_isAnsweredFromElsewhere 29 = .ok (.ifCond .ne 31, 3) := by decide +kernel
theorem dX7_isAnsweredFromElsewhere_32 : decode cX7_isAnsweredFromElsewhere 32 = .ok (.aload_n 3, 1) := by decide +kernel
theorem dX7_isAnsweredFromElsewhere_33 : decode cX7_isAnsweredFromElsewhere 33 = .ok (.getfield 175, 3) := by decide +kernel
theorem dX7_isAnsweredFromElsewhere_36 : decode cX7_isAnsweredFromElsewhere 36 = .ok (.aload_n 1, 1) := by decide +kernel
theorem dX7_isAnsweredFromElsewhere_37 : decode cX7_isAnsweredFromElsewhere 37 = .ok (.if_acmp .eq 23, 3) := by decide +kernel
theorem dX7_isAnsweredFromElsewhere_40 : decode cX7_isAnsweredFromElsewhere 40 = .ok (.aload_n 3, 1) := by decide +kernel
theorem dX7_isAnsweredFromElsewhere_41 : decode cX7_isAnsweredFromElsewhere 41 = .ok (.getfield 204, 3) := by decide +kernel
theorem dX7_isAnsweredFromElsewhere_44 : decode cX7_isAnsweredFromElsewhere 44 = .ok (.ifnull 16, 3) := by decide +kernel
theorem dX7_isAnsweredFromElsewhere_47 : decode cX7_isAnsweredFromElsewhere 47 = .ok (.aload_n 3, 1) := by decide +kernel
theorem dX7_isAnsweredFromElsewhere_48 : decode cX7_isAnsweredFromElsewhere 48 = .ok (.getfield 204, 3) := by decide +kernel
theorem dX7_isAnsweredFromElsewhere_51 : decode cX7_isAnsweredFromElsewhere 51 = .ok (.getfield 175, 3) := by decide +kernel
theorem dX7_isAnsweredFromElsewhere_54 : decode cX7_isAnsweredFromElsewhere 54 = .ok (.aload_n 1, 1) := by decide +kernel
theorem dX7_isAnsweredFromElsewhere_55 : decode cX7_isAnsweredFromElsewhere 55 = .ok (.if_acmp .ne 5, 3) := by decide +kernel
theorem dX7_isAnsweredFromElsewhere_58 : decode cX7_isAnsweredFromElsewhere 58 = .ok (.iconst 1, 1) := by decide +kernel
theorem dX7_isAnsweredFromElsewhere_59 : decode cX7_isAnsweredFromElsewhere 59 = .ok (.ireturn, 1) := by decide +kernel
theorem dX7_isAnsweredFromElsewhere_60 : decode cX7_isAnsweredFromElsewhere 60 = .ok (.iinc 2 1, 3) := by decide +kernel
theorem dX7_isAnsweredFromElsewhere_63 : decode cX7_isAnsweredFromElsewhere 63 = .ok (.goto (-61), 3) := by decide +kernel
theorem dX7_isAnsweredFromElsewhere_66 : decode cX7_isAnsweredFromElsewhere 66 = .ok (.iconst 0, 1) := by decide +kernel
theorem dX7_isAnsweredFromElsewhere_67 : decode cX7_isAnsweredFromElsewhere 67 = .ok (.ireturn, 1) := by decide +kernel
theorem dX7_isSpread_0 : decode cX7_isSpread 0 = .ok (.iload_n 1, 1) := by decide +kernel
theorem dX7_isSpread_1 : decode cX7_isSpread 1 = .ok (.ifCond .lt 35, 3) := by decide +kernel
theorem dX7_isSpread_4 : decode cX7_isSpread 4 = .ok (.iload_n 1, 1) := by decide +kernel
theorem dX7_isSpread_5 : decode cX7_isSpread 5 = .ok (.aload_n 0, 1) := by decide +kernel
theorem dX7_isSpread_6 : decode cX7_isSpread 6 = .ok (.getfield 10, 3) := by decide +kernel
theorem dX7_isSpread_9 : decode cX7_isSpread 9 = .ok (.invokevirtual 36, 3) := by decide +kernel
theorem dX7_isSpread_12 : decode cX7_isSpread 12 = .ok (.if_icmp .ge 24, 3) := by decide +kernel
theorem dX7_isSpread_15 : decode cX7_isSpread 15 = .ok (.aload_n 0, 1) := by decide +kernel
theorem dX7_isSpread_16 : decode cX7_isSpread 16 = .ok (.getfield 10, 3) := by decide +kernel
theorem dX7_isSpread_19 : decode cX7_isSpread 19 = .ok (.iload_n 1, 1) := by decide +kernel
theorem dX7_isSpread_20 : decode cX7_isSpread 20 = .ok (.invokevirtual 215, 3) := by decide +kernel
theorem dX7_isSpread_23 : decode cX7_isSpread 23 = .ok (.checkcast 47, 3) := by decide +kernel
theorem dX7_isSpread_26 : decode cX7_isSpread 26 = .ok (.getfield 262, 3) := by decide +kernel
theorem dX7_isSpread_29 : decode cX7_isSpread 29 = .ok (.ifCond .eq 7, 3) := by decide +kernel
theorem dX7_isSpread_32 : decode cX7_isSpread 32 = .ok (.iconst 1, 1) := by decide +kernel
theorem dX7_isSpread_33 : decode cX7_isSpread 33 = .ok (.goto 4, 3) := by decide +kernel
theorem dX7_isSpread_36 : decode cX7_isSpread 36 = .ok (.iconst 0, 1) := by decide +kernel
theorem dX7_isSpread_37 : decode cX7_isSpread 37 = .ok (.ireturn, 1) := by decide +kernel
theorem dX7_jump_0 : decode cX7_jump 0 = .ok (.aload_n 0, 1) := by decide +kernel
theorem dX7_jump_1 : decode cX7_jump 1 = .ok (.getfield 32, 3) := by decide +kernel
theorem dX7_jump_4 : decode cX7_jump 4 = .ok (.aload_n 0, 1) := by decide +kernel
theorem dX7_jump_5 : decode cX7_jump 5 = .ok (.iload_n 1, 1) := by decide +kernel
theorem dX7_jump_6 : decode cX7_jump 6 = .ok (.invokevirtual 99, 3) := by decide +kernel
theorem dX7_jump_9 : decode cX7_jump 9 = .ok (.invokevirtual 293, 3) := by decide +kernel
theorem dX7_jump_12 : decode cX7_jump 12 = .ok (.aload_n 0, 1) := by decide +kernel
theorem dX7_jump_13 : decode cX7_jump 13 = .ok (.getfield 32, 3) := by decide +kernel
theorem dX7_jump_16 : decode cX7_jump 16 = .ok (.getfield 295, 3) := by decide +kernel
theorem dX7_jump_19 : decode cX7_jump 19 = .ok (.ireturn, 1) := by decide +kernel
theorem dX7_leaf_0 : decode cX7_leaf 0 = .ok (.aload_n 0, 1) := by decide +kernel
theorem dX7_leaf_1 : decode cX7_leaf 1 = .ok (.iload_n 1, 1) := by decide +kernel
theorem dX7_leaf_2 : decode cX7_leaf 2 = .ok (.invokevirtual 60, 3) := by decide +kernel
theorem dX7_leaf_5 : decode cX7_leaf 5 = .ok (.pop, 1) := by decide +kernel
theorem dX7_leaf_6 : decode cX7_leaf 6 = .ok (.iload_n 2, 1) := by decide +kernel
theorem dX7_leaf_7 : decode cX7_leaf 7 = .ok (.invokestatic 265, 3) := by decide +kernel
theorem dX7_leaf_10 : decode cX7_leaf 10 = .ok (.aload_n 0, 1) := by decide +kernel
theorem dX7_leaf_11 : decode cX7_leaf 11 = .ok (.iload_n 1, 1) := by decide +kernel
theorem dX7_leaf_12 : decode cX7_leaf 12 = .ok (.iload_n 2, 1) := by decide +kernel
theorem dX7_leaf_13 : decode cX7_leaf 13 = .ok (.invokevirtual 268, 3) := by decide +kernel
theorem dX7_leaf_16 : decode cX7_leaf 16 = .ok (.ireturn, 1) := by decide +kernel
theorem dX7_leafOf_0 : decode cX7_leafOf 0 = .ok (.iconst 0, 1) := by decide +kernel
theorem dX7_leafOf_1 : decode cX7_leafOf 1 = .ok (.istore_n 3, 1) := by decide +kernel
theorem dX7_leafOf_2 : decode cX7_leafOf 2 = .ok (.iconst 0, 1) := by decide +kernel
theorem dX7_leafOf_3 : decode cX7_leafOf 3 = .ok (.istore 4, 2) := by decide +kernel
theorem dX7_leafOf_5 : decode cX7_leafOf 5 = .ok (.iload 4, 2) := by decide +kernel
theorem dX7_leafOf_7 : decode cX7_leafOf 7 = .ok (.iload_n 1, 1) := by decide +kernel
theorem dX7_leafOf_8 : decode cX7_leafOf 8 = .ok (.if_icmp .ge 20, 3) := by decide +kernel
theorem dX7_leafOf_11 : decode cX7_leafOf 11 = .ok (.aload_n 0, 1) := by decide +kernel
theorem dX7_leafOf_12 : decode cX7_leafOf 12 = .ok (.iload 4, 2) := by decide +kernel
theorem dX7_leafOf_14 : decode cX7_leafOf 14 = .ok (.iload_n 3, 1) := by decide +kernel
theorem dX7_leafOf_15 : decode cX7_leafOf 15 = .ok (.iload_n 2, 1) := by decide +kernel
theorem dX7_leafOf_16 : decode cX7_leafOf 16 = .ok (.invokevirtual 315, 3) := by decide +kernel
theorem dX7_leafOf_19 : decode cX7_leafOf 19 = .ok (.iconst 1, 1) := by decide +kernel
theorem dX7_leafOf_20 : decode cX7_leafOf 20 = .ok (.iadd, 1) := by decide +kernel
theorem dX7_leafOf_21 : decode cX7_leafOf 21 = .ok (.istore_n 3, 1) := by decide +kernel
theorem dX7_leafOf_22 : decode cX7_leafOf 22 = .ok (.iinc 4 1, 3) := by decide +kernel
theorem dX7_leafOf_25 : decode cX7_leafOf 25 = .ok (.goto (-20), 3) := by decide +kernel
theorem dX7_leafOf_28 : decode cX7_leafOf 28 = .ok (.aload_n 0, 1) := by decide +kernel
theorem dX7_leafOf_29 : decode cX7_leafOf 29 = .ok (.iload_n 1, 1) := by decide +kernel
theorem dX7_leafOf_30 : decode cX7_leafOf 30 = .ok (.iload_n 3, 1) := by decide +kernel
theorem dX7_leafOf_31 : decode cX7_leafOf 31 = .ok (.iload_n 2, 1) := by decide +kernel
theorem dX7_leafOf_32 : decode cX7_leafOf 32 = .ok (.invokevirtual 315, 3) := by decide +kernel
theorem dX7_leafOf_35 : decode cX7_leafOf 35 = .ok (.ireturn, 1) := by decide +kernel
theorem dX7_leafOfSpread_0 : decode cX7_leafOfSpread 0 = .ok (.aload_n 0, 1) := by decide +kernel
theorem dX7_leafOfSpread_1 : decode cX7_leafOfSpread 1 = .ok (.iload_n 1, 1) := by decide +kernel
theorem dX7_leafOfSpread_2 : decode cX7_leafOfSpread 2 = .ok (.invokevirtual 256, 3) := by decide +kernel
theorem dX7_leafOfSpread_5 : decode cX7_leafOfSpread 5 = .ok (.ifCond .ne 5, 3) := by decide +kernel
theorem dX7_leafOfSpread_8 : decode cX7_leafOfSpread 8 = .ok (.iload_n 2, 1) := by decide +kernel
theorem dX7_leafOfSpread_9 : decode cX7_leafOfSpread 9 = .ok (.ireturn, 1) := by decide +kernel
theorem dX7_leafOfSpread_10 : decode cX7_leafOfSpread 10 = .ok (.iload_n 3, 1) := by decide +kernel
theorem dX7_leafOfSpread_11 : decode cX7_leafOfSpread 11 = .ok (.iconst 2, 1) := by decide +kernel
theorem dX7_leafOfSpread_12 : decode cX7_leafOfSpread 12 = .ok (.idiv, 1) := by decide +kernel
theorem dX7_leafOfSpread_13 : decode cX7_leafOfSpread 13 = .ok (.iconst 1, 1) := by decide +kernel
theorem dX7_leafOfSpread_14 : decode cX7_leafOfSpread 14 = .ok (.isub, 1) := by decide +kernel
theorem dX7_leafOfSpread_15 : decode cX7_leafOfSpread 15 = .ok (.iload_n 2, 1) := by decide +kernel
theorem dX7_leafOfSpread_16 : decode cX7_leafOfSpread 16 = .ok (.iload_n 3, 1) := by decide +kernel
theorem dX7_leafOfSpread_17 : decode cX7_leafOfSpread 17 = .ok (.invokestatic 275, 3) := by decide +kernel
theorem dX7_leafOfSpread_20 : decode cX7_leafOfSpread 20 = .ok (.isub, 1) := by decide +kernel
theorem dX7_leafOfSpread_21 : decode cX7_leafOfSpread 21 = .ok (.istore 4, 2) := by decide +kernel
theorem dX7_leafOfSpread_23 : decode cX7_leafOfSpread 23 = .ok (.iload 4, 2) := by decide +kernel
theorem dX7_leafOfSpread_25 : decode cX7_leafOfSpread 25 = .ok (.ifCond .ge 12, 3) := by decide +kernel
theorem dX7_leafOfSpread_28 : decode cX7_leafOfSpread 28 = .ok (.iload_n 2, 1) := by decide +kernel
theorem dX7_leafOfSpread_29 : decode cX7_leafOfSpread 29 = .ok (.iload 4, 2) := by decide +kernel
theorem dX7_leafOfSpread_31 : decode cX7_leafOfSpread 31 = .ok (.iadd, 1) := by decide +kernel
theorem dX7_leafOfSpread_32 : decode cX7_leafOfSpread 32 = .ok (.iload_n 3, 1) := by decide +kernel
theorem dX7_leafOfSpread_33 : decode cX7_leafOfSpread 33 = .ok (.iadd, 1) := by decide +kernel
theorem dX7_leafOfSpread_34 : decode cX7_leafOfSpread 34 = .ok (.goto 7, 3) := by decide +kernel
theorem dX7_leafOfSpread_37 : decode cX7_leafOfSpread 37 = .ok (.iload_n 2, 1) := by decide +kernel
theorem dX7_leafOfSpread_38 : decode cX7_leafOfSpread 38 = .ok (.iload 4, 2) := by decide +kernel
theorem dX7_leafOfSpread_40 : decode cX7_leafOfSpread 40 = .ok (.iadd, 1) := by decide +kernel
theorem dX7_leafOfSpread_41 : decode cX7_leafOfSpread 41 = .ok (.ireturn, 1) := by decide +kernel
theorem dX7_leaves_0 : decode cX7_leaves 0 = .ok (.iload_n 1, 1) := by decide +kernel
theorem dX7_leaves_1 : decode cX7_leaves 1 = .ok (.invokestatic 265, 3) := by decide +kernel
theorem dX7_leaves_4 : decode cX7_leaves 4 = .ok (.aload_n 0, 1) := by decide +kernel
theorem dX7_leaves_5 : decode cX7_leaves 5 = .ok (.getfield 10, 3) := by decide +kernel
theorem dX7_leaves_8 : decode cX7_leaves 8 = .ok (.invokevirtual 36, 3) := by decide +kernel
theorem dX7_leaves_11 : decode cX7_leaves 11 = .ok (.iconst 1, 1) := by decide +kernel
theorem dX7_leaves_12 : decode cX7_leaves 12 = .ok (.isub, 1) := by decide +kernel
theorem dX7_leaves_13 : decode cX7_leaves 13 = .ok (.istore_n 2, 1) := by decide +kernel
theorem dX7_leaves_14 : decode cX7_leaves 14 = .ok (.iload_n 2, 1) := by decide +kernel
theorem dX7_leaves_15 : decode cX7_leaves 15 = .ok (.ifCond .ge 7, 3) := by decide +kernel
theorem dX7_leaves_18 : decode cX7_leaves 18 = .ok (.iconst 0, 1) := by decide +kernel
theorem dX7_leaves_19 : decode cX7_leaves 19 = .ok (.goto 17, 3) := by decide +kernel
theorem dX7_leaves_22 : decode cX7_leaves 22 = .ok (.aload_n 0, 1) := by decide +kernel
theorem dX7_leaves_23 : decode cX7_leaves 23 = .ok (.iload_n 2, 1) := by decide +kernel
theorem dX7_leaves_24 : decode cX7_leaves 24 = .ok (.iload_n 1, 1) := by decide +kernel
theorem dX7_leaves_25 : decode cX7_leaves 25 = .ok (.invokevirtual 268, 3) := by decide +kernel
theorem dX7_leaves_28 : decode cX7_leaves 28 = .ok (.iconst 1, 1) := by decide +kernel
theorem dX7_leaves_29 : decode cX7_leaves 29 = .ok (.iadd, 1) := by decide +kernel
theorem dX7_leaves_30 : decode cX7_leaves 30 = .ok (.iload_n 1, 1) := by decide +kernel
theorem dX7_leaves_31 : decode cX7_leaves 31 = .ok (.invokestatic 272, 3) := by decide +kernel
theorem dX7_leaves_34 : decode cX7_leaves 34 = .ok (.iload_n 1, 1) := by decide +kernel
theorem dX7_leaves_35 : decode cX7_leaves 35 = .ok (.imul, 1) := by decide +kernel
theorem dX7_leaves_36 : decode cX7_leaves 36 = .ok (.ireturn, 1) := by decide +kernel
theorem dX7_lies_0 : decode cX7_lies 0 = .ok (.aload_n 0, 1) := by decide +kernel
theorem dX7_lies_1 : decode cX7_lies 1 = .ok (.iload_n 1, 1) := by decide +kernel
theorem dX7_lies_2 : decode cX7_lies 2 = .ok (.invokevirtual 99, 3) := by decide +kernel
theorem dX7_lies_5 : decode cX7_lies 5 = .ok (.astore_n 3, 1) := by decide +kernel
theorem dX7_lies_6 : decode cX7_lies 6 = .ok (.iload_n 2, 1) := by decide +kernel
theorem dX7_lies_7 : decode cX7_lies 7 = .ok (.iconst 0, 1) := by decide +kernel
theorem dX7_lies_8 : decode cX7_lies 8 = .ok (.iconst 4, 1) := by decide +kernel
theorem dX7_lies_9 : decode cX7_lies 9 = .ok (.invokestatic 71, 3) := by decide +kernel
theorem dX7_lies_12 : decode cX7_lies 12 = .ok (.iload_n 2, 1) := by decide +kernel
theorem dX7_lies_13 : decode cX7_lies 13 = .ok (.ifCond .ne 10, 3) := by decide +kernel
theorem dX7_lies_16 : decode cX7_lies 16 = .ok (.aload_n 3, 1) := by decide +kernel
theorem dX7_lies_17 : decode cX7_lies 17 = .ok (.getfield 224, 3) := by decide +kernel
theorem dX7_lies_20 : decode cX7_lies 20 = .ok (.goto 11, 3) := by decide +kernel
theorem dX7_lies_23 : decode cX7_lies 23 = .ok (.aload_n 3, 1) := by decide +kernel
theorem dX7_lies_24 : decode cX7_lies 24 = .ok (.getfield 150, 3) := by decide +kernel
theorem dX7_lies_27 : decode cX7_lies 27 = .ok (.iload_n 2, 1) := by decide +kernel
theorem dX7_lies_28 : decode cX7_lies 28 = .ok (.invokevirtual 227, 3) := by decide +kernel
theorem dX7_lies_31 : decode cX7_lies 31 = .ok (.ireturn, 1) := by decide +kernel
theorem dX7_moveBalloon_0 : decode cX7_moveBalloon 0 = .ok (.aload_n 0, 1) := by decide +kernel
theorem dX7_moveBalloon_1 : decode cX7_moveBalloon 1 = .ok (.iload_n 1, 1) := by decide +kernel
theorem dX7_moveBalloon_2 : decode cX7_moveBalloon 2 = .ok (.invokevirtual 171, 3) := by decide +kernel
theorem dX7_moveBalloon_5 : decode cX7_moveBalloon 5 = .ok (.astore 4, 2) := by decide +kernel
theorem dX7_moveBalloon_7 : decode cX7_moveBalloon 7 = .ok (.aload_n 0, 1) := by decide +kernel
theorem dX7_moveBalloon_8 : decode cX7_moveBalloon 8 = .ok (.iload_n 2, 1) := by decide +kernel
theorem dX7_moveBalloon_9 : decode cX7_moveBalloon 9 = .ok (.invokevirtual 99, 3) := by decide +kernel
theorem dX7_moveBalloon_12 : decode cX7_moveBalloon 12 = .ok (.astore 5, 2) := by decide +kernel
theorem dX7_moveBalloon_14 : decode cX7_moveBalloon 14 = .ok (.aload 4, 2) := by decide +kernel
theorem dX7_moveBalloon_16 : decode cX7_moveBalloon 16 = .ok (.getfield 175, 3) := by decide +kernel
theorem dX7_moveBalloon_19 : decode cX7_moveBalloon 19 = .ok (.astore 6, 2) := by decide +kernel
theorem dX7_moveBalloon_21 : decode cX7_moveBalloon 21 = .ok (.iload_n 3, 1) := by decide +kernel
theorem dX7_moveBalloon_22 : decode cX7_moveBalloon 22 = .ok (.aload 5, 2) := by decide +kernel
theorem dX7_moveBalloon_24 : decode cX7_moveBalloon 24 = .ok (.aload 6, 2) := by decide +kernel
theorem dX7_moveBalloon_26 : decode cX7_moveBalloon 26 = .ok (.if_acmp .ne 16, 3) := by decide +kernel
theorem dX7_moveBalloon_29 : decode cX7_moveBalloon 29 = .ok (.aload 5, 2) := by decide +kernel
theorem dX7_moveBalloon_31 : decode cX7_moveBalloon 31 = .ok (.getfield 137, 3) := by decide +kernel
theorem dX7_moveBalloon_34 : decode cX7_moveBalloon 34 = .ok (.invokevirtual 36, 3) := by decide +kernel
theorem dX7_moveBalloon_37 : decode cX7_moveBalloon 37 = .ok (.iconst 1, 1) := by decide +kernel
theorem dX7_moveBalloon_38 : decode cX7_moveBalloon 38 = .ok (.isub, 1) := by decide +kernel
theorem dX7_moveBalloon_39 : decode cX7_moveBalloon 39 = .ok (.goto 11, 3) := by decide +kernel
theorem dX7_moveBalloon_42 : decode cX7_moveBalloon 42 = .ok (.aload 5, 2) := by decide +kernel
theorem dX7_moveBalloon_44 : decode cX7_moveBalloon 44 = .ok (.getfield 137, 3) := by decide +kernel
theorem dX7_moveBalloon_47 : decode cX7_moveBalloon 47 = .ok (.invokevirtual 36, 3) := by decide +kernel
theorem dX7_moveBalloon_50 : decode cX7_moveBalloon 50 = .ok (.invokestatic 67, 3) := by decide +kernel
theorem dX7_moveBalloon_53 : decode cX7_moveBalloon 53 = .ok (.aload 5, 2) := by decide +kernel
theorem dX7_moveBalloon_55 : decode cX7_moveBalloon 55 = .ok (.aload 6, 2) := by decide +kernel
theorem dX7_moveBalloon_57 : decode cX7_moveBalloon 57 = .ok (.if_acmp .eq 25, 3) := by decide +kernel
theorem dX7_moveBalloon_60 : decode cX7_moveBalloon 60 = .ok (.aload 5, 2) := by decide +kernel
theorem dX7_moveBalloon_62 : decode cX7_moveBalloon 62 = .ok (.getfield 137, 3) := by decide +kernel
theorem dX7_moveBalloon_65 : decode cX7_moveBalloon 65 = .ok (.invokevirtual 36, 3) := by decide +kernel
theorem dX7_moveBalloon_68 : decode cX7_moveBalloon 68 = .ok (.iconst 4, 1) := by decide +kernel
theorem dX7_moveBalloon_69 : decode cX7_moveBalloon 69 = .ok (.if_icmp .lt 13, 3) := by decide +kernel
theorem dX7_moveBalloon_72 : decode cX7_moveBalloon 72 = .ok (.new 40, 3) := by decide +kernel
theorem dX7_moveBalloon_75 : decode cX7_moveBalloon 75 = .ok (.dup, 1) := by decide +kernel
theorem dX7_moveBalloon_76 : decode cX7_moveBalloon 76 = .ok (.ldc 178, 2) := by decide +kernel
theorem dX7_moveBalloon_78 : decode cX7_moveBalloon 78 = .ok (.invokespecial 44, 3) := by decide +kernel
theorem dX7_moveBalloon_81 : decode cX7_moveBalloon 81 = .ok (.athrow, 1) := by decide +kernel
theorem dX7_moveBalloon_82 : decode cX7_moveBalloon 82 = .ok (.aload 6, 2) := by decide +kernel
theorem dX7_moveBalloon_84 : decode cX7_moveBalloon 84 = .ok (.aload 4, 2) := by decide +kernel
theorem dX7_moveBalloon_86 : decode cX7_moveBalloon 86 = .ok (.invokevirtual 180, 3) := by decide +kernel
theorem dX7_moveBalloon_89 : decode cX7_moveBalloon 89 = .ok (.istore 7, 2) := by decide +kernel
theorem dX7_moveBalloon_91 : decode cX7_moveBalloon 91 = .ok (.aload 4, 2) := by decide +kernel
theorem dX7_moveBalloon_93 : decode cX7_moveBalloon 93 = .ok (.aload 5, 2) := by decide +kernel
theorem dX7_moveBalloon_95 : decode cX7_moveBalloon 95 = .ok (.iload_n 3, 1) := by decide +kernel
theorem dX7_moveBalloon_96 : decode cX7_moveBalloon 96 = .ok (.invokevirtual 183, 3) := by decide +kernel
theorem dX7_moveBalloon_99 : decode cX7_moveBalloon 99 = .ok (.aload_n 0, 1) := by decide +kernel
theorem dX7_moveBalloon_100 : decode cX7_moveBalloon 100 = .ok (.getfield 25, 3) := by decide +kernel
theorem dX7_moveBalloon_103 : decode cX7_moveBalloon 103 = .ok (.aload 6, 2) := by decide +kernel
theorem dX7_moveBalloon_105 : decode cX7_moveBalloon 105 = .ok (.getfield 103, 3) := by decide +kernel
theorem dX7_moveBalloon_108 : decode cX7_moveBalloon 108 = .ok (.invokevirtual 86, 3) := by decide +kernel
theorem dX7_moveBalloon_111 : decode cX7_moveBalloon 111 = .ok (.ifCond .eq 25, 3) := by decide +kernel
theorem dX7_moveBalloon_114 : decode cX7_moveBalloon 114 = .ok (.aload_n 0, 1) := by decide +kernel
theorem dX7_moveBalloon_115 : decode cX7_moveBalloon 115 = .ok (.getfield 25, 3) := by decide +kernel
theorem dX7_moveBalloon_118 : decode cX7_moveBalloon 118 = .ok (.aload 5, 2) := by decide +kernel
theorem dX7_moveBalloon_120 : decode cX7_moveBalloon 120 = .ok (.getfield 103, 3) := by decide +kernel
theorem dX7_moveBalloon_123 : decode cX7_moveBalloon 123 = .ok (.invokevirtual 86, 3) := by decide +kernel
theorem dX7_moveBalloon_126 : decode cX7_moveBalloon 126 = .ok (.ifCond .eq 10, 3) := by decide +kernel
theorem dX7_moveBalloon_129 : decode cX7_moveBalloon 129 = .ok (.aload_n 0, 1) := by decide +kernel
theorem dX7_moveBalloon_130 : decode cX7_moveBalloon 130 = .ok (.invokevirtual 111, 3) := by decide +kernel
theorem dX7_moveBalloon_133 : decode cX7_moveBalloon 133 = .ok (.ifCond .ne 22, 3) := by decide +kernel
theorem dX7_moveBalloon_136 : decode cX7_moveBalloon 136 = .ok (.aload 4, 2) := by decide +kernel
theorem dX7_moveBalloon_138 : decode cX7_moveBalloon 138 = .ok (.aload 6, 2) := by decide +kernel
theorem dX7_moveBalloon_140 : decode cX7_moveBalloon 140 = .ok (.iload 7, 2) := by decide +kernel
theorem dX7_moveBalloon_142 : decode cX7_moveBalloon 142 = .ok (.invokevirtual 183, 3) := by decide +kernel
theorem dX7_moveBalloon_145 : decode cX7_moveBalloon 145 = .ok (.new 40, 3) := by decide +kernel
theorem dX7_moveBalloon_148 : decode cX7_moveBalloon 148 = .ok (.dup, 1) := by decide +kernel
theorem dX7_moveBalloon_149 : decode cX7_moveBalloon 149 = .ok (.ldc 187, 2) := by decide +kernel
theorem dX7_moveBalloon_151 : decode cX7_moveBalloon 151 = .ok (.invokespecial 44, 3) := by decide +kernel
theorem dX7_moveBalloon_154 : decode cX7_moveBalloon 154 = .ok (.athrow, 1) := by decide +kernel
theorem dX7_moveBalloon_155 : decode cX7_moveBalloon 155 = .ok (.aload 6, 2) := by decide +kernel
theorem dX7_moveBalloon_157 : decode cX7_moveBalloon 157 = .ok (.getfield 103, 3) := by decide +kernel
theorem dX7_moveBalloon_160 : decode cX7_moveBalloon 160 = .ok (.invokevirtual 95, 3) := by decide +kernel
theorem dX7_moveBalloon_163 : decode cX7_moveBalloon 163 = .ok (.pop, 1) := by decide +kernel
theorem dX7_moveBalloon_164 : decode cX7_moveBalloon 164 = .ok (.aload 5, 2) := by decide +kernel
theorem dX7_moveBalloon_166 : decode cX7_moveBalloon 166 = .ok (.getfield 103, 3) := by decide +kernel
theorem dX7_moveBalloon_169 : decode cX7_moveBalloon 169 = .ok (.invokevirtual 95, 3) := by decide +kernel
theorem dX7_moveBalloon_172 : decode cX7_moveBalloon 172 = .ok (.pop, 1) := by decide +kernel
theorem dX7_moveBalloon_173 : decode cX7_moveBalloon 173 = .ok (.return_, 1) := by decide +kernel
theorem dX7_movePanel_0 : decode cX7_movePanel 0 = .ok (.aload_n 0, 1) := by decide +kernel
theorem dX7_movePanel_1 : decode cX7_movePanel 1 = .ok (.iload_n 1, 1) := by decide +kernel
theorem dX7_movePanel_2 : decode cX7_movePanel 2 = .ok (.invokevirtual 99, 3) := by decide +kernel
theorem dX7_movePanel_5 : decode cX7_movePanel 5 = .ok (.astore_n 3, 1) := by decide +kernel
theorem dX7_movePanel_6 : decode cX7_movePanel 6 = .ok (.aload_n 3, 1) := by decide +kernel
theorem dX7_movePanel_7 : decode cX7_movePanel 7 = .ok (.getfield 103, 3) := by decide +kernel
theorem dX7_movePanel_10 : decode cX7_movePanel 10 = .ok (.astore 4, 2) := by decide +kernel
theorem dX7_movePanel_12 : decode cX7_movePanel 12 = .ok (.iload_n 2, 1) := by decide +kernel
theorem dX7_movePanel_13 : decode cX7_movePanel 13 = .ok (.aload 4, 2) := by decide +kernel
theorem dX7_movePanel_15 : decode cX7_movePanel 15 = .ok (.getfield 64, 3) := by decide +kernel
theorem dX7_movePanel_18 : decode cX7_movePanel 18 = .ok (.invokevirtual 36, 3) := by decide +kernel
theorem dX7_movePanel_21 : decode cX7_movePanel 21 = .ok (.iconst 1, 1) := by decide +kernel
theorem dX7_movePanel_22 : decode cX7_movePanel 22 = .ok (.isub, 1) := by decide +kernel
theorem dX7_movePanel_23 : decode cX7_movePanel 23 = .ok (.invokestatic 67, 3) := by decide +kernel
theorem dX7_movePanel_26 : decode cX7_movePanel 26 = .ok (.aload 4, 2) := by decide +kernel
theorem dX7_movePanel_28 : decode cX7_movePanel 28 = .ok (.aload_n 3, 1) := by decide +kernel
theorem dX7_movePanel_29 : decode cX7_movePanel 29 = .ok (.invokevirtual 107, 3) := by decide +kernel
theorem dX7_movePanel_32 : decode cX7_movePanel 32 = .ok (.istore 5, 2) := by decide +kernel
theorem dX7_movePanel_34 : decode cX7_movePanel 34 = .ok (.aload 4, 2) := by decide +kernel
theorem dX7_movePanel_36 : decode cX7_movePanel 36 = .ok (.iload 5, 2) := by decide +kernel
theorem dX7_movePanel_38 : decode cX7_movePanel 38 = .ok (.invokevirtual 90, 3) := by decide +kernel
theorem dX7_movePanel_41 : decode cX7_movePanel 41 = .ok (.aload 4, 2) := by decide +kernel
theorem dX7_movePanel_43 : decode cX7_movePanel 43 = .ok (.iload_n 2, 1) := by decide +kernel
theorem dX7_movePanel_44 : decode cX7_movePanel 44 = .ok (.aload_n 3, 1) := by decide +kernel
theorem dX7_movePanel_45 : decode cX7_movePanel 45 = .ok (.invokevirtual 82, 3) := by decide +kernel
theorem dX7_movePanel_48 : decode cX7_movePanel 48 = .ok (.aload_n 0, 1) := by decide +kernel
theorem dX7_movePanel_49 : decode cX7_movePanel 49 = .ok (.getfield 25, 3) := by decide +kernel
theorem dX7_movePanel_52 : decode cX7_movePanel 52 = .ok (.aload 4, 2) := by decide +kernel
theorem dX7_movePanel_54 : decode cX7_movePanel 54 = .ok (.invokevirtual 86, 3) := by decide +kernel
theorem dX7_movePanel_57 : decode cX7_movePanel 57 = .ok (.ifCond .eq 10, 3) := by decide +kernel
theorem dX7_movePanel_60 : decode cX7_movePanel 60 = .ok (.aload_n 0, 1) := by decide +kernel
theorem dX7_movePanel_61 : decode cX7_movePanel 61 = .ok (.invokevirtual 111, 3) := by decide +kernel
theorem dX7_movePanel_64 : decode cX7_movePanel 64 = .ok (.ifCond .ne 27, 3) := by decide +kernel
theorem dX7_movePanel_67 : decode cX7_movePanel 67 = .ok (.aload 4, 2) := by decide +kernel
theorem dX7_movePanel_69 : decode cX7_movePanel 69 = .ok (.iload_n 2, 1) := by decide +kernel
theorem dX7_movePanel_70 : decode cX7_movePanel 70 = .ok (.invokevirtual 90, 3) := by decide +kernel
theorem dX7_movePanel_73 : decode cX7_movePanel 73 = .ok (.aload 4, 2) := by decide +kernel
theorem dX7_movePanel_75 : decode cX7_movePanel 75 = .ok (.iload 5, 2) := by decide +kernel
theorem dX7_movePanel_77 : decode cX7_movePanel 77 = .ok (.aload_n 3, 1) := by decide +kernel
theorem dX7_movePanel_78 : decode cX7_movePanel 78 = .ok (.invokevirtual 82, 3) := by decide +kernel
theorem dX7_movePanel_81 : decode cX7_movePanel 81 = .ok (.new 40, 3) := by decide +kernel
theorem dX7_movePanel_84 : decode cX7_movePanel 84 = .ok (.dup, 1) := by decide +kernel
theorem dX7_movePanel_85 : decode cX7_movePanel 85 = .ok (.ldc 115, 2) := by decide +kernel
theorem dX7_movePanel_87 : decode cX7_movePanel 87 = .ok (.invokespecial 44, 3) := by decide +kernel
theorem dX7_movePanel_90 : decode cX7_movePanel 90 = .ok (.athrow, 1) := by decide +kernel
theorem dX7_movePanel_91 : decode cX7_movePanel 91 = .ok (.aload 4, 2) := by decide +kernel
theorem dX7_movePanel_93 : decode cX7_movePanel 93 = .ok (.invokevirtual 95, 3) := by decide +kernel
theorem dX7_movePanel_96 : decode cX7_movePanel 96 = .ok (.ireturn, 1) := by decide +kernel
theorem dX7_needBalloon_0 : decode cX7_needBalloon 0 = .ok (.iload_n 1, 1) := by decide +kernel
theorem dX7_needBalloon_1 : decode cX7_needBalloon 1 = .ok (.ifCond .lt 31, 3) := by decide +kernel
theorem dX7_needBalloon_4 : decode cX7_needBalloon 4 = .ok (.iload_n 1, 1) := by decide +kernel
theorem dX7_needBalloon_5 : decode cX7_needBalloon 5 = .ok (.aload_n 0, 1) := by decide +kernel
theorem dX7_needBalloon_6 : decode cX7_needBalloon 6 = .ok (.getfield 19, 3) := by decide +kernel
theorem dX7_needBalloon_9 : decode cX7_needBalloon 9 = .ok (.invokevirtual 36, 3) := by decide +kernel
theorem dX7_needBalloon_12 : decode cX7_needBalloon 12 = .ok (.if_icmp .ge 20, 3) := by decide +kernel
theorem dX7_needBalloon_15 : decode cX7_needBalloon 15 = .ok (.aload_n 0, 1) := by decide +kernel
theorem dX7_needBalloon_16 : decode cX7_needBalloon 16 = .ok (.getfield 19, 3) := by decide +kernel
theorem dX7_needBalloon_19 : decode cX7_needBalloon 19 = .ok (.iload_n 1, 1) := by decide +kernel
theorem dX7_needBalloon_20 : decode cX7_needBalloon 20 = .ok (.invokevirtual 215, 3) := by decide +kernel
theorem dX7_needBalloon_23 : decode cX7_needBalloon 23 = .ok (.checkcast 161, 3) := by decide +kernel
theorem dX7_needBalloon_26 : decode cX7_needBalloon 26 = .ok (.getfield 195, 3) := by decide +kernel
theorem dX7_needBalloon_29 : decode cX7_needBalloon 29 = .ok (.ifCond .eq 14, 3) := by decide +kernel
theorem dX7_needBalloon_32 : decode cX7_needBalloon 32 = .ok (.new 245, 3) := by decide +kernel
theorem dX7_needBalloon_35 : decode cX7_needBalloon 35 = .ok (.dup, 1) := by decide +kernel
theorem dX7_needBalloon_36 : decode cX7_needBalloon 36 = .ok (.ldc_w 306, 3) := by decide +kernel
theorem dX7_needBalloon_39 : decode cX7_needBalloon 39 = .ok (.invokespecial 249, 3) := by decide +kernel
theorem dX7_needBalloon_42 : decode cX7_needBalloon 42 = .ok (.athrow, 1) := by decide +kernel
theorem dX7_needBalloon_43 : decode cX7_needBalloon 43 = .ok (.aload_n 0, 1) := by decide +kernel
theorem dX7_needBalloon_44 : decode cX7_needBalloon 44 = .ok (.getfield 19, 3) := by decide +kernel
theorem dX7_needBalloon_47 : decode cX7_needBalloon 47 = .ok (.iload_n 1, 1) := by decide +kernel
theorem dX7_needBalloon_48 : decode cX7_needBalloon 48 = .ok (.invokevirtual 215, 3) := by decide +kernel
theorem dX7_needBalloon_51 : decode cX7_needBalloon 51 = .ok (.checkcast 161, 3) := by decide +kernel
theorem dX7_needBalloon_54 : decode cX7_needBalloon 54 = .ok (.areturn, 1) := by decide +kernel
theorem dX7_needPage_0 : decode cX7_needPage 0 = .ok (.iload_n 1, 1) := by decide +kernel
theorem dX7_needPage_1 : decode cX7_needPage 1 = .ok (.ifCond .lt 14, 3) := by decide +kernel
theorem dX7_needPage_4 : decode cX7_needPage 4 = .ok (.iload_n 1, 1) := by decide +kernel
theorem dX7_needPage_5 : decode cX7_needPage 5 = .ok (.aload_n 0, 1) := by decide +kernel
theorem dX7_needPage_6 : decode cX7_needPage 6 = .ok (.getfield 10, 3) := by decide +kernel
theorem dX7_needPage_9 : decode cX7_needPage 9 = .ok (.invokevirtual 36, 3) := by decide +kernel
theorem dX7_needPage_12 : decode cX7_needPage 12 = .ok (.if_icmp .lt 14, 3) := by decide +kernel
theorem dX7_needPage_15 : decode cX7_needPage 15 = .ok (.new 245, 3) := by decide +kernel
theorem dX7_needPage_18 : decode cX7_needPage 18 = .ok (.dup, 1) := by decide +kernel
theorem dX7_needPage_19 : decode cX7_needPage 19 = .ok (.ldc_w 301, 3) := by decide +kernel
theorem dX7_needPage_22 : decode cX7_needPage 22 = .ok (.invokespecial 249, 3) := by decide +kernel
theorem dX7_needPage_25 : decode cX7_needPage 25 = .ok (.athrow, 1) := by decide +kernel
theorem dX7_needPage_26 : decode cX7_needPage 26 = .ok (.aload_n 0, 1) := by decide +kernel
theorem dX7_needPage_27 : decode cX7_needPage 27 = .ok (.getfield 10, 3) := by decide +kernel
theorem dX7_needPage_30 : decode cX7_needPage 30 = .ok (.iload_n 1, 1) := by decide +kernel
theorem dX7_needPage_31 : decode cX7_needPage 31 = .ok (.invokevirtual 215, 3) := by decide +kernel
theorem dX7_needPage_34 : decode cX7_needPage 34 = .ok (.checkcast 47, 3) := by decide +kernel
theorem dX7_needPage_37 : decode cX7_needPage 37 = .ok (.areturn, 1) := by decide +kernel
theorem dX7_needPanel_0 : decode cX7_needPanel 0 = .ok (.iload_n 1, 1) := by decide +kernel
theorem dX7_needPanel_1 : decode cX7_needPanel 1 = .ok (.ifCond .lt 31, 3) := by decide +kernel
theorem dX7_needPanel_4 : decode cX7_needPanel 4 = .ok (.iload_n 1, 1) := by decide +kernel
theorem dX7_needPanel_5 : decode cX7_needPanel 5 = .ok (.aload_n 0, 1) := by decide +kernel
theorem dX7_needPanel_6 : decode cX7_needPanel 6 = .ok (.getfield 16, 3) := by decide +kernel
theorem dX7_needPanel_9 : decode cX7_needPanel 9 = .ok (.invokevirtual 36, 3) := by decide +kernel
theorem dX7_needPanel_12 : decode cX7_needPanel 12 = .ok (.if_icmp .ge 20, 3) := by decide +kernel
theorem dX7_needPanel_15 : decode cX7_needPanel 15 = .ok (.aload_n 0, 1) := by decide +kernel
theorem dX7_needPanel_16 : decode cX7_needPanel 16 = .ok (.getfield 16, 3) := by decide +kernel
theorem dX7_needPanel_19 : decode cX7_needPanel 19 = .ok (.iload_n 1, 1) := by decide +kernel
theorem dX7_needPanel_20 : decode cX7_needPanel 20 = .ok (.invokevirtual 215, 3) := by decide +kernel
theorem dX7_needPanel_23 : decode cX7_needPanel 23 = .ok (.checkcast 77, 3) := by decide +kernel
theorem dX7_needPanel_26 : decode cX7_needPanel 26 = .ok (.getfield 303, 3) := by decide +kernel
theorem dX7_needPanel_29 : decode cX7_needPanel 29 = .ok (.ifCond .eq 14, 3) := by decide +kernel
theorem dX7_needPanel_32 : decode cX7_needPanel 32 = .ok (.new 245, 3) := by decide +kernel
theorem dX7_needPanel_35 : decode cX7_needPanel 35 = .ok (.dup, 1) := by decide +kernel
theorem dX7_needPanel_36 : decode cX7_needPanel 36 = .ok (.ldc_w 304, 3) := by decide +kernel
theorem dX7_needPanel_39 : decode cX7_needPanel 39 = .ok (.invokespecial 249, 3) := by decide +kernel
theorem dX7_needPanel_42 : decode cX7_needPanel 42 = .ok (.athrow, 1) := by decide +kernel
theorem dX7_needPanel_43 : decode cX7_needPanel 43 = .ok (.aload_n 0, 1) := by decide +kernel
theorem dX7_needPanel_44 : decode cX7_needPanel 44 = .ok (.getfield 16, 3) := by decide +kernel
theorem dX7_needPanel_47 : decode cX7_needPanel 47 = .ok (.iload_n 1, 1) := by decide +kernel
theorem dX7_needPanel_48 : decode cX7_needPanel 48 = .ok (.invokevirtual 215, 3) := by decide +kernel
theorem dX7_needPanel_51 : decode cX7_needPanel 51 = .ok (.checkcast 77, 3) := by decide +kernel
theorem dX7_needPanel_54 : decode cX7_needPanel 54 = .ok (.areturn, 1) := by decide +kernel
theorem dX7_needPlace_0 : decode cX7_needPlace 0 = .ok (.iload_n 0, 1) := by decide +kernel
theorem dX7_needPlace_1 : decode cX7_needPlace 1 = .ok (.ifCond .lt 8, 3) := by decide +kernel
theorem dX7_needPlace_4 : decode cX7_needPlace 4 = .ok (.iload_n 0, 1) := by decide +kernel
theorem dX7_needPlace_5 : decode cX7_needPlace 5 = .ok (.iload_n 1, 1) := by decide +kernel
theorem dX7_needPlace_6 : decode cX7_needPlace 6 = .ok (.if_icmp .le 13, 3) := by decide +kernel
theorem dX7_needPlace_9 : decode cX7_needPlace 9 = .ok (.new 245, 3) := by decide +kernel
theorem dX7_needPlace_12 : decode cX7_needPlace 12 = .ok (.dup, 1) := by decide +kernel
theorem dX7_needPlace_13 : decode cX7_needPlace 13 = .ok (.ldc 247, 2) := by decide +kernel
theorem dX7_needPlace_15 : decode cX7_needPlace 15 = .ok (.invokespecial 249, 3) := by decide +kernel
theorem dX7_needPlace_18 : decode cX7_needPlace 18 = .ok (.athrow, 1) := by decide +kernel
theorem dX7_needPlace_19 : decode cX7_needPlace 19 = .ok (.return_, 1) := by decide +kernel
theorem dX7_needSignature_0 : decode cX7_needSignature 0 = .ok (.iload_n 0, 1) := by decide +kernel
theorem dX7_needSignature_1 : decode cX7_needSignature 1 = .ok (.iconst 4, 1) := by decide +kernel
theorem dX7_needSignature_2 : decode cX7_needSignature 2 = .ok (.if_icmp .eq 32, 3) := by decide +kernel
theorem dX7_needSignature_5 : decode cX7_needSignature 5 = .ok (.iload_n 0, 1) := by decide +kernel
theorem dX7_needSignature_6 : decode cX7_needSignature 6 = .ok (.bipush 8, 2) := by decide +kernel
theorem dX7_needSignature_8 : decode cX7_needSignature 8 = .ok (.if_icmp .eq 26, 3) := by decide +kernel
theorem dX7_needSignature_11 : decode cX7_needSignature 11 = .ok (.iload_n 0, 1) := by decide +kernel
theorem dX7_needSignature_12 : decode cX7_needSignature 12 = .ok (.bipush 12, 2) := by decide +kernel
theorem dX7_needSignature_14 : decode cX7_needSignature 14 = .ok (.if_icmp .eq 20, 3) := by decide +kernel
theorem dX7_needSignature_17 : decode cX7_needSignature 17 = .ok (.iload_n 0, 1) := by decide +kernel
theorem dX7_needSignature_18 : decode cX7_needSignature 18 = .ok (.bipush 16, 2) := by decide +kernel
theorem dX7_needSignature_20 : decode cX7_needSignature 20 = .ok (.if_icmp .eq 14, 3) := by decide +kernel
theorem dX7_needSignature_23 : decode cX7_needSignature 23 = .ok (.new 308, 3) := by decide +kernel
theorem dX7_needSignature_26 : decode cX7_needSignature 26 = .ok (.dup, 1) := by decide +kernel
theorem dX7_needSignature_27 : decode cX7_needSignature 27 = .ok (.ldc_w 313, 3) := by decide +kernel
theorem dX7_needSignature_30 : decode cX7_needSignature 30 = .ok (.invokespecial 312, 3) := by decide +kernel
theorem dX7_needSignature_33 : decode cX7_needSignature 33 = .ok (.athrow, 1) := by decide +kernel
theorem dX7_needSignature_34 : decode cX7_needSignature 34 = .ok (.return_, 1) := by decide +kernel
theorem dX7_needWithin_0 : decode cX7_needWithin 0 = .ok (.iload_n 0, 1) := by decide +kernel
theorem dX7_needWithin_1 : decode cX7_needWithin 1 = .ok (.iload_n 1, 1) := by decide +kernel
theorem dX7_needWithin_2 : decode cX7_needWithin 2 = .ok (.if_icmp .lt 8, 3) := by decide +kernel
theorem dX7_needWithin_5 : decode cX7_needWithin 5 = .ok (.iload_n 0, 1) := by decide +kernel
theorem dX7_needWithin_6 : decode cX7_needWithin 6 = .ok (.iload_n 2, 1) := by decide +kernel
theorem dX7_needWithin_7 : decode cX7_needWithin 7 = .ok (.if_icmp .le 14, 3) := by decide +kernel
theorem dX7_needWithin_10 : decode cX7_needWithin 10 = .ok (.new 308, 3) := by decide +kernel
theorem dX7_needWithin_13 : decode cX7_needWithin 13 = .ok (.dup, 1) := by decide +kernel
theorem dX7_needWithin_14 : decode cX7_needWithin 14 = .ok (.ldc_w 310, 3) := by decide +kernel
theorem dX7_needWithin_17 : decode cX7_needWithin 17 = .ok (.invokespecial 312, 3) := by decide +kernel
theorem dX7_needWithin_20 : decode cX7_needWithin 20 = .ok (.athrow, 1) := by decide +kernel
theorem dX7_needWithin_21 : decode cX7_needWithin 21 = .ok (.return_, 1) := by decide +kernel
theorem dX7_numberOf_0 : decode cX7_numberOf 0 = .ok (.aload_n 0, 1) := by decide +kernel
theorem dX7_numberOf_1 : decode cX7_numberOf 1 = .ok (.ifnonnull 7, 3) := by decide +kernel
theorem dX7_numberOf_4 : decode cX7_numberOf 4 = .ok (.iconst (-1), 1) := by decide +kernel
theorem dX7_numberOf_5 : decode cX7_numberOf 5 = .ok (.goto 7, 3) := by decide +kernel
theorem dX7_numberOf_8 : decode cX7_numberOf 8 = .ok (.aload_n 0, 1) := by decide +kernel
theorem dX7_numberOf_9 : decode cX7_numberOf 9 = .ok (.getfield 98, 3) := by decide +kernel
theorem dX7_numberOf_12 : decode cX7_numberOf 12 = .ok (.ireturn, 1) := by decide +kernel
theorem dX7_open_0 : decode cX7_open 0 = .ok (.aload_n 0, 1) := by decide +kernel
theorem dX7_open_1 : decode cX7_open 1 = .ok (.getfield 32, 3) := by decide +kernel
theorem dX7_open_4 : decode cX7_open 4 = .ok (.aload_n 0, 1) := by decide +kernel
theorem dX7_open_5 : decode cX7_open 5 = .ok (.aconst_null, 1) := by decide +kernel
theorem dX7_open_6 : decode cX7_open 6 = .ok (.invokevirtual 123, 3) := by decide +kernel
theorem dX7_open_9 : decode cX7_open 9 = .ok (.invokevirtual 283, 3) := by decide +kernel
theorem dX7_open_12 : decode cX7_open 12 = .ok (.aload_n 0, 1) := by decide +kernel
theorem dX7_open_13 : decode cX7_open 13 = .ok (.getfield 32, 3) := by decide +kernel
theorem dX7_open_16 : decode cX7_open 16 = .ok (.getfield 287, 3) := by decide +kernel
theorem dX7_open_19 : decode cX7_open 19 = .ok (.invokestatic 290, 3) := by decide +kernel
theorem dX7_open_22 : decode cX7_open 22 = .ok (.ireturn, 1) := by decide +kernel
theorem dX7_page_0 : decode cX7_page 0 = .ok (.aload_n 0, 1) := by decide +kernel
theorem dX7_page_1 : decode cX7_page 1 = .ok (.getfield 10, 3) := by decide +kernel
theorem dX7_page_4 : decode cX7_page 4 = .ok (.invokevirtual 36, 3) := by decide +kernel
theorem dX7_page_7 : decode cX7_page 7 = .ok (.bipush 10, 2) := by decide +kernel
theorem dX7_page_9 : decode cX7_page 9 = .ok (.if_icmp .lt 13, 3) := by decide +kernel
theorem dX7_page_12 : decode cX7_page 12 = .ok (.new 40, 3) := by decide +kernel
theorem dX7_page_15 : decode cX7_page 15 = .ok (.dup, 1) := by decide +kernel
theorem dX7_page_16 : decode cX7_page 16 = .ok (.ldc 42, 2) := by decide +kernel
theorem dX7_page_18 : decode cX7_page 18 = .ok (.invokespecial 44, 3) := by decide +kernel
theorem dX7_page_21 : decode cX7_page 21 = .ok (.athrow, 1) := by decide +kernel
theorem dX7_page_22 : decode cX7_page 22 = .ok (.new 47, 3) := by decide +kernel
theorem dX7_page_25 : decode cX7_page 25 = .ok (.dup, 1) := by decide +kernel
theorem dX7_page_26 : decode cX7_page 26 = .ok (.aload_n 0, 1) := by decide +kernel
theorem dX7_page_27 : decode cX7_page 27 = .ok (.getfield 10, 3) := by decide +kernel
theorem dX7_page_30 : decode cX7_page 30 = .ok (.invokevirtual 36, 3) := by decide +kernel
theorem dX7_page_33 : decode cX7_page 33 = .ok (.invokespecial 49, 3) := by decide +kernel
theorem dX7_page_36 : decode cX7_page 36 = .ok (.astore_n 1, 1) := by decide +kernel
theorem dX7_page_37 : decode cX7_page 37 = .ok (.aload_n 0, 1) := by decide +kernel
theorem dX7_page_38 : decode cX7_page 38 = .ok (.getfield 10, 3) := by decide +kernel
theorem dX7_page_41 : decode cX7_page 41 = .ok (.aload_n 1, 1) := by decide +kernel
theorem dX7_page_42 : decode cX7_page 42 = .ok (.invokevirtual 52, 3) := by decide +kernel
theorem dX7_page_45 : decode cX7_page 45 = .ok (.pop, 1) := by decide +kernel
theorem dX7_page_46 : decode cX7_page 46 = .ok (.aload_n 1, 1) := by decide +kernel
theorem dX7_page_47 : decode cX7_page 47 = .ok (.getfield 56, 3) := by decide +kernel
theorem dX7_page_50 : decode cX7_page 50 = .ok (.ireturn, 1) := by decide +kernel
theorem dX7_pages_0 : decode cX7_pages 0 = .ok (.aload_n 0, 1) := by decide +kernel
theorem dX7_pages_1 : decode cX7_pages 1 = .ok (.getfield 10, 3) := by decide +kernel
theorem dX7_pages_4 : decode cX7_pages 4 = .ok (.invokevirtual 36, 3) := by decide +kernel
theorem dX7_pages_7 : decode cX7_pages 7 = .ok (.ireturn, 1) := by decide +kernel
theorem dX7_panel_0 : decode cX7_panel 0 = .ok (.aload_n 0, 1) := by decide +kernel
theorem dX7_panel_1 : decode cX7_panel 1 = .ok (.iload_n 1, 1) := by decide +kernel
theorem dX7_panel_2 : decode cX7_panel 2 = .ok (.invokevirtual 60, 3) := by decide +kernel
theorem dX7_panel_5 : decode cX7_panel 5 = .ok (.astore 6, 2) := by decide +kernel
theorem dX7_panel_7 : decode cX7_panel 7 = .ok (.iload_n 2, 1) := by decide +kernel
theorem dX7_panel_8 : decode cX7_panel 8 = .ok (.aload 6, 2) := by decide +kernel
theorem dX7_panel_10 : decode cX7_panel 10 = .ok (.getfield 64, 3) := by decide +kernel
theorem dX7_panel_13 : decode cX7_panel 13 = .ok (.invokevirtual 36, 3) := by decide +kernel
theorem dX7_panel_16 : decode cX7_panel 16 = .ok (.invokestatic 67, 3) := by decide +kernel
theorem dX7_panel_19 : decode cX7_panel 19 = .ok (.iload_n 3, 1) := by decide +kernel
theorem dX7_panel_20 : decode cX7_panel 20 = .ok (.iconst 1, 1) := by decide +kernel
theorem dX7_panel_21 : decode cX7_panel 21 = .ok (.bipush 9, 2) := by decide +kernel
theorem dX7_panel_23 : decode cX7_panel 23 = .ok (.invokestatic 71, 3) := by decide +kernel
theorem dX7_panel_26 : decode cX7_panel 26 = .ok (.iload 4, 2) := by decide +kernel
theorem dX7_panel_28 : decode cX7_panel 28 = .ok (.iconst 4, 1) := by decide +kernel
theorem dX7_panel_29 : decode cX7_panel 29 = .ok (.bipush 24, 2) := by decide +kernel
theorem dX7_panel_31 : decode cX7_panel 31 = .ok (.invokestatic 71, 3) := by decide +kernel
theorem dX7_panel_34 : decode cX7_panel 34 = .ok (.iload 5, 2) := by decide +kernel
theorem dX7_panel_36 : decode cX7_panel 36 = .ok (.iconst 3, 1) := by decide +kernel
theorem dX7_panel_37 : decode cX7_panel 37 = .ok (.bipush 12, 2) := by decide +kernel
theorem dX7_panel_39 : decode cX7_panel 39 = .ok (.invokestatic 71, 3) := by decide +kernel
theorem dX7_panel_42 : decode cX7_panel 42 = .ok (.aload 6, 2) := by decide +kernel
theorem dX7_panel_44 : decode cX7_panel 44 = .ok (.getfield 64, 3) := by decide +kernel
theorem dX7_panel_47 : decode cX7_panel 47 = .ok (.invokevirtual 36, 3) := by decide +kernel
theorem dX7_panel_50 : decode cX7_panel 50 = .ok (.bipush 8, 2) := by decide +kernel
theorem dX7_panel_52 : decode cX7_panel 52 = .ok (.if_icmp .ge 15, 3) := by decide +kernel
theorem dX7_panel_55 : decode cX7_panel 55 = .ok (.aload_n 0, 1) := by decide +kernel
theorem dX7_panel_56 : decode cX7_panel 56 = .ok (.getfield 16, 3) := by decide +kernel
theorem dX7_panel_59 : decode cX7_panel 59 = .ok (.invokevirtual 36, 3) := by decide +kernel
theorem dX7_panel_62 : decode cX7_panel 62 = .ok (.bipush 50, 2) := by decide +kernel
theorem dX7_panel_64 : decode cX7_panel 64 = .ok (.if_icmp .lt 13, 3) := by decide +kernel
theorem dX7_panel_67 : decode cX7_panel 67 = .ok (.new 40, 3) := by decide +kernel
theorem dX7_panel_70 : decode cX7_panel 70 = .ok (.dup, 1) := by decide +kernel
theorem dX7_panel_71 : decode cX7_panel 71 = .ok (.ldc 75, 2) := by decide +kernel
theorem dX7_panel_73 : decode cX7_panel 73 = .ok (.invokespecial 44, 3) := by decide +kernel
theorem dX7_panel_76 : decode cX7_panel 76 = .ok (.athrow, 1) := by decide +kernel
theorem dX7_panel_77 : decode cX7_panel 77 = .ok (.new 77, 3) := by decide +kernel
theorem dX7_panel_80 : decode cX7_panel 80 = .ok (.dup, 1) := by decide +kernel
theorem dX7_panel_81 : decode cX7_panel 81 = .ok (.aload_n 0, 1) := by decide +kernel
theorem dX7_panel_82 : decode cX7_panel 82 = .ok (.getfield 16, 3) := by decide +kernel
theorem dX7_panel_85 : decode cX7_panel 85 = .ok (.invokevirtual 36, 3) := by decide +kernel
theorem dX7_panel_88 : decode cX7_panel 88 = .ok (.aload 6, 2) := by decide +kernel
theorem dX7_panel_90 : decode cX7_panel 90 = .ok (.iload_n 3, 1) := by decide +kernel
theorem dX7_panel_91 : decode cX7_panel 91 = .ok (.iload 4, 2) := by decide +kernel
theorem dX7_panel_93 : decode cX7_panel 93 = .ok (.iload 5, 2) := by decide +kernel
theorem dX7_panel_95 : decode cX7_panel 95 = .ok (.invokespecial 79, 3) := by decide +kernel
theorem dX7_panel_98 : decode cX7_panel 98 = .ok (.astore 7, 2) := by decide +kernel
theorem dX7_panel_100 : decode cX7_panel 100 = .ok (.aload 6, 2) := by decide +kernel
theorem dX7_panel_102 : decode cX7_panel 102 = .ok (.iload_n 2, 1) := by decide +kernel
theorem dX7_panel_103 : decode cX7_panel 103 = .ok (.aload 7, 2) := by decide +kernel
theorem dX7_panel_105 : decode cX7_panel 105 = .ok (.invokevirtual 82, 3) := by decide +kernel
theorem dX7_panel_108 : decode cX7_panel 108 = .ok (.aload_n 0, 1) := by decide +kernel
theorem dX7_panel_109 : decode cX7_panel 109 = .ok (.getfield 25, 3) := by decide +kernel
theorem dX7_panel_112 : decode cX7_panel 112 = .ok (.aload 6, 2) := by decide +kernel
theorem dX7_panel_114 : decode cX7_panel 114 = .ok (.invokevirtual 86, 3) := by decide +kernel
theorem dX7_panel_117 : decode cX7_panel 117 = .ok (.ifCond .ne 19, 3) := by decide +kernel
theorem dX7_panel_120 : decode cX7_panel 120 = .ok (.aload 6, 2) := by decide +kernel
theorem dX7_panel_122 : decode cX7_panel 122 = .ok (.iload_n 2, 1) := by decide +kernel
theorem dX7_panel_123 : decode cX7_panel 123 = .ok (.invokevirtual 90, 3) := by decide +kernel
theorem dX7_panel_126 : decode cX7_panel 126 = .ok (.new 40, 3) := by decide +kernel
theorem dX7_panel_129 : decode cX7_panel 129 = .ok (.dup, 1) := by decide +kernel
theorem dX7_panel_130 : decode cX7_panel 130 = .ok (.ldc 93, 2) := by decide +kernel
theorem dX7_panel_132 : decode cX7_panel 132 = .ok (.invokespecial 44, 3) := by decide +kernel
theorem dX7_panel_135 : decode cX7_panel 135 = .ok (.athrow, 1) := by decide +kernel
theorem dX7_panel_136 : decode cX7_panel 136 = .ok (.aload_n 0, 1) := by decide +kernel
theorem dX7_panel_137 : decode cX7_panel 137 = .ok (.getfield 16, 3) := by decide +kernel
theorem dX7_panel_140 : decode cX7_panel 140 = .ok (.aload 7, 2) := by decide +kernel
theorem dX7_panel_142 : decode cX7_panel 142 = .ok (.invokevirtual 52, 3) := by decide +kernel
theorem dX7_panel_145 : decode cX7_panel 145 = .ok (.pop, 1) := by decide +kernel
theorem dX7_panel_146 : decode cX7_panel 146 = .ok (.aload 6, 2) := by decide +kernel
theorem dX7_panel_148 : decode cX7_panel 148 = .ok (.invokevirtual 95, 3) := by decide +kernel
theorem dX7_panel_151 : decode cX7_panel 151 = .ok (.pop, 1) := by decide +kernel
theorem dX7_panel_152 : decode cX7_panel 152 = .ok (.aload 7, 2) := by decide +kernel
theorem dX7_panel_154 : decode cX7_panel 154 = .ok (.getfield 98, 3) := by decide +kernel
theorem dX7_panel_157 : decode cX7_panel 157 = .ok (.ireturn, 1) := by decide +kernel
theorem dX7_panelAt_0 : decode cX7_panelAt 0 = .ok (.aload_n 0, 1) := by decide +kernel
theorem dX7_panelAt_1 : decode cX7_panelAt 1 = .ok (.iload_n 1, 1) := by decide +kernel
theorem dX7_panelAt_2 : decode cX7_panelAt 2 = .ok (.invokevirtual 60, 3) := by decide +kernel
theorem dX7_panelAt_5 : decode cX7_panelAt 5 = .ok (.astore_n 3, 1) := by decide +kernel
theorem dX7_panelAt_6 : decode cX7_panelAt 6 = .ok (.iload_n 2, 1) := by decide +kernel
theorem dX7_panelAt_7 : decode cX7_panelAt 7 = .ok (.aload_n 3, 1) := by decide +kernel
theorem dX7_panelAt_8 : decode cX7_panelAt 8 = .ok (.getfield 64, 3) := by decide +kernel
theorem dX7_panelAt_11 : decode cX7_panelAt 11 = .ok (.invokevirtual 36, 3) := by decide +kernel
theorem dX7_panelAt_14 : decode cX7_panelAt 14 = .ok (.iconst 1, 1) := by decide +kernel
theorem dX7_panelAt_15 : decode cX7_panelAt 15 = .ok (.isub, 1) := by decide +kernel
theorem dX7_panelAt_16 : decode cX7_panelAt 16 = .ok (.invokestatic 67, 3) := by decide +kernel
theorem dX7_panelAt_19 : decode cX7_panelAt 19 = .ok (.aload_n 3, 1) := by decide +kernel
theorem dX7_panelAt_20 : decode cX7_panelAt 20 = .ok (.getfield 64, 3) := by decide +kernel
theorem dX7_panelAt_23 : decode cX7_panelAt 23 = .ok (.iload_n 2, 1) := by decide +kernel
theorem dX7_panelAt_24 : decode cX7_panelAt 24 = .ok (.invokevirtual 215, 3) := by decide +kernel
theorem dX7_panelAt_27 : decode cX7_panelAt 27 = .ok (.checkcast 77, 3) := by decide +kernel
theorem dX7_panelAt_30 : decode cX7_panelAt 30 = .ok (.getfield 98, 3) := by decide +kernel
theorem dX7_panelAt_33 : decode cX7_panelAt 33 = .ok (.ireturn, 1) := by decide +kernel
theorem dX7_panels_0 : decode cX7_panels 0 = .ok (.aload_n 0, 1) := by decide +kernel
theorem dX7_panels_1 : decode cX7_panels 1 = .ok (.iload_n 1, 1) := by decide +kernel
theorem dX7_panels_2 : decode cX7_panels 2 = .ok (.invokevirtual 60, 3) := by decide +kernel
theorem dX7_panels_5 : decode cX7_panels 5 = .ok (.getfield 64, 3) := by decide +kernel
theorem dX7_panels_8 : decode cX7_panels 8 = .ok (.invokevirtual 36, 3) := by decide +kernel
theorem dX7_panels_11 : decode cX7_panels 11 = .ok (.ireturn, 1) := by decide +kernel
theorem dX7_placeByPairs_0 : decode cX7_placeByPairs 0 = .ok (.aload_n 0, 1) := by decide +kernel
theorem dX7_placeByPairs_1 : decode cX7_placeByPairs 1 = .ok (.iload_n 1, 1) := by decide +kernel
theorem dX7_placeByPairs_2 : decode cX7_placeByPairs 2 = .ok (.invokevirtual 171, 3) := by decide +kernel
theorem dX7_placeByPairs_5 : decode cX7_placeByPairs 5 = .ok (.astore_n 2, 1) := by decide +kernel
theorem dX7_placeByPairs_6 : decode cX7_placeByPairs 6 = .ok (.iconst 0, 1) := by decide +kernel
theorem dX7_placeByPairs_7 : decode cX7_placeByPairs 7 = .ok (.istore_n 3, 1) := by decide +kernel
theorem dX7_placeByPairs_8 : decode cX7_placeByPairs 8 = .ok (.iconst 0, 1) := by decide +kernel
theorem dX7_placeByPairs_9 : decode cX7_placeByPairs 9 = .ok (.istore 4, 2) := by decide +kernel
theorem dX7_placeByPairs_11 : decode cX7_placeByPairs 11 = .ok (.iload 4, 2) := by decide +kernel
theorem dX7_placeByPairs_13 : decode cX7_placeByPairs 13 = .ok (.aload_n 0, 1) := by decide +kernel
theorem dX7_placeByPairs_14 : decode cX7_placeByPairs 14 = .ok (.getfield 19, 3) := by decide +kernel
theorem dX7_placeByPairs_17 : decode cX7_placeByPairs 17 = .ok (.invokevirtual 36, 3) := by decide +kernel
theorem dX7_placeByPairs_20 : decode cX7_placeByPairs 20 = .ok (.if_icmp .ge 43, 3) := by decide +kernel
theorem dX7_placeByPairs_23 : decode cX7_placeByPairs 23 = .ok (.aload_n 0, 1) := by decide +kernel
theorem dX7_placeByPairs_24 : decode cX7_placeByPairs 24 = .ok (.getfield 19, 3) := by decide +kernel
theorem dX7_placeByPairs_27 : decode cX7_placeByPairs 27 = .ok (.iload 4, 2) := by decide +kernel
theorem dX7_placeByPairs_29 : decode cX7_placeByPairs 29 = .ok (.invokevirtual 215, 3) := by decide +kernel
theorem dX7_placeByPairs_32 : decode cX7_placeByPairs 32 = .ok (.checkcast 161, 3) := by decide +kernel
theorem dX7_placeByPairs_35 : decode cX7_placeByPairs 35 = .ok (.astore 5, 2) := by decide +kernel
theorem dX7_placeByPairs_37 : decode cX7_placeByPairs 37 = .ok (.aload 5, 2) := by decide +kernel
theorem dX7_placeByPairs_39 : decode cX7_placeByPairs 39 = .ok (.getfield 195, 3) := by decide +kernel
theorem dX7_placeByPairs_42 : decode cX7_placeByPairs 42 = .ok (.ifCond .ne 15, 3) := by decide +kernel
theorem dX7_placeByPairs_45 : decode cX7_placeByPairs 45 = .ok (.aload 5, 2) := by decide +kernel
theorem dX7_placeByPairs_47 : decode cX7_placeByPairs 47 = .ok (.aload_n 2, 1) := by decide +kernel
theorem dX7_placeByPairs_48 : decode cX7_placeByPairs 48 = .ok (.invokevirtual 253, 3) := by decide +kernel
theorem dX7_placeByPairs_51 : decode cX7_placeByPairs 51 = .ok (.ifCond .eq 6, 3) := by decide +kernel
theorem dX7_placeByPairs_54 : decode cX7_placeByPairs 54 = .ok (.iinc 3 1, 3) := by decide +kernel
theorem dX7_placeByPairs_57 : decode cX7_placeByPairs 57 = .ok (.iinc 4 1, 3) := by decide +kernel
theorem dX7_placeByPairs_60 : decode cX7_placeByPairs 60 = .ok (.goto (-49), 3) := by decide +kernel
theorem dX7_placeByPairs_63 : decode cX7_placeByPairs 63 = .ok (.iload_n 3, 1) := by decide +kernel
theorem dX7_placeByPairs_64 : decode cX7_placeByPairs 64 = .ok (.ireturn, 1) := by decide +kernel
theorem dX7_placeOf_0 : decode cX7_placeOf 0 = .ok (.aload_n 0, 1) := by decide +kernel
theorem dX7_placeOf_1 : decode cX7_placeOf 1 = .ok (.aload_n 0, 1) := by decide +kernel
theorem dX7_placeOf_2 : decode cX7_placeOf 2 = .ok (.iload_n 1, 1) := by decide +kernel
theorem dX7_placeOf_3 : decode cX7_placeOf 3 = .ok (.invokevirtual 171, 3) := by decide +kernel
theorem dX7_placeOf_6 : decode cX7_placeOf 6 = .ok (.invokevirtual 250, 3) := by decide +kernel
theorem dX7_placeOf_9 : decode cX7_placeOf 9 = .ok (.ireturn, 1) := by decide +kernel
theorem dX7_read_0 : decode cX7_read 0 = .ok (.iload_n 1, 1) := by decide +kernel
theorem dX7_read_1 : decode cX7_read 1 = .ok (.ifCond .ge 7, 3) := by decide +kernel
theorem dX7_read_4 : decode cX7_read 4 = .ok (.aconst_null, 1) := by decide +kernel
theorem dX7_read_5 : decode cX7_read 5 = .ok (.goto 8, 3) := by decide +kernel
theorem dX7_read_8 : decode cX7_read 8 = .ok (.aload_n 0, 1) := by decide +kernel
theorem dX7_read_9 : decode cX7_read 9 = .ok (.iload_n 1, 1) := by decide +kernel
theorem dX7_read_10 : decode cX7_read 10 = .ok (.invokevirtual 242, 3) := by decide +kernel
theorem dX7_read_13 : decode cX7_read 13 = .ok (.astore_n 2, 1) := by decide +kernel
theorem dX7_read_14 : decode cX7_read 14 = .ok (.aload_n 2, 1) := by decide +kernel
theorem dX7_read_15 : decode cX7_read 15 = .ok (.ifnonnull 13, 3) := by decide +kernel
theorem dX7_read_18 : decode cX7_read 18 = .ok (.new 245, 3) := by decide +kernel
theorem dX7_read_21 : decode cX7_read 21 = .ok (.dup, 1) := by decide +kernel
theorem dX7_read_22 : decode cX7_read 22 = .ok (.ldc 247, 2) := by decide +kernel
theorem dX7_read_24 : decode cX7_read 24 = .ok (.invokespecial 249, 3) := by decide +kernel
theorem dX7_read_27 : decode cX7_read 27 = .ok (.athrow, 1) := by decide +kernel
theorem dX7_read_28 : decode cX7_read 28 = .ok (.aload_n 2, 1) := by decide +kernel
theorem dX7_read_29 : decode cX7_read 29 = .ok (.getfield 170, 3) := by decide +kernel
theorem dX7_read_32 : decode cX7_read 32 = .ok (.ireturn, 1) := by decide +kernel
theorem dX7_readAheadOf_0 : decode cX7_readAheadOf 0 = .ok (.aconst_null, 1) := by decide +kernel
theorem dX7_readAheadOf_1 : decode cX7_readAheadOf 1 = .ok (.astore_n 2, 1) := by decide +kernel
theorem dX7_readAheadOf_2 : decode cX7_readAheadOf 2 = .ok (.iconst 0, 1) := by decide +kernel
theorem dX7_readAheadOf_3 : decode cX7_readAheadOf 3 = .ok (.istore_n 3, 1) := by decide +kernel
theorem dX7_readAheadOf_4 : decode cX7_readAheadOf 4 = .ok (.iload_n 3, 1) := by decide +kernel
theorem dX7_readAheadOf_5 : decode cX7_readAheadOf 5 = .ok (.aload_n 0, 1) := by decide +kernel
theorem dX7_readAheadOf_6 : decode cX7_readAheadOf 6 = .ok (.getfield 10, 3) := by decide +kernel
theorem dX7_readAheadOf_9 : decode cX7_readAheadOf 9 = .ok (.invokevirtual 36, 3) := by decide +kernel
theorem dX7_readAheadOf_12 : decode cX7_readAheadOf 12 = .ok (.if_icmp .ge 74, 3) := by decide +kernel
theorem dX7_readAheadOf_15 : decode cX7_readAheadOf 15 = .ok (.aload_n 0, 1) := by decide +kernel
theorem dX7_readAheadOf_16 : decode cX7_readAheadOf 16 = .ok (.getfield 10, 3) := by decide +kernel
theorem dX7_readAheadOf_19 : decode cX7_readAheadOf 19 = .ok (.iload_n 3, 1) := by decide +kernel
theorem dX7_readAheadOf_20 : decode cX7_readAheadOf 20 = .ok (.invokevirtual 215, 3) := by decide +kernel
theorem dX7_readAheadOf_23 : decode cX7_readAheadOf 23 = .ok (.checkcast 47, 3) := by decide +kernel
theorem dX7_readAheadOf_26 : decode cX7_readAheadOf 26 = .ok (.astore 4, 2) := by decide +kernel
theorem dX7_readAheadOf_28 : decode cX7_readAheadOf 28 = .ok (.iconst 0, 1) := by decide +kernel
theorem dX7_readAheadOf_29 : decode cX7_readAheadOf 29 = .ok (.istore 5, 2) := by decide +kernel
theorem dX7_readAheadOf_31 : decode cX7_readAheadOf 31 = .ok (.iload 5, 2) := by decide +kernel
theorem dX7_readAheadOf_33 : decode cX7_readAheadOf 33 = .ok (.aload 4, 2) := by decide +kernel
theorem dX7_readAheadOf_35 : decode cX7_readAheadOf 35 = .ok (.getfield 64, 3) := by decide +kernel
theorem dX7_readAheadOf_38 : decode cX7_readAheadOf 38 = .ok (.invokevirtual 36, 3) := by decide +kernel
theorem dX7_readAheadOf_41 : decode cX7_readAheadOf 41 = .ok (.if_icmp .ge 39, 3) := by decide +kernel
theorem dX7_readAheadOf_44 : decode cX7_readAheadOf 44 = .ok (.aload 4, 2) := by decide +kernel
theorem dX7_readAheadOf_46 : decode cX7_readAheadOf 46 = .ok (.getfield 64, 3) := by decide +kernel
theorem dX7_readAheadOf_49 : decode cX7_readAheadOf 49 = .ok (.iload 5, 2) := by decide +kernel
theorem dX7_readAheadOf_51 : decode cX7_readAheadOf 51 = .ok (.invokevirtual 215, 3) := by decide +kernel
theorem dX7_readAheadOf_54 : decode cX7_readAheadOf 54 = .ok (.aload_n 1, 1) := by decide +kernel
theorem dX7_readAheadOf_55 : decode cX7_readAheadOf 55 = .ok (.if_acmp .ne 5, 3) := by decide +kernel
theorem dX7_readAheadOf_58 : decode cX7_readAheadOf 58 = .ok (.aload_n 2, 1) := by decide +kernel
theorem dX7_readAheadOf_59 : decode cX7_readAheadOf 59 = .ok (.areturn, 1) := by decide +kernel
theorem dX7_readAheadOf_60 : decode cX7_readAheadOf 60 = .ok (.aload 4, 2) := by decide +kernel
theorem dX7_readAheadOf_62 : decode cX7_readAheadOf 62 = .ok (.getfield 64, 3) := by decide +kernel
theorem dX7_readAheadOf_65 : decode cX7_readAheadOf 65 = .ok (.iload 5, 2) := by decide +kernel
theorem dX7_readAheadOf_67 : decode cX7_readAheadOf 67 = .ok (.invokevirtual 215, 3) := by decide +kernel
theorem dX7_readAheadOf_70 : decode cX7_readAheadOf 70 = .ok (.checkcast 77, 3) := by decide +kernel
theorem dX7_readAheadOf_73 : decode cX7_readAheadOf 73 = .ok (.astore_n 2, 1) := by decide +kernel
theorem dX7_readAheadOf_74 : decode cX7_readAheadOf 74 = .ok (.iinc 5 1, 3) := by decide +kernel
theorem dX7_readAheadOf_77 : decode cX7_readAheadOf 77 = .ok (.goto (-46), 3) := by decide +kernel
theorem dX7_readAheadOf_80 : decode cX7_readAheadOf 80 = .ok (.iinc 3 1, 3) := by decide +kernel
theorem dX7_readAheadOf_83 : decode cX7_readAheadOf 83 = .ok (.goto (-79), 3) := by decide +kernel
theorem dX7_readAheadOf_86 : decode cX7_readAheadOf 86 = .ok (.aconst_null, 1) := by decide +kernel
theorem dX7_readAheadOf_87 : decode cX7_readAheadOf 87 = .ok (.areturn, 1) := by decide +kernel
theorem dX7_readBehind_0 : decode cX7_readBehind 0 = .ok (.aconst_null, 1) := by decide +kernel
theorem dX7_readBehind_1 : decode cX7_readBehind 1 = .ok (.astore_n 2, 1) := by decide +kernel
theorem dX7_readBehind_2 : decode cX7_readBehind 2 = .ok (.iconst 0, 1) := by decide +kernel
theorem dX7_readBehind_3 : decode cX7_readBehind 3 = .ok (.istore_n 3, 1) := by decide +kernel
theorem dX7_readBehind_4 : decode cX7_readBehind 4 = .ok (.iload_n 3, 1) := by decide +kernel
theorem dX7_readBehind_5 : decode cX7_readBehind 5 = .ok (.aload_n 0, 1) := by decide +kernel
theorem dX7_readBehind_6 : decode cX7_readBehind 6 = .ok (.getfield 10, 3) := by decide +kernel
theorem dX7_readBehind_9 : decode cX7_readBehind 9 = .ok (.invokevirtual 36, 3) := by decide +kernel
theorem dX7_readBehind_12 : decode cX7_readBehind 12 = .ok (.if_icmp .ge 77, 3) := by decide +kernel
theorem dX7_readBehind_15 : decode cX7_readBehind 15 = .ok (.aload_n 0, 1) := by decide +kernel
theorem dX7_readBehind_16 : decode cX7_readBehind 16 = .ok (.getfield 10, 3) := by decide +kernel
theorem dX7_readBehind_19 : decode cX7_readBehind 19 = .ok (.iload_n 3, 1) := by decide +kernel
theorem dX7_readBehind_20 : decode cX7_readBehind 20 = .ok (.invokevirtual 215, 3) := by decide +kernel
theorem dX7_readBehind_23 : decode cX7_readBehind 23 = .ok (.checkcast 47, 3) := by decide +kernel
theorem dX7_readBehind_26 : decode cX7_readBehind 26 = .ok (.astore 4, 2) := by decide +kernel
theorem dX7_readBehind_28 : decode cX7_readBehind 28 = .ok (.iconst 0, 1) := by decide +kernel
theorem dX7_readBehind_29 : decode cX7_readBehind 29 = .ok (.istore 5, 2) := by decide +kernel
theorem dX7_readBehind_31 : decode cX7_readBehind 31 = .ok (.iload 5, 2) := by decide +kernel
theorem dX7_readBehind_33 : decode cX7_readBehind 33 = .ok (.aload 4, 2) := by decide +kernel
theorem dX7_readBehind_35 : decode cX7_readBehind 35 = .ok (.getfield 64, 3) := by decide +kernel
theorem dX7_readBehind_38 : decode cX7_readBehind 38 = .ok (.invokevirtual 36, 3) := by decide +kernel
theorem dX7_readBehind_41 : decode cX7_readBehind 41 = .ok (.if_icmp .ge 42, 3) := by decide +kernel
theorem dX7_readBehind_44 : decode cX7_readBehind 44 = .ok (.aload_n 2, 1) := by decide +kernel
theorem dX7_readBehind_45 : decode cX7_readBehind 45 = .ok (.aload_n 1, 1) := by decide +kernel
theorem dX7_readBehind_46 : decode cX7_readBehind 46 = .ok (.if_acmp .ne 17, 3) := by decide +kernel
theorem dX7_readBehind_49 : decode cX7_readBehind 49 = .ok (.aload 4, 2) := by decide +kernel
theorem dX7_readBehind_51 : decode cX7_readBehind 51 = .ok (.getfield 64, 3) := by decide +kernel
theorem dX7_readBehind_54 : decode cX7_readBehind 54 = .ok (.iload 5, 2) := by decide +kernel
theorem dX7_readBehind_56 : decode cX7_readBehind 56 = .ok (.invokevirtual 215, 3) := by decide +kernel
theorem dX7_readBehind_59 : decode cX7_readBehind 59 = .ok (.checkcast 77, 3) := by decide +kernel
theorem dX7_readBehind_62 : decode cX7_readBehind 62 = .ok (.areturn, 1) := by decide +kernel
theorem dX7_readBehind_63 : decode cX7_readBehind 63 = .ok (.aload 4, 2) := by decide +kernel
theorem dX7_readBehind_65 : decode cX7_readBehind 65 = .ok (.getfield 64, 3) := by decide +kernel
theorem dX7_readBehind_68 : decode cX7_readBehind 68 = .ok (.iload 5, 2) := by decide +kernel
theorem dX7_readBehind_70 : decode cX7_readBehind 70 = .ok (.invokevirtual 215, 3) := by decide +kernel
theorem dX7_readBehind_73 : decode cX7_readBehind 73 = .ok (.checkcast 77, 3) := by decide +kernel
theorem dX7_readBehind_76 : decode cX7_readBehind 76 = .ok (.astore_n 2, 1) := by decide +kernel
theorem dX7_readBehind_77 : decode cX7_readBehind 77 = .ok (.iinc 5 1, 3) := by decide +kernel
theorem dX7_readBehind_80 : decode cX7_readBehind 80 = .ok (.goto (-49), 3) := by decide +kernel
theorem dX7_readBehind_83 : decode cX7_readBehind 83 = .ok (.iinc 3 1, 3) := by decide +kernel
theorem dX7_readBehind_86 : decode cX7_readBehind 86 = .ok (.goto (-82), 3) := by decide +kernel
theorem dX7_readBehind_89 : decode cX7_readBehind 89 = .ok (.aconst_null, 1) := by decide +kernel
theorem dX7_readBehind_90 : decode cX7_readBehind 90 = .ok (.areturn, 1) := by decide +kernel
theorem dX7_remainder_0 : decode cX7_remainder 0 = .ok (.iload_n 1, 1) := by decide +kernel
theorem dX7_remainder_1 : decode cX7_remainder 1 = .ok (.ifCond .le 9, 3) := by decide +kernel
theorem dX7_remainder_4 : decode cX7_remainder 4 = .ok (.iload_n 0, 1) := by decide +kernel
theorem dX7_remainder_5 : decode cX7_remainder 5 = .ok (.iload_n 1, 1) := by decide +kernel
theorem dX7_remainder_6 : decode cX7_remainder 6 = .ok (.irem, 1) := by decide +kernel
theorem dX7_remainder_7 : decode cX7_remainder 7 = .ok (.goto 4, 3) := by decide +kernel
theorem dX7_remainder_10 : decode cX7_remainder 10 = .ok (.iconst 0, 1) := by decide +kernel
theorem dX7_remainder_11 : decode cX7_remainder 11 = .ok (.ireturn, 1) := by decide +kernel
theorem dX7_roundedUp_0 : decode cX7_roundedUp 0 = .ok (.iload_n 1, 1) := by decide +kernel
theorem dX7_roundedUp_1 : decode cX7_roundedUp 1 = .ok (.ifCond .le 13, 3) := by decide +kernel
theorem dX7_roundedUp_4 : decode cX7_roundedUp 4 = .ok (.iload_n 0, 1) := by decide +kernel
theorem dX7_roundedUp_5 : decode cX7_roundedUp 5 = .ok (.iload_n 1, 1) := by decide +kernel
theorem dX7_roundedUp_6 : decode cX7_roundedUp 6 = .ok (.iadd, 1) := by decide +kernel
theorem dX7_roundedUp_7 : decode cX7_roundedUp 7 = .ok (.iconst 1, 1) := by decide +kernel
theorem dX7_roundedUp_8 : decode cX7_roundedUp 8 = .ok (.isub, 1) := by decide +kernel
theorem dX7_roundedUp_9 : decode cX7_roundedUp 9 = .ok (.iload_n 1, 1) := by decide +kernel
theorem dX7_roundedUp_10 : decode cX7_roundedUp 10 = .ok (.idiv, 1) := by decide +kernel
theorem dX7_roundedUp_11 : decode cX7_roundedUp 11 = .ok (.goto 4, 3) := by decide +kernel
theorem dX7_roundedUp_14 : decode cX7_roundedUp 14 = .ok (.iconst 0, 1) := by decide +kernel
theorem dX7_roundedUp_15 : decode cX7_roundedUp 15 = .ok (.ireturn, 1) := by decide +kernel
theorem dX7_rows_0 : decode cX7_rows 0 = .ok (.aload_n 0, 1) := by decide +kernel
theorem dX7_rows_1 : decode cX7_rows 1 = .ok (.iload_n 1, 1) := by decide +kernel
theorem dX7_rows_2 : decode cX7_rows 2 = .ok (.invokevirtual 60, 3) := by decide +kernel
theorem dX7_rows_5 : decode cX7_rows 5 = .ok (.getfield 221, 3) := by decide +kernel
theorem dX7_rows_8 : decode cX7_rows 8 = .ok (.ireturn, 1) := by decide +kernel
theorem dX7_setGrowth_0 : decode cX7_setGrowth 0 = .ok (.iload_n 1, 1) := by decide +kernel
theorem dX7_setGrowth_1 : decode cX7_setGrowth 1 = .ok (.iconst 0, 1) := by decide +kernel
theorem dX7_setGrowth_2 : decode cX7_setGrowth 2 = .ok (.iconst 2, 1) := by decide +kernel
theorem dX7_setGrowth_3 : decode cX7_setGrowth 3 = .ok (.invokestatic 71, 3) := by decide +kernel
theorem dX7_setGrowth_6 : decode cX7_setGrowth 6 = .ok (.iload_n 2, 1) := by decide +kernel
theorem dX7_setGrowth_7 : decode cX7_setGrowth 7 = .ok (.bipush 50, 2) := by decide +kernel
theorem dX7_setGrowth_9 : decode cX7_setGrowth 9 = .ok (.sipush 250, 3) := by decide +kernel
theorem dX7_setGrowth_12 : decode cX7_setGrowth 12 = .ok (.invokestatic 71, 3) := by decide +kernel
theorem dX7_setGrowth_15 : decode cX7_setGrowth 15 = .ok (.aload_n 0, 1) := by decide +kernel
theorem dX7_setGrowth_16 : decode cX7_setGrowth 16 = .ok (.getfield 25, 3) := by decide +kernel
theorem dX7_setGrowth_19 : decode cX7_setGrowth 19 = .ok (.getfield 211, 3) := by decide +kernel
theorem dX7_setGrowth_22 : decode cX7_setGrowth 22 = .ok (.iload_n 1, 1) := by decide +kernel
theorem dX7_setGrowth_23 : decode cX7_setGrowth 23 = .ok (.iaload, 1) := by decide +kernel
theorem dX7_setGrowth_24 : decode cX7_setGrowth 24 = .ok (.istore_n 3, 1) := by decide +kernel
theorem dX7_setGrowth_25 : decode cX7_setGrowth 25 = .ok (.aload_n 0, 1) := by decide +kernel
theorem dX7_setGrowth_26 : decode cX7_setGrowth 26 = .ok (.getfield 25, 3) := by decide +kernel
theorem dX7_setGrowth_29 : decode cX7_setGrowth 29 = .ok (.getfield 211, 3) := by decide +kernel
theorem dX7_setGrowth_32 : decode cX7_setGrowth 32 = .ok (.iload_n 1, 1) := by decide +kernel
theorem dX7_setGrowth_33 : decode cX7_setGrowth 33 = .ok (.iload_n 2, 1) := by decide +kernel
theorem dX7_setGrowth_34 : decode cX7_setGrowth 34 = .ok (.iastore, 1) := by decide +kernel
theorem dX7_setGrowth_35 : decode cX7_setGrowth 35 = .ok (.iconst 0, 1) := by decide +kernel
theorem dX7_setGrowth_36 : decode cX7_setGrowth 36 = .ok (.istore 4, 2) := by decide +kernel
theorem dX7_setGrowth_38 : decode cX7_setGrowth 38 = .ok (.iload 4, 2) := by decide +kernel
theorem dX7_setGrowth_40 : decode cX7_setGrowth 40 = .ok (.aload_n 0, 1) := by decide +kernel
theorem dX7_setGrowth_41 : decode cX7_setGrowth 41 = .ok (.getfield 10, 3) := by decide +kernel
theorem dX7_setGrowth_44 : decode cX7_setGrowth 44 = .ok (.invokevirtual 36, 3) := by decide +kernel
theorem dX7_setGrowth_47 : decode cX7_setGrowth 47 = .ok (.if_icmp .ge 51, 3) := by decide +kernel
theorem dX7_setGrowth_50 : decode cX7_setGrowth 50 = .ok (.aload_n 0, 1) := by decide +kernel
theorem dX7_setGrowth_51 : decode cX7_setGrowth 51 = .ok (.getfield 25, 3) := by decide +kernel
theorem dX7_setGrowth_54 : decode cX7_setGrowth 54 = .ok (.aload_n 0, 1) := by decide +kernel
theorem dX7_setGrowth_55 : decode cX7_setGrowth 55 = .ok (.getfield 10, 3) := by decide +kernel
theorem dX7_setGrowth_58 : decode cX7_setGrowth 58 = .ok (.iload 4, 2) := by decide +kernel
theorem dX7_setGrowth_60 : decode cX7_setGrowth 60 = .ok (.invokevirtual 215, 3) := by decide +kernel
theorem dX7_setGrowth_63 : decode cX7_setGrowth 63 = .ok (.checkcast 47, 3) := by decide +kernel
theorem dX7_setGrowth_66 : decode cX7_setGrowth 66 = .ok (.invokevirtual 86, 3) := by decide +kernel
theorem dX7_setGrowth_69 : decode cX7_setGrowth 69 = .ok (.ifCond .ne 23, 3) := by decide +kernel
theorem dX7_setGrowth_72 : decode cX7_setGrowth 72 = .ok (.aload_n 0, 1) := by decide +kernel
theorem dX7_setGrowth_73 : decode cX7_setGrowth 73 = .ok (.getfield 25, 3) := by decide +kernel
theorem dX7_setGrowth_76 : decode cX7_setGrowth 76 = .ok (.getfield 211, 3) := by decide +kernel
theorem dX7_setGrowth_79 : decode cX7_setGrowth 79 = .ok (.iload_n 1, 1) := by decide +kernel
theorem dX7_setGrowth_80 : decode cX7_setGrowth 80 = .ok (.iload_n 3, 1) := by decide +kernel
theorem dX7_setGrowth_81 : decode cX7_setGrowth 81 = .ok (.iastore, 1) := by decide +kernel
theorem dX7_setGrowth_82 : decode cX7_setGrowth 82 = .ok (.new 40, 3) := by decide +kernel
theorem dX7_setGrowth_85 : decode cX7_setGrowth 85 = .ok (.dup, 1) := by decide +kernel
theorem dX7_setGrowth_86 : decode cX7_setGrowth 86 = .ok (.ldc 219, 2) := by decide +kernel
theorem dX7_setGrowth_88 : decode cX7_setGrowth 88 = .ok (.invokespecial 44, 3) := by decide +kernel
theorem dX7_setGrowth_91 : decode cX7_setGrowth 91 = .ok (.athrow, 1) := by decide +kernel
theorem dX7_setGrowth_92 : decode cX7_setGrowth 92 = .ok (.iinc 4 1, 3) := by decide +kernel
theorem dX7_setGrowth_95 : decode cX7_setGrowth 95 = .ok (.goto (-57), 3) := by decide +kernel
theorem dX7_setGrowth_98 : decode cX7_setGrowth 98 = .ok (.iconst 0, 1) := by decide +kernel
theorem dX7_setGrowth_99 : decode cX7_setGrowth 99 = .ok (.istore 4, 2) := by decide +kernel
theorem dX7_setGrowth_101 : decode cX7_setGrowth 101 = .ok (.iconst 0, 1) := by decide +kernel
theorem dX7_setGrowth_102 : decode cX7_setGrowth 102 = .ok (.istore 5, 2) := by decide +kernel
theorem dX7_setGrowth_104 : decode cX7_setGrowth 104 = .ok (.iload 5, 2) := by decide +kernel
theorem dX7_setGrowth_106 : decode cX7_setGrowth 106 = .ok (.aload_n 0, 1) := by decide +kernel
theorem dX7_setGrowth_107 : decode cX7_setGrowth 107 = .ok (.getfield 10, 3) := by decide +kernel
theorem dX7_setGrowth_110 : decode cX7_setGrowth 110 = .ok (.invokevirtual 36, 3) := by decide +kernel
theorem dX7_setGrowth_113 : decode cX7_setGrowth 113 = .ok (.if_icmp .ge 29, 3) := by decide +kernel
theorem dX7_setGrowth_116 : decode cX7_setGrowth 116 = .ok (.iload 4, 2) := by decide +kernel
theorem dX7_setGrowth_118 : decode cX7_setGrowth 118 = .ok (.aload_n 0, 1) := by decide +kernel
theorem dX7_setGrowth_119 : decode cX7_setGrowth 119 = .ok (.getfield 10, 3) := by decide +kernel
theorem dX7_setGrowth_122 : decode cX7_setGrowth 122 = .ok (.iload 5, 2) := by decide +kernel
theorem dX7_setGrowth_124 : decode cX7_setGrowth 124 = .ok (.invokevirtual 215, 3) := by decide +kernel
theorem dX7_setGrowth_127 : decode cX7_setGrowth 127 = .ok (.checkcast 47, 3) := by decide +kernel
theorem dX7_setGrowth_130 : decode cX7_setGrowth 130 = .ok (.invokevirtual 95, 3) := by decide +kernel
theorem dX7_setGrowth_133 : decode cX7_setGrowth 133 = .ok (.iadd, 1) := by decide +kernel
theorem dX7_setGrowth_134 : decode cX7_setGrowth 134 = .ok (.istore 4, 2) := by decide +kernel
theorem dX7_setGrowth_136 : decode cX7_setGrowth 136 = .ok (.iinc 5 1, 3) := by decide +kernel
theorem dX7_setGrowth_139 : decode cX7_setGrowth 139 = .ok (.goto (-35), 3) := by decide +kernel
theorem dX7_setGrowth_142 : decode cX7_setGrowth 142 = .ok (.iload 4, 2) := by decide +kernel
theorem dX7_setGrowth_144 : decode cX7_setGrowth 144 = .ok (.ireturn, 1) := by decide +kernel
theorem dX7_sheet_0 : decode cX7_sheet 0 = .ok (.aload_n 0, 1) := by decide +kernel
theorem dX7_sheet_1 : decode cX7_sheet 1 = .ok (.iload_n 1, 1) := by decide +kernel
theorem dX7_sheet_2 : decode cX7_sheet 2 = .ok (.invokevirtual 60, 3) := by decide +kernel
theorem dX7_sheet_5 : decode cX7_sheet 5 = .ok (.pop, 1) := by decide +kernel
theorem dX7_sheet_6 : decode cX7_sheet 6 = .ok (.iload_n 2, 1) := by decide +kernel
theorem dX7_sheet_7 : decode cX7_sheet 7 = .ok (.invokestatic 265, 3) := by decide +kernel
theorem dX7_sheet_10 : decode cX7_sheet 10 = .ok (.aload_n 0, 1) := by decide +kernel
theorem dX7_sheet_11 : decode cX7_sheet 11 = .ok (.iload_n 1, 1) := by decide +kernel
theorem dX7_sheet_12 : decode cX7_sheet 12 = .ok (.iload_n 2, 1) := by decide +kernel
theorem dX7_sheet_13 : decode cX7_sheet 13 = .ok (.invokevirtual 268, 3) := by decide +kernel
theorem dX7_sheet_16 : decode cX7_sheet 16 = .ok (.iload_n 2, 1) := by decide +kernel
theorem dX7_sheet_17 : decode cX7_sheet 17 = .ok (.invokestatic 275, 3) := by decide +kernel
theorem dX7_sheet_20 : decode cX7_sheet 20 = .ok (.istore_n 3, 1) := by decide +kernel
theorem dX7_sheet_21 : decode cX7_sheet 21 = .ok (.iload_n 3, 1) := by decide +kernel
theorem dX7_sheet_22 : decode cX7_sheet 22 = .ok (.iload_n 2, 1) := by decide +kernel
theorem dX7_sheet_23 : decode cX7_sheet 23 = .ok (.iconst 1, 1) := by decide +kernel
theorem dX7_sheet_24 : decode cX7_sheet 24 = .ok (.isub, 1) := by decide +kernel
theorem dX7_sheet_25 : decode cX7_sheet 25 = .ok (.iload_n 3, 1) := by decide +kernel
theorem dX7_sheet_26 : decode cX7_sheet 26 = .ok (.isub, 1) := by decide +kernel
theorem dX7_sheet_27 : decode cX7_sheet 27 = .ok (.invokestatic 278, 3) := by decide +kernel
theorem dX7_sheet_30 : decode cX7_sheet 30 = .ok (.ireturn, 1) := by decide +kernel
theorem dX7_spread_0 : decode cX7_spread 0 = .ok (.aload_n 0, 1) := by decide +kernel
theorem dX7_spread_1 : decode cX7_spread 1 = .ok (.iload_n 1, 1) := by decide +kernel
theorem dX7_spread_2 : decode cX7_spread 2 = .ok (.invokevirtual 60, 3) := by decide +kernel
theorem dX7_spread_5 : decode cX7_spread 5 = .ok (.astore_n 2, 1) := by decide +kernel
theorem dX7_spread_6 : decode cX7_spread 6 = .ok (.iload_n 1, 1) := by decide +kernel
theorem dX7_spread_7 : decode cX7_spread 7 = .ok (.aload_n 0, 1) := by decide +kernel
theorem dX7_spread_8 : decode cX7_spread 8 = .ok (.getfield 10, 3) := by decide +kernel
theorem dX7_spread_11 : decode cX7_spread 11 = .ok (.invokevirtual 36, 3) := by decide +kernel
theorem dX7_spread_14 : decode cX7_spread 14 = .ok (.iconst 2, 1) := by decide +kernel
theorem dX7_spread_15 : decode cX7_spread 15 = .ok (.isub, 1) := by decide +kernel
theorem dX7_spread_16 : decode cX7_spread 16 = .ok (.invokestatic 67, 3) := by decide +kernel
theorem dX7_spread_19 : decode cX7_spread 19 = .ok (.aload_n 0, 1) := by decide +kernel
theorem dX7_spread_20 : decode cX7_spread 20 = .ok (.iload_n 1, 1) := by decide +kernel
theorem dX7_spread_21 : decode cX7_spread 21 = .ok (.iconst 1, 1) := by decide +kernel
theorem dX7_spread_22 : decode cX7_spread 22 = .ok (.isub, 1) := by decide +kernel
theorem dX7_spread_23 : decode cX7_spread 23 = .ok (.invokevirtual 256, 3) := by decide +kernel
theorem dX7_spread_26 : decode cX7_spread 26 = .ok (.ifCond .ne 13, 3) := by decide +kernel
theorem dX7_spread_29 : decode cX7_spread 29 = .ok (.aload_n 0, 1) := by decide +kernel
theorem dX7_spread_30 : decode cX7_spread 30 = .ok (.iload_n 1, 1) := by decide +kernel
theorem dX7_spread_31 : decode cX7_spread 31 = .ok (.iconst 1, 1) := by decide +kernel
theorem dX7_spread_32 : decode cX7_spread 32 = .ok (.iadd, 1) := by decide +kernel
theorem dX7_spread_33 : decode cX7_spread 33 = .ok (.invokevirtual 256, 3) := by decide +kernel
theorem dX7_spread_36 : decode cX7_spread 36 = .ok (.ifCond .eq 14, 3) := by decide +kernel
theorem dX7_spread_39 : decode cX7_spread 39 = .ok (.new 40, 3) := by decide +kernel
theorem dX7_spread_42 : decode cX7_spread 42 = .ok (.dup, 1) := by decide +kernel
theorem dX7_spread_43 : decode cX7_spread 43 = .ok (.ldc_w 260, 3) := by decide +kernel
theorem dX7_spread_46 : decode cX7_spread 46 = .ok (.invokespecial 44, 3) := by decide +kernel
theorem dX7_spread_49 : decode cX7_spread 49 = .ok (.athrow, 1) := by decide +kernel
theorem dX7_spread_50 : decode cX7_spread 50 = .ok (.aload_n 2, 1) := by decide +kernel
theorem dX7_spread_51 : decode cX7_spread 51 = .ok (.aload_n 2, 1) := by decide +kernel
theorem dX7_spread_52 : decode cX7_spread 52 = .ok (.getfield 262, 3) := by decide +kernel
theorem dX7_spread_55 : decode cX7_spread 55 = .ok (.ifCond .ne 7, 3) := by decide +kernel
theorem dX7_spread_58 : decode cX7_spread 58 = .ok (.iconst 1, 1) := by decide +kernel
theorem dX7_spread_59 : decode cX7_spread 59 = .ok (.goto 4, 3) := by decide +kernel
theorem dX7_spread_62 : decode cX7_spread 62 = .ok (.iconst 0, 1) := by decide +kernel
theorem dX7_spread_63 : decode cX7_spread 63 = .ok (.putfield 262, 3) := by decide +kernel
theorem dX7_spread_66 : decode cX7_spread 66 = .ok (.aload_n 2, 1) := by decide +kernel
theorem dX7_spread_67 : decode cX7_spread 67 = .ok (.getfield 262, 3) := by decide +kernel
theorem dX7_spread_70 : decode cX7_spread 70 = .ok (.ireturn, 1) := by decide +kernel
theorem dX7_translate_0 : decode cX7_translate 0 = .ok (.aload_n 0, 1) := by decide +kernel
theorem dX7_translate_1 : decode cX7_translate 1 = .ok (.iload_n 1, 1) := by decide +kernel
theorem dX7_translate_2 : decode cX7_translate 2 = .ok (.invokevirtual 60, 3) := by decide +kernel
theorem dX7_translate_5 : decode cX7_translate 5 = .ok (.astore_n 3, 1) := by decide +kernel
theorem dX7_translate_6 : decode cX7_translate 6 = .ok (.iload_n 2, 1) := by decide +kernel
theorem dX7_translate_7 : decode cX7_translate 7 = .ok (.iconst 0, 1) := by decide +kernel
theorem dX7_translate_8 : decode cX7_translate 8 = .ok (.iconst 2, 1) := by decide +kernel
theorem dX7_translate_9 : decode cX7_translate 9 = .ok (.invokestatic 71, 3) := by decide +kernel
theorem dX7_translate_12 : decode cX7_translate 12 = .ok (.aload_n 3, 1) := by decide +kernel
theorem dX7_translate_13 : decode cX7_translate 13 = .ok (.getfield 208, 3) := by decide +kernel
theorem dX7_translate_16 : decode cX7_translate 16 = .ok (.istore 4, 2) := by decide +kernel
theorem dX7_translate_18 : decode cX7_translate 18 = .ok (.aload_n 3, 1) := by decide +kernel
theorem dX7_translate_19 : decode cX7_translate 19 = .ok (.iload_n 2, 1) := by decide +kernel
theorem dX7_translate_20 : decode cX7_translate 20 = .ok (.putfield 208, 3) := by decide +kernel
theorem dX7_translate_23 : decode cX7_translate 23 = .ok (.aload_n 0, 1) := by decide +kernel
theorem dX7_translate_24 : decode cX7_translate 24 = .ok (.getfield 25, 3) := by decide +kernel
theorem dX7_translate_27 : decode cX7_translate 27 = .ok (.aload_n 3, 1) := by decide +kernel
theorem dX7_translate_28 : decode cX7_translate 28 = .ok (.invokevirtual 86, 3) := by decide +kernel
theorem dX7_translate_31 : decode cX7_translate 31 = .ok (.ifCond .ne 19, 3) := by decide +kernel
theorem dX7_translate_34 : decode cX7_translate 34 = .ok (.aload_n 3, 1) := by decide +kernel
theorem dX7_translate_35 : decode cX7_translate 35 = .ok (.iload 4, 2) := by decide +kernel
theorem dX7_translate_37 : decode cX7_translate 37 = .ok (.putfield 208, 3) := by decide +kernel
theorem dX7_translate_40 : decode cX7_translate 40 = .ok (.new 40, 3) := by decide +kernel
theorem dX7_translate_43 : decode cX7_translate 43 = .ok (.dup, 1) := by decide +kernel
theorem dX7_translate_44 : decode cX7_translate 44 = .ok (.ldc 93, 2) := by decide +kernel
theorem dX7_translate_46 : decode cX7_translate 46 = .ok (.invokespecial 44, 3) := by decide +kernel
theorem dX7_translate_49 : decode cX7_translate 49 = .ok (.athrow, 1) := by decide +kernel
theorem dX7_translate_50 : decode cX7_translate 50 = .ok (.aload_n 3, 1) := by decide +kernel
theorem dX7_translate_51 : decode cX7_translate 51 = .ok (.invokevirtual 95, 3) := by decide +kernel
theorem dX7_translate_54 : decode cX7_translate 54 = .ok (.ireturn, 1) := by decide +kernel
theorem dX7_turned_0 : decode cX7_turned 0 = .ok (.iload_n 3, 1) := by decide +kernel
theorem dX7_turned_1 : decode cX7_turned 1 = .ok (.ifCond .eq 11, 3) := by decide +kernel
theorem dX7_turned_4 : decode cX7_turned 4 = .ok (.iload_n 2, 1) := by decide +kernel
theorem dX7_turned_5 : decode cX7_turned 5 = .ok (.iload_n 0, 1) := by decide +kernel
theorem dX7_turned_6 : decode cX7_turned 6 = .ok (.isub, 1) := by decide +kernel
theorem dX7_turned_7 : decode cX7_turned 7 = .ok (.iload_n 1, 1) := by decide +kernel
theorem dX7_turned_8 : decode cX7_turned 8 = .ok (.isub, 1) := by decide +kernel
theorem dX7_turned_9 : decode cX7_turned 9 = .ok (.goto 4, 3) := by decide +kernel
theorem dX7_turned_12 : decode cX7_turned 12 = .ok (.iload_n 0, 1) := by decide +kernel
theorem dX7_turned_13 : decode cX7_turned 13 = .ok (.ireturn, 1) := by decide +kernel
theorem dX8_answer_0 : decode cX8_answer 0 = .ok (.aload_n 0, 1) := by decide +kernel
theorem dX8_answer_1 : decode cX8_answer 1 = .ok (.aload_n 0, 1) := by decide +kernel
theorem dX8_answer_2 : decode cX8_answer 2 = .ok (.iload_n 1, 1) := by decide +kernel
theorem dX8_answer_3 : decode cX8_answer 3 = .ok (.invokevirtual 205, 3) := by decide +kernel
theorem dX8_answer_6 : decode cX8_answer 6 = .ok (.ifCond .eq 16, 3) := by decide +kernel
theorem dX8_answer_9 : decode cX8_answer 9 = .ok (.iload_n 2, 1) := by decide +kernel
theorem dX8_answer_10 : decode cX8_answer 10 = .ok (.iconst (-1), 1) := by decide +kernel
theorem dX8_answer_11 : decode cX8_answer 11 = .ok (.if_icmp .eq 15, 3) := by decide +kernel
theorem dX8_answer_14 : decode cX8_answer 14 = .ok (.aload_n 0, 1) := by decide +kernel
theorem dX8_answer_15 : decode cX8_answer 15 = .ok (.iload_n 2, 1) := by decide +kernel
theorem dX8_answer_16 : decode cX8_answer 16 = .ok (.invokevirtual 205, 3) := by decide +kernel
theorem dX8_answer_19 : decode cX8_answer 19 = .ok (.ifCond .ne 7, 3) := by decide +kernel
theorem dX8_answer_22 : decode cX8_answer 22 = .ok (.iconst 1, 1) := by decide +kernel
theorem dX8_answer_23 : decode cX8_answer 23 = .ok (.goto 4, 3) := by decide +kernel
theorem dX8_answer_26 : decode cX8_answer 26 = .ok (.iconst 0, 1) := by decide +kernel
theorem dX8_answer_27 : decode cX8_answer 27 = .ok (.putfield 108, 3) := by decide +kernel
theorem dX8_answer_30 : decode cX8_answer 30 = .ok (.aload_n 0, 1) := by decide +kernel
theorem dX8_answer_31 : decode cX8_answer 31 = .ok (.getfield 108, 3) := by decide +kernel
theorem dX8_answer_34 : decode cX8_answer 34 = .ok (.ifCond .le 5, 3) := by decide +kernel
theorem dX8_answer_37 : decode cX8_answer 37 = .ok (.iconst 0, 1) := by decide +kernel
theorem dX8_answer_38 : decode cX8_answer 38 = .ok (.ireturn, 1) := by decide +kernel
theorem dX8_answer_39 : decode cX8_answer 39 = .ok (.iload_n 2, 1) := by decide +kernel
theorem dX8_answer_40 : decode cX8_answer 40 = .ok (.iconst (-1), 1) := by decide +kernel
theorem dX8_answer_41 : decode cX8_answer 41 = .ok (.if_icmp .eq 18, 3) := by decide +kernel
theorem dX8_answer_44 : decode cX8_answer 44 = .ok (.aload_n 0, 1) := by decide +kernel
theorem dX8_answer_45 : decode cX8_answer 45 = .ok (.iload_n 2, 1) := by decide +kernel
theorem dX8_answer_46 : decode cX8_answer 46 = .ok (.iload_n 1, 1) := by decide +kernel
theorem dX8_answer_47 : decode cX8_answer 47 = .ok (.invokevirtual 158, 3) := by decide +kernel
theorem dX8_answer_50 : decode cX8_answer 50 = .ok (.ifCond .ne 9, 3) := by decide +kernel
theorem dX8_answer_53 : decode cX8_answer 53 = .ok (.aload_n 0, 1) := by decide +kernel
theorem dX8_answer_54 : decode cX8_answer 54 = .ok (.iconst 2, 1) := by decide +kernel
theorem dX8_answer_55 : decode cX8_answer 55 = .ok (.invokevirtual 176, 3) := by decide +kernel
theorem dX8_answer_58 : decode cX8_answer 58 = .ok (.ireturn, 1) := by decide +kernel
theorem dX8_answer_59 : decode cX8_answer 59 = .ok (.aload_n 0, 1) := by decide +kernel
theorem dX8_answer_60 : decode cX8_answer 60 = .ok (.getfield 56, 3) := by decide +kernel
theorem dX8_answer_63 : decode cX8_answer 63 = .ok (.iload_n 1, 1) := by decide +kernel
theorem dX8_answer_64 : decode cX8_answer 64 = .ok (.iaload, 1) := by decide +kernel
theorem dX8_answer_65 : decode cX8_answer 65 = .ok (.istore_n 3, 1) := by decide +kernel
theorem dX8_answer_66 : decode cX8_answer 66 = .ok (.aload_n 0, 1) := by decide +kernel
theorem dX8_answer_67 : decode cX8_answer 67 = .ok (.getfield 56, 3) := by decide +kernel
theorem dX8_answer_70 : decode cX8_answer 70 = .ok (.iload_n 1, 1) := by decide +kernel
theorem dX8_answer_71 : decode cX8_answer 71 = .ok (.iload_n 2, 1) := by decide +kernel
theorem dX8_answer_72 : decode cX8_answer 72 = .ok (.iastore, 1) := by decide +kernel
theorem dX8_answer_73 : decode cX8_answer 73 = .ok (.iload_n 3, 1) := by decide +kernel
theorem dX8_answer_74 : decode cX8_answer 74 = .ok (.ireturn, 1) := by decide +kernel
theorem dX8_areAnswered_0 : decode cX8_areAnswered 0 = .ok (.iconst 1, 1) := by decide +kernel
theorem dX8_areAnswered_1 : decode cX8_areAnswered 1 = .ok (.istore_n 1, 1) := by decide +kernel
theorem dX8_areAnswered_2 : decode cX8_areAnswered 2 = .ok (.iconst 0, 1) := by decide +kernel
theorem dX8_areAnswered_3 : decode cX8_areAnswered 3 = .ok (.istore_n 2, 1) := by decide +kernel
theorem dX8_areAnswered_4 : decode cX8_areAnswered 4 = .ok (.iload_n 2, 1) := by decide +kernel
theorem dX8_areAnswered_5 : decode cX8_areAnswered 5 = .ok (.aload_n 0, 1) := by decide +kernel
theorem dX8_areAnswered_6 : decode cX8_areAnswered 6 = .ok (.getfield 121, 3) := by decide +kernel
theorem dX8_areAnswered_9 : decode cX8_areAnswered 9 = .ok (.if_icmp .ge 53, 3) := by decide +kernel
theorem dX8_areAnswered_12 : decode cX8_areAnswered 12 = .ok (.iload_n 1, 1) := by decide +kernel
theorem dX8_areAnswered_13 : decode cX8_areAnswered 13 = .ok (.ifCond .eq 41, 3) := by decide +kernel
theorem dX8_areAnswered_16 : decode cX8_areAnswered 16 = .ok (.aload_n 0, 1) := by decide +kernel
theorem dX8_areAnswered_17 : decode cX8_areAnswered 17 = .ok (.getfield 50, 3) := by decide +kernel
theorem dX8_areAnswered_20 : decode cX8_areAnswered 20 = .ok (.iload_n 2, 1) := by decide +kernel
theorem dX8_areAnswered_21 : decode cX8_areAnswered 21 = .ok (.iaload, 1) := by decide +kernel
theorem dX8_areAnswered_22 : decode cX8_areAnswered 22 = .ok (.iconst (-1), 1) := by decide +kernel
theorem dX8_areAnswered_23 : decode cX8_areAnswered 23 = .ok (.if_icmp .eq 27, 3) := by decide +kernel
theorem dX8_areAnswered_26 : decode cX8_areAnswered 26 = .ok (.aload_n 0, 1) := by decide +kernel
theorem dX8_areAnswered_27 : decode cX8_areAnswered 27 = .ok (.getfield 56, 3) := by decide +kernel
theorem dX8_areAnswered_30 : decode cX8_areAnswered 30 = .ok (.iload_n 2, 1) := by decide +kernel
theorem dX8_areAnswered_31 : decode cX8_areAnswered 31 = .ok (.iaload, 1) := by decide +kernel
theorem dX8_areAnswered_32 : decode cX8_areAnswered 32 = .ok (.iconst (-1), 1) := by decide +kernel
theorem dX8_areAnswered_33 : decode cX8_areAnswered 33 = .ok (.if_icmp .eq 17, 3) := by decide +kernel
theorem dX8_areAnswered_36 : decode cX8_areAnswered 36 = .ok (.aload_n 0, 1) := by decide +kernel
theorem dX8_areAnswered_37 : decode cX8_areAnswered 37 = .ok (.aload_n 0, 1) := by decide +kernel
theorem dX8_areAnswered_38 : decode cX8_areAnswered 38 = .ok (.getfield 56, 3) := by decide +kernel
theorem dX8_areAnswered_41 : decode cX8_areAnswered 41 = .ok (.iload_n 2, 1) := by decide +kernel
theorem dX8_areAnswered_42 : decode cX8_areAnswered 42 = .ok (.iaload, 1) := by decide +kernel
theorem dX8_areAnswered_43 : decode cX8_areAnswered 43 = .ok (.iload_n 2, 1) := by decide +kernel
theorem dX8_areAnswered_44 : decode cX8_areAnswered 44 = .ok (.invokevirtual 158, 3) := by decide +kernel
theorem dX8_areAnswered_47 : decode cX8_areAnswered 47 = .ok (.ifCond .eq 7, 3) := by decide +kernel
theorem dX8_areAnswered_50 : decode cX8_areAnswered 50 = .ok (.iconst 1, 1) := by decide +kernel
theorem dX8_areAnswered_51 : decode cX8_areAnswered 51 = .ok (.goto 4, 3) := by decide +kernel
theorem dX8_areAnswered_54 : decode cX8_areAnswered 54 = .ok (.iconst 0, 1) := by decide +kernel
theorem dX8_areAnswered_55 : decode cX8_areAnswered 55 = .ok (.istore_n 1, 1) := by decide +kernel
theorem dX8_areAnswered_56 : decode cX8_areAnswered 56 = .ok (.iinc 2 1, 3) := by decide +kernel
theorem dX8_areAnswered_59 : decode cX8_areAnswered 59 = .ok (.goto (-55), 3) := by decide +kernel
theorem dX8_areAnswered_62 : decode cX8_areAnswered 62 = .ok (.iload_n 1, 1) := by decide +kernel
theorem dX8_areAnswered_63 : decode cX8_areAnswered 63 = .ok (.ireturn, 1) := by decide +kernel
theorem dX8_back_0 : decode cX8_back 0 = .ok (.aload_n 0, 1) := by decide +kernel
theorem dX8_back_1 : decode cX8_back 1 = .ok (.iconst 0, 1) := by decide +kernel
theorem dX8_back_2 : decode cX8_back 2 = .ok (.putfield 108, 3) := by decide +kernel
theorem dX8_back_5 : decode cX8_back 5 = .ok (.aload_n 0, 1) := by decide +kernel
theorem dX8_back_6 : decode cX8_back 6 = .ok (.getfield 202, 3) := by decide +kernel
theorem dX8_back_9 : decode cX8_back 9 = .ok (.ifCond .ne 5, 3) := by decide +kernel
theorem dX8_back_12 : decode cX8_back 12 = .ok (.iconst (-1), 1) := by decide +kernel
theorem dX8_back_13 : decode cX8_back 13 = .ok (.ireturn, 1) := by decide +kernel
theorem dX8_back_14 : decode cX8_back 14 = .ok (.aload_n 0, 1) := by decide +kernel
theorem dX8_back_15 : decode cX8_back 15 = .ok (.dup, 1) := by decide +kernel
theorem dX8_back_16 : decode cX8_back 16 = .ok (.getfield 202, 3) := by decide +kernel
theorem dX8_back_19 : decode cX8_back 19 = .ok (.iconst 1, 1) := by decide +kernel
theorem dX8_back_20 : decode cX8_back 20 = .ok (.isub, 1) := by decide +kernel
theorem dX8_back_21 : decode cX8_back 21 = .ok (.putfield 202, 3) := by decide +kernel
theorem dX8_back_24 : decode cX8_back 24 = .ok (.aload_n 0, 1) := by decide +kernel
theorem dX8_back_25 : decode cX8_back 25 = .ok (.aload_n 0, 1) := by decide +kernel
theorem dX8_back_26 : decode cX8_back 26 = .ok (.getfield 105, 3) := by decide +kernel
theorem dX8_back_29 : decode cX8_back 29 = .ok (.aload_n 0, 1) := by decide +kernel
theorem dX8_back_30 : decode cX8_back 30 = .ok (.getfield 202, 3) := by decide +kernel
theorem dX8_back_33 : decode cX8_back 33 = .ok (.iaload, 1) := by decide +kernel
theorem dX8_back_34 : decode cX8_back 34 = .ok (.putfield 101, 3) := by decide +kernel
theorem dX8_back_37 : decode cX8_back 37 = .ok (.aload_n 0, 1) := by decide +kernel
theorem dX8_back_38 : decode cX8_back 38 = .ok (.getfield 101, 3) := by decide +kernel
theorem dX8_back_41 : decode cX8_back 41 = .ok (.ireturn, 1) := by decide +kernel
theorem dX8_balloon_0 : decode cX8_balloon 0 = .ok (.aload_n 0, 1) := by decide +kernel
theorem dX8_balloon_1 : decode cX8_balloon 1 = .ok (.iload_n 1, 1) := by decide +kernel
theorem dX8_balloon_2 : decode cX8_balloon 2 = .ok (.invokevirtual 189, 3) := by decide +kernel
theorem dX8_balloon_5 : decode cX8_balloon 5 = .ok (.ifCond .eq 17, 3) := by decide +kernel
theorem dX8_balloon_8 : decode cX8_balloon 8 = .ok (.iload_n 2, 1) := by decide +kernel
theorem dX8_balloon_9 : decode cX8_balloon 9 = .ok (.iconst 0, 1) := by decide +kernel
theorem dX8_balloon_10 : decode cX8_balloon 10 = .ok (.aload_n 0, 1) := by decide +kernel
theorem dX8_balloon_11 : decode cX8_balloon 11 = .ok (.getfield 44, 3) := by decide +kernel
theorem dX8_balloon_14 : decode cX8_balloon 14 = .ok (.iload_n 1, 1) := by decide +kernel
theorem dX8_balloon_15 : decode cX8_balloon 15 = .ok (.iaload, 1) := by decide +kernel
theorem dX8_balloon_16 : decode cX8_balloon 16 = .ok (.invokestatic 114, 3) := by decide +kernel
theorem dX8_balloon_19 : decode cX8_balloon 19 = .ok (.ifCond .ne 9, 3) := by decide +kernel
theorem dX8_balloon_22 : decode cX8_balloon 22 = .ok (.aload_n 0, 1) := by decide +kernel
theorem dX8_balloon_23 : decode cX8_balloon 23 = .ok (.iconst 1, 1) := by decide +kernel
theorem dX8_balloon_24 : decode cX8_balloon 24 = .ok (.invokevirtual 176, 3) := by decide +kernel
theorem dX8_balloon_27 : decode cX8_balloon 27 = .ok (.ireturn, 1) := by decide +kernel
theorem dX8_balloon_28 : decode cX8_balloon 28 = .ok (.aload_n 0, 1) := by decide +kernel
theorem dX8_balloon_29 : decode cX8_balloon 29 = .ok (.iload_n 3, 1) := by decide +kernel
theorem dX8_balloon_30 : decode cX8_balloon 30 = .ok (.iconst 1, 1) := by decide +kernel
theorem dX8_balloon_31 : decode cX8_balloon 31 = .ok (.bipush 60, 2) := by decide +kernel
theorem dX8_balloon_33 : decode cX8_balloon 33 = .ok (.invokestatic 114, 3) := by decide +kernel
theorem dX8_balloon_36 : decode cX8_balloon 36 = .ok (.ifCond .ne 7, 3) := by decide +kernel
theorem dX8_balloon_39 : decode cX8_balloon 39 = .ok (.iconst 2, 1) := by decide +kernel
theorem dX8_balloon_40 : decode cX8_balloon 40 = .ok (.goto 27, 3) := by decide +kernel
theorem dX8_balloon_43 : decode cX8_balloon 43 = .ok (.aload_n 0, 1) := by decide +kernel
theorem dX8_balloon_44 : decode cX8_balloon 44 = .ok (.getfield 44, 3) := by decide +kernel
theorem dX8_balloon_47 : decode cX8_balloon 47 = .ok (.iload_n 1, 1) := by decide +kernel
theorem dX8_balloon_48 : decode cX8_balloon 48 = .ok (.iaload, 1) := by decide +kernel
theorem dX8_balloon_49 : decode cX8_balloon 49 = .ok (.iconst 4, 1) := by decide +kernel
theorem dX8_balloon_50 : decode cX8_balloon 50 = .ok (.if_icmp .eq 12, 3) := by decide +kernel
theorem dX8_balloon_53 : decode cX8_balloon 53 = .ok (.aload_n 0, 1) := by decide +kernel
theorem dX8_balloon_54 : decode cX8_balloon 54 = .ok (.getfield 121, 3) := by decide +kernel
theorem dX8_balloon_57 : decode cX8_balloon 57 = .ok (.bipush 80, 2) := by decide +kernel
theorem dX8_balloon_59 : decode cX8_balloon 59 = .ok (.if_icmp .ne 7, 3) := by decide +kernel
theorem dX8_balloon_62 : decode cX8_balloon 62 = .ok (.iconst 3, 1) := by decide +kernel
theorem dX8_balloon_63 : decode cX8_balloon 63 = .ok (.goto 4, 3) := by decide +kernel
theorem dX8_balloon_66 : decode cX8_balloon 66 = .ok (.iconst 0, 1) := by decide +kernel
theorem dX8_balloon_67 : decode cX8_balloon 67 = .ok (.putfield 108, 3) := by decide +kernel
theorem dX8_balloon_70 : decode cX8_balloon 70 = .ok (.aload_n 0, 1) := by decide +kernel
theorem dX8_balloon_71 : decode cX8_balloon 71 = .ok (.getfield 108, 3) := by decide +kernel
theorem dX8_balloon_74 : decode cX8_balloon 74 = .ok (.ifCond .le 5, 3) := by decide +kernel
theorem dX8_balloon_77 : decode cX8_balloon 77 = .ok (.iconst 0, 1) := by decide +kernel
theorem dX8_balloon_78 : decode cX8_balloon 78 = .ok (.ireturn, 1) := by decide +kernel
theorem dX8_balloon_79 : decode cX8_balloon 79 = .ok (.aload_n 0, 1) := by decide +kernel
theorem dX8_balloon_80 : decode cX8_balloon 80 = .ok (.invokevirtual 179, 3) := by decide +kernel
theorem dX8_balloon_83 : decode cX8_balloon 83 = .ok (.aload_n 0, 1) := by decide +kernel
theorem dX8_balloon_84 : decode cX8_balloon 84 = .ok (.getfield 50, 3) := by decide +kernel
theorem dX8_balloon_87 : decode cX8_balloon 87 = .ok (.aload_n 0, 1) := by decide +kernel
theorem dX8_balloon_88 : decode cX8_balloon 88 = .ok (.getfield 121, 3) := by decide +kernel
theorem dX8_balloon_91 : decode cX8_balloon 91 = .ok (.iload_n 1, 1) := by decide +kernel
theorem dX8_balloon_92 : decode cX8_balloon 92 = .ok (.iastore, 1) := by decide +kernel
theorem dX8_balloon_93 : decode cX8_balloon 93 = .ok (.aload_n 0, 1) := by decide +kernel
theorem dX8_balloon_94 : decode cX8_balloon 94 = .ok (.getfield 53, 3) := by decide +kernel
theorem dX8_balloon_97 : decode cX8_balloon 97 = .ok (.aload_n 0, 1) := by decide +kernel
theorem dX8_balloon_98 : decode cX8_balloon 98 = .ok (.getfield 121, 3) := by decide +kernel
theorem dX8_balloon_101 : decode cX8_balloon 101 = .ok (.iload_n 3, 1) := by decide +kernel
theorem dX8_balloon_102 : decode cX8_balloon 102 = .ok (.iastore, 1) := by decide +kernel
theorem dX8_balloon_103 : decode cX8_balloon 103 = .ok (.aload_n 0, 1) := by decide +kernel
theorem dX8_balloon_104 : decode cX8_balloon 104 = .ok (.getfield 56, 3) := by decide +kernel
theorem dX8_balloon_107 : decode cX8_balloon 107 = .ok (.aload_n 0, 1) := by decide +kernel
theorem dX8_balloon_108 : decode cX8_balloon 108 = .ok (.getfield 121, 3) := by decide +kernel
theorem dX8_balloon_111 : decode cX8_balloon 111 = .ok (.iconst (-1), 1) := by decide +kernel
theorem dX8_balloon_112 : decode cX8_balloon 112 = .ok (.iastore, 1) := by decide +kernel
theorem dX8_balloon_113 : decode cX8_balloon 113 = .ok (.aload_n 0, 1) := by decide +kernel
theorem dX8_balloon_114 : decode cX8_balloon 114 = .ok (.getfield 47, 3) := by decide +kernel
theorem dX8_balloon_117 : decode cX8_balloon 117 = .ok (.iconst 4, 1) := by decide +kernel
theorem dX8_balloon_118 : decode cX8_balloon 118 = .ok (.iload_n 1, 1) := by decide +kernel
theorem dX8_balloon_119 : decode cX8_balloon 119 = .ok (.imul, 1) := by decide +kernel
theorem dX8_balloon_120 : decode cX8_balloon 120 = .ok (.aload_n 0, 1) := by decide +kernel
theorem dX8_balloon_121 : decode cX8_balloon 121 = .ok (.getfield 44, 3) := by decide +kernel
theorem dX8_balloon_124 : decode cX8_balloon 124 = .ok (.iload_n 1, 1) := by decide +kernel
theorem dX8_balloon_125 : decode cX8_balloon 125 = .ok (.iaload, 1) := by decide +kernel
theorem dX8_balloon_126 : decode cX8_balloon 126 = .ok (.iload_n 2, 1) := by decide +kernel
theorem dX8_balloon_127 : decode cX8_balloon 127 = .ok (.aload_n 0, 1) := by decide +kernel
theorem dX8_balloon_128 : decode cX8_balloon 128 = .ok (.getfield 121, 3) := by decide +kernel
theorem dX8_balloon_131 : decode cX8_balloon 131 = .ok (.invokestatic 182, 3) := by decide +kernel
theorem dX8_balloon_134 : decode cX8_balloon 134 = .ok (.aload_n 0, 1) := by decide +kernel
theorem dX8_balloon_135 : decode cX8_balloon 135 = .ok (.getfield 44, 3) := by decide +kernel
theorem dX8_balloon_138 : decode cX8_balloon 138 = .ok (.iload_n 1, 1) := by decide +kernel
theorem dX8_balloon_139 : decode cX8_balloon 139 = .ok (.dup2, 1) := by decide +kernel
theorem dX8_balloon_140 : decode cX8_balloon 140 = .ok (.iaload, 1) := by decide +kernel
theorem dX8_balloon_141 : decode cX8_balloon 141 = .ok (.iconst 1, 1) := by decide +kernel
theorem dX8_balloon_142 : decode cX8_balloon 142 = .ok (.iadd, 1) := by decide +kernel
theorem dX8_balloon_143 : decode cX8_balloon 143 = .ok (.iastore, 1) := by decide +kernel
theorem dX8_balloon_144 : decode cX8_balloon 144 = .ok (.aload_n 0, 1) := by decide +kernel
theorem dX8_balloon_145 : decode cX8_balloon 145 = .ok (.dup, 1) := by decide +kernel
theorem dX8_balloon_146 : decode cX8_balloon 146 = .ok (.getfield 121, 3) := by decide +kernel
theorem dX8_balloon_149 : decode cX8_balloon 149 = .ok (.iconst 1, 1) := by decide +kernel
theorem dX8_balloon_150 : decode cX8_balloon 150 = .ok (.iadd, 1) := by decide +kernel
theorem dX8_balloon_151 : decode cX8_balloon 151 = .ok (.putfield 121, 3) := by decide +kernel
theorem dX8_balloon_154 : decode cX8_balloon 154 = .ok (.aload_n 0, 1) := by decide +kernel
theorem dX8_balloon_155 : decode cX8_balloon 155 = .ok (.invokevirtual 186, 3) := by decide +kernel
theorem dX8_balloon_158 : decode cX8_balloon 158 = .ok (.ifCond .ne 19, 3) := by decide +kernel
theorem dX8_balloon_161 : decode cX8_balloon 161 = .ok (.aload_n 0, 1) := by decide +kernel
theorem dX8_balloon_162 : decode cX8_balloon 162 = .ok (.dup, 1) := by decide +kernel
theorem dX8_balloon_163 : decode cX8_balloon 163 = .ok (.getfield 121, 3) := by decide +kernel
theorem dX8_balloon_166 : decode cX8_balloon 166 = .ok (.iconst 1, 1) := by decide +kernel
theorem dX8_balloon_167 : decode cX8_balloon 167 = .ok (.isub, 1) := by decide +kernel
theorem dX8_balloon_168 : decode cX8_balloon 168 = .ok (.putfield 121, 3) := by decide +kernel
theorem dX8_balloon_171 : decode cX8_balloon 171 = .ok (.aload_n 0, 1) := by decide +kernel
theorem dX8_balloon_172 : decode cX8_balloon 172 = .ok (.iconst 3, 1) := by decide +kernel
theorem dX8_balloon_173 : decode cX8_balloon 173 = .ok (.invokevirtual 176, 3) := by decide +kernel
theorem dX8_balloon_176 : decode cX8_balloon 176 = .ok (.ireturn, 1) := by decide +kernel
theorem dX8_balloon_177 : decode cX8_balloon 177 = .ok (.aload_n 0, 1) := by decide +kernel
theorem dX8_balloon_178 : decode cX8_balloon 178 = .ok (.getfield 121, 3) := by decide +kernel
theorem dX8_balloon_181 : decode cX8_balloon 181 = .ok (.iconst 1, 1) := by decide +kernel
theorem dX8_balloon_182 : decode cX8_balloon 182 = .ok (.isub, 1) := by decide +kernel
theorem dX8_balloon_183 : decode cX8_balloon 183 = .ok (.ireturn, 1) := by decide +kernel
theorem dX8_balloons_0 : decode cX8_balloons 0 = .ok (.aload_n 0, 1) := by decide +kernel
theorem dX8_balloons_1 : decode cX8_balloons 1 = .ok (.iconst 0, 1) := by decide +kernel
theorem dX8_balloons_2 : decode cX8_balloons 2 = .ok (.putfield 108, 3) := by decide +kernel
theorem dX8_balloons_5 : decode cX8_balloons 5 = .ok (.iconst 0, 1) := by decide +kernel
theorem dX8_balloons_6 : decode cX8_balloons 6 = .ok (.istore_n 1, 1) := by decide +kernel
theorem dX8_balloons_7 : decode cX8_balloons 7 = .ok (.iconst 0, 1) := by decide +kernel
theorem dX8_balloons_8 : decode cX8_balloons 8 = .ok (.istore_n 2, 1) := by decide +kernel
theorem dX8_balloons_9 : decode cX8_balloons 9 = .ok (.iload_n 2, 1) := by decide +kernel
theorem dX8_balloons_10 : decode cX8_balloons 10 = .ok (.aload_n 0, 1) := by decide +kernel
theorem dX8_balloons_11 : decode cX8_balloons 11 = .ok (.getfield 121, 3) := by decide +kernel
theorem dX8_balloons_14 : decode cX8_balloons 14 = .ok (.if_icmp .ge 27, 3) := by decide +kernel
theorem dX8_balloons_17 : decode cX8_balloons 17 = .ok (.iload_n 1, 1) := by decide +kernel
theorem dX8_balloons_18 : decode cX8_balloons 18 = .ok (.aload_n 0, 1) := by decide +kernel
theorem dX8_balloons_19 : decode cX8_balloons 19 = .ok (.getfield 50, 3) := by decide +kernel
theorem dX8_balloons_22 : decode cX8_balloons 22 = .ok (.iload_n 2, 1) := by decide +kernel
theorem dX8_balloons_23 : decode cX8_balloons 23 = .ok (.iaload, 1) := by decide +kernel
theorem dX8_balloons_24 : decode cX8_balloons 24 = .ok (.iconst (-1), 1) := by decide +kernel
theorem dX8_balloons_25 : decode cX8_balloons 25 = .ok (.if_icmp .ne 7, 3) := by decide +kernel
theorem dX8_balloons_28 : decode cX8_balloons 28 = .ok (.iconst 0, 1) := by decide +kernel
theorem dX8_balloons_29 : decode cX8_balloons 29 = .ok (.goto 4, 3) := by decide +kernel
theorem dX8_balloons_32 : decode cX8_balloons 32 = .ok (.iconst 1, 1) := by decide +kernel
theorem dX8_balloons_33 : decode cX8_balloons 33 = .ok (.iadd, 1) := by decide +kernel
theorem dX8_balloons_34 : decode cX8_balloons 34 = .ok (.istore_n 1, 1) := by decide +kernel
theorem dX8_balloons_35 : decode cX8_balloons 35 = .ok (.iinc 2 1, 3) := by decide +kernel
theorem dX8_balloons_38 : decode cX8_balloons 38 = .ok (.goto (-29), 3) := by decide +kernel
theorem dX8_balloons_41 : decode cX8_balloons 41 = .ok (.iload_n 1, 1) := by decide +kernel
theorem dX8_balloons_42 : decode cX8_balloons 42 = .ok (.ireturn, 1) := by decide +kernel
theorem dX8_before_0 : decode cX8_before 0 = .ok (.iconst 0, 1) := by decide +kernel
theorem dX8_before_1 : decode cX8_before 1 = .ok (.istore_n 2, 1) := by decide +kernel
theorem dX8_before_2 : decode cX8_before 2 = .ok (.iconst 0, 1) := by decide +kernel
theorem dX8_before_3 : decode cX8_before 3 = .ok (.istore_n 3, 1) := by decide +kernel
theorem dX8_before_4 : decode cX8_before 4 = .ok (.iload_n 3, 1) := by decide +kernel
theorem dX8_before_5 : decode cX8_before 5 = .ok (.aload_n 0, 1) := by decide +kernel
theorem dX8_before_6 : decode cX8_before 6 = .ok (.getfield 121, 3) := by decide +kernel
theorem dX8_before_9 : decode cX8_before 9 = .ok (.if_icmp .ge 41, 3) := by decide +kernel
theorem dX8_before_12 : decode cX8_before 12 = .ok (.iload_n 2, 1) := by decide +kernel
theorem dX8_before_13 : decode cX8_before 13 = .ok (.aload_n 0, 1) := by decide +kernel
theorem dX8_before_14 : decode cX8_before 14 = .ok (.getfield 50, 3) := by decide +kernel
theorem dX8_before_17 : decode cX8_before 17 = .ok (.iload_n 3, 1) := by decide +kernel
theorem dX8_before_18 : decode cX8_before 18 = .ok (.iaload, 1) := by decide +kernel
theorem dX8_before_19 : decode cX8_before 19 = .ok (.iconst (-1), 1) := by decide +kernel
theorem dX8_before_20 : decode cX8_before 20 = .ok (.if_icmp .eq 21, 3) := by decide +kernel
theorem dX8_before_23 : decode cX8_before 23 = .ok (.iload_n 3, 1) := by decide +kernel
theorem dX8_before_24 : decode cX8_before 24 = .ok (.iload_n 1, 1) := by decide +kernel
theorem dX8_before_25 : decode cX8_before 25 = .ok (.if_icmp .eq 16, 3) := by decide +kernel
theorem dX8_before_28 : decode cX8_before 28 = .ok (.aload_n 0, 1) := by decide +kernel
theorem dX8_before_29 : decode cX8_before 29 = .ok (.iload_n 3, 1) := by decide +kernel
theorem dX8_before_30 : decode cX8_before 30 = .ok (.iload_n 1, 1) := by decide +kernel
theorem dX8_before_31 : decode cX8_before 31 = .ok (.invokevirtual 158, 3) := by decide +kernel
theorem dX8_before_34 : decode cX8_before 34 = .ok (.ifCond .eq 7, 3) := by decide +kernel
theorem dX8_before_37 : decode cX8_before 37 = .ok (.iconst 1, 1) := by decide +kernel
theorem dX8_before_38 : decode cX8_before 38 = .ok (.goto 4, 3) := by decide +kernel
theorem dX8_before_41 : decode cX8_before 41 = .ok (.iconst 0, 1) := by decide +kernel
theorem dX8_before_42 : decode cX8_before 42 = .ok (.iadd, 1) := by decide +kernel
theorem dX8_before_43 : decode cX8_before 43 = .ok (.istore_n 2, 1) := by decide +kernel
theorem dX8_before_44 : decode cX8_before 44 = .ok (.iinc 3 1, 3) := by decide +kernel
theorem dX8_before_47 : decode cX8_before 47 = .ok (.goto (-43), 3) := by decide +kernel
theorem dX8_before_50 : decode cX8_before 50 = .ok (.iload_n 2, 1) := by decide +kernel
theorem dX8_before_51 : decode cX8_before 51 = .ok (.ireturn, 1) := by decide +kernel
theorem dX8_beside_0 : decode cX8_beside 0 = .ok (.aload_n 0, 1) := by decide +kernel
theorem dX8_beside_1 : decode cX8_beside 1 = .ok (.aload_n 0, 1) := by decide +kernel
theorem dX8_beside_2 : decode cX8_beside 2 = .ok (.iload_n 1, 1) := by decide +kernel
theorem dX8_beside_3 : decode cX8_beside 3 = .ok (.invokevirtual 173, 3) := by decide +kernel
theorem dX8_beside_6 : decode cX8_beside 6 = .ok (.ifCond .ne 7, 3) := by decide +kernel
theorem dX8_beside_9 : decode cX8_beside 9 = .ok (.iconst 1, 1) := by decide +kernel
theorem dX8_beside_10 : decode cX8_beside 10 = .ok (.goto 15, 3) := by decide +kernel
theorem dX8_beside_13 : decode cX8_beside 13 = .ok (.iload_n 2, 1) := by decide +kernel
theorem dX8_beside_14 : decode cX8_beside 14 = .ok (.invokestatic 218, 3) := by decide +kernel
theorem dX8_beside_17 : decode cX8_beside 17 = .ok (.ifCond .eq 7, 3) := by decide +kernel
theorem dX8_beside_20 : decode cX8_beside 20 = .ok (.iconst 0, 1) := by decide +kernel
theorem dX8_beside_21 : decode cX8_beside 21 = .ok (.goto 4, 3) := by decide +kernel
theorem dX8_beside_24 : decode cX8_beside 24 = .ok (.iconst 2, 1) := by decide +kernel
theorem dX8_beside_25 : decode cX8_beside 25 = .ok (.putfield 108, 3) := by decide +kernel
theorem dX8_beside_28 : decode cX8_beside 28 = .ok (.aload_n 0, 1) := by decide +kernel
theorem dX8_beside_29 : decode cX8_beside 29 = .ok (.getfield 108, 3) := by decide +kernel
theorem dX8_beside_32 : decode cX8_beside 32 = .ok (.ifCond .le 5, 3) := by decide +kernel
theorem dX8_beside_35 : decode cX8_beside 35 = .ok (.iconst 0, 1) := by decide +kernel
theorem dX8_beside_36 : decode cX8_beside 36 = .ok (.ireturn, 1) := by decide +kernel
theorem dX8_beside_37 : decode cX8_beside 37 = .ok (.aload_n 0, 1) := by decide +kernel
theorem dX8_beside_38 : decode cX8_beside 38 = .ok (.iload_n 1, 1) := by decide +kernel
theorem dX8_beside_39 : decode cX8_beside 39 = .ok (.iload_n 2, 1) := by decide +kernel
theorem dX8_beside_40 : decode cX8_beside 40 = .ok (.invokevirtual 221, 3) := by decide +kernel
theorem dX8_beside_43 : decode cX8_beside 43 = .ok (.istore_n 3, 1) := by decide +kernel
theorem dX8_beside_44 : decode cX8_beside 44 = .ok (.iload_n 3, 1) := by decide +kernel
theorem dX8_beside_45 : decode cX8_beside 45 = .ok (.iload_n 2, 1) := by decide +kernel
theorem dX8_beside_46 : decode cX8_beside 46 = .ok (.idiv, 1) := by decide +kernel
theorem dX8_beside_47 : decode cX8_beside 47 = .ok (.iload_n 2, 1) := by decide +kernel
theorem dX8_beside_48 : decode cX8_beside 48 = .ok (.imul, 1) := by decide +kernel
theorem dX8_beside_49 : decode cX8_beside 49 = .ok (.iload_n 2, 1) := by decide +kernel
theorem dX8_beside_50 : decode cX8_beside 50 = .ok (.iadd, 1) := by decide +kernel
theorem dX8_beside_51 : decode cX8_beside 51 = .ok (.iconst 1, 1) := by decide +kernel
theorem dX8_beside_52 : decode cX8_beside 52 = .ok (.isub, 1) := by decide +kernel
theorem dX8_beside_53 : decode cX8_beside 53 = .ok (.iload_n 3, 1) := by decide +kernel
theorem dX8_beside_54 : decode cX8_beside 54 = .ok (.iload_n 2, 1) := by decide +kernel
theorem dX8_beside_55 : decode cX8_beside 55 = .ok (.irem, 1) := by decide +kernel
theorem dX8_beside_56 : decode cX8_beside 56 = .ok (.isub, 1) := by decide +kernel
theorem dX8_beside_57 : decode cX8_beside 57 = .ok (.istore 4, 2) := by decide +kernel
theorem dX8_beside_59 : decode cX8_beside 59 = .ok (.iconst (-1), 1) := by decide +kernel
theorem dX8_beside_60 : decode cX8_beside 60 = .ok (.istore 5, 2) := by decide +kernel
theorem dX8_beside_62 : decode cX8_beside 62 = .ok (.iconst 0, 1) := by decide +kernel
theorem dX8_beside_63 : decode cX8_beside 63 = .ok (.istore 6, 2) := by decide +kernel
theorem dX8_beside_65 : decode cX8_beside 65 = .ok (.iload 6, 2) := by decide +kernel
theorem dX8_beside_67 : decode cX8_beside 67 = .ok (.aload_n 0, 1) := by decide +kernel
theorem dX8_beside_68 : decode cX8_beside 68 = .ok (.getfield 111, 3) := by decide +kernel
theorem dX8_beside_71 : decode cX8_beside 71 = .ok (.if_icmp .ge 30, 3) := by decide +kernel
theorem dX8_beside_74 : decode cX8_beside 74 = .ok (.aload_n 0, 1) := by decide +kernel
theorem dX8_beside_75 : decode cX8_beside 75 = .ok (.iload 6, 2) := by decide +kernel
theorem dX8_beside_77 : decode cX8_beside 77 = .ok (.iload_n 2, 1) := by decide +kernel
theorem dX8_beside_78 : decode cX8_beside 78 = .ok (.invokevirtual 221, 3) := by decide +kernel
theorem dX8_beside_81 : decode cX8_beside 81 = .ok (.iload 4, 2) := by decide +kernel
theorem dX8_beside_83 : decode cX8_beside 83 = .ok (.if_icmp .ne 8, 3) := by decide +kernel
theorem dX8_beside_86 : decode cX8_beside 86 = .ok (.iload 6, 2) := by decide +kernel
theorem dX8_beside_88 : decode cX8_beside 88 = .ok (.goto 5, 3) := by decide +kernel
theorem dX8_beside_91 : decode cX8_beside 91 = .ok (.iload 5, 2) := by decide +kernel
theorem dX8_beside_93 : decode cX8_beside 93 = .ok (.istore 5, 2) := by decide +kernel
theorem dX8_beside_95 : decode cX8_beside 95 = .ok (.iinc 6 1, 3) := by decide +kernel
theorem dX8_beside_98 : decode cX8_beside 98 = .ok (.goto (-33), 3) := by decide +kernel
theorem dX8_beside_101 : decode cX8_beside 101 = .ok (.iload 5, 2) := by decide +kernel
theorem dX8_beside_103 : decode cX8_beside 103 = .ok (.ireturn, 1) := by decide +kernel
theorem dX8_cell_0 : decode cX8_cell 0 = .ok (.aload_n 0, 1) := by decide +kernel
theorem dX8_cell_1 : decode cX8_cell 1 = .ok (.aload_n 0, 1) := by decide +kernel
theorem dX8_cell_2 : decode cX8_cell 2 = .ok (.iload_n 1, 1) := by decide +kernel
theorem dX8_cell_3 : decode cX8_cell 3 = .ok (.invokevirtual 189, 3) := by decide +kernel
theorem dX8_cell_6 : decode cX8_cell 6 = .ok (.ifCond .eq 47, 3) := by decide +kernel
theorem dX8_cell_9 : decode cX8_cell 9 = .ok (.iload_n 2, 1) := by decide +kernel
theorem dX8_cell_10 : decode cX8_cell 10 = .ok (.iconst 0, 1) := by decide +kernel
theorem dX8_cell_11 : decode cX8_cell 11 = .ok (.aload_n 0, 1) := by decide +kernel
theorem dX8_cell_12 : decode cX8_cell 12 = .ok (.getfield 59, 3) := by decide +kernel
theorem dX8_cell_15 : decode cX8_cell 15 = .ok (.iconst 5, 1) := by decide +kernel
theorem dX8_cell_16 : decode cX8_cell 16 = .ok (.iload_n 1, 1) := by decide +kernel
theorem dX8_cell_17 : decode cX8_cell 17 = .ok (.imul, 1) := by decide +kernel
theorem dX8_cell_18 : decode cX8_cell 18 = .ok (.iconst 3, 1) := by decide +kernel
theorem dX8_cell_19 : decode cX8_cell 19 = .ok (.iadd, 1) := by decide +kernel
theorem dX8_cell_20 : decode cX8_cell 20 = .ok (.iaload, 1) := by decide +kernel
theorem dX8_cell_21 : decode cX8_cell 21 = .ok (.iconst 1, 1) := by decide +kernel
theorem dX8_cell_22 : decode cX8_cell 22 = .ok (.isub, 1) := by decide +kernel
theorem dX8_cell_23 : decode cX8_cell 23 = .ok (.invokestatic 114, 3) := by decide +kernel
theorem dX8_cell_26 : decode cX8_cell 26 = .ok (.ifCond .eq 27, 3) := by decide +kernel
theorem dX8_cell_29 : decode cX8_cell 29 = .ok (.iload_n 3, 1) := by decide +kernel
theorem dX8_cell_30 : decode cX8_cell 30 = .ok (.iconst 0, 1) := by decide +kernel
theorem dX8_cell_31 : decode cX8_cell 31 = .ok (.aload_n 0, 1) := by decide +kernel
theorem dX8_cell_32 : decode cX8_cell 32 = .ok (.getfield 59, 3) := by decide +kernel
theorem dX8_cell_35 : decode cX8_cell 35 = .ok (.iconst 5, 1) := by decide +kernel
theorem dX8_cell_36 : decode cX8_cell 36 = .ok (.iload_n 1, 1) := by decide +kernel
theorem dX8_cell_37 : decode cX8_cell 37 = .ok (.imul, 1) := by decide +kernel
theorem dX8_cell_38 : decode cX8_cell 38 = .ok (.iconst 4, 1) := by decide +kernel
theorem dX8_cell_39 : decode cX8_cell 39 = .ok (.iadd, 1) := by decide +kernel
theorem dX8_cell_40 : decode cX8_cell 40 = .ok (.iaload, 1) := by decide +kernel
theorem dX8_cell_41 : decode cX8_cell 41 = .ok (.iconst 1, 1) := by decide +kernel
theorem dX8_cell_42 : decode cX8_cell 42 = .ok (.isub, 1) := by decide +kernel
theorem dX8_cell_43 : decode cX8_cell 43 = .ok (.invokestatic 114, 3) := by decide +kernel
theorem dX8_cell_46 : decode cX8_cell 46 = .ok (.ifCond .eq 7, 3) := by decide +kernel
theorem dX8_cell_49 : decode cX8_cell 49 = .ok (.iconst 0, 1) := by decide +kernel
theorem dX8_cell_50 : decode cX8_cell 50 = .ok (.goto 4, 3) := by decide +kernel
theorem dX8_cell_53 : decode cX8_cell 53 = .ok (.iconst 1, 1) := by decide +kernel
theorem dX8_cell_54 : decode cX8_cell 54 = .ok (.putfield 108, 3) := by decide +kernel
theorem dX8_cell_57 : decode cX8_cell 57 = .ok (.aload_n 0, 1) := by decide +kernel
theorem dX8_cell_58 : decode cX8_cell 58 = .ok (.getfield 108, 3) := by decide +kernel
theorem dX8_cell_61 : decode cX8_cell 61 = .ok (.ifCond .le 5, 3) := by decide +kernel
theorem dX8_cell_64 : decode cX8_cell 64 = .ok (.iconst 0, 1) := by decide +kernel
theorem dX8_cell_65 : decode cX8_cell 65 = .ok (.ireturn, 1) := by decide +kernel
theorem dX8_cell_66 : decode cX8_cell 66 = .ok (.aload_n 0, 1) := by decide +kernel
theorem dX8_cell_67 : decode cX8_cell 67 = .ok (.iload_n 1, 1) := by decide +kernel
theorem dX8_cell_68 : decode cX8_cell 68 = .ok (.aload_n 0, 1) := by decide +kernel
theorem dX8_cell_69 : decode cX8_cell 69 = .ok (.getfield 59, 3) := by decide +kernel
theorem dX8_cell_72 : decode cX8_cell 72 = .ok (.iconst 5, 1) := by decide +kernel
theorem dX8_cell_73 : decode cX8_cell 73 = .ok (.iload_n 1, 1) := by decide +kernel
theorem dX8_cell_74 : decode cX8_cell 74 = .ok (.imul, 1) := by decide +kernel
theorem dX8_cell_75 : decode cX8_cell 75 = .ok (.iconst 3, 1) := by decide +kernel
theorem dX8_cell_76 : decode cX8_cell 76 = .ok (.iadd, 1) := by decide +kernel
theorem dX8_cell_77 : decode cX8_cell 77 = .ok (.iaload, 1) := by decide +kernel
theorem dX8_cell_78 : decode cX8_cell 78 = .ok (.aload_n 0, 1) := by decide +kernel
theorem dX8_cell_79 : decode cX8_cell 79 = .ok (.getfield 59, 3) := by decide +kernel
theorem dX8_cell_82 : decode cX8_cell 82 = .ok (.iconst 5, 1) := by decide +kernel
theorem dX8_cell_83 : decode cX8_cell 83 = .ok (.iload_n 1, 1) := by decide +kernel
theorem dX8_cell_84 : decode cX8_cell 84 = .ok (.imul, 1) := by decide +kernel
theorem dX8_cell_85 : decode cX8_cell 85 = .ok (.iconst 4, 1) := by decide +kernel
theorem dX8_cell_86 : decode cX8_cell 86 = .ok (.iadd, 1) := by decide +kernel
theorem dX8_cell_87 : decode cX8_cell 87 = .ok (.iaload, 1) := by decide +kernel
theorem dX8_cell_88 : decode cX8_cell 88 = .ok (.invokevirtual 140, 3) := by decide +kernel
theorem dX8_cell_91 : decode cX8_cell 91 = .ok (.pop, 1) := by decide +kernel
theorem dX8_cell_92 : decode cX8_cell 92 = .ok (.aload_n 0, 1) := by decide +kernel
theorem dX8_cell_93 : decode cX8_cell 93 = .ok (.getfield 65, 3) := by decide +kernel
theorem dX8_cell_96 : decode cX8_cell 96 = .ok (.aload_n 0, 1) := by decide +kernel
theorem dX8_cell_97 : decode cX8_cell 97 = .ok (.getfield 59, 3) := by decide +kernel
theorem dX8_cell_100 : decode cX8_cell 100 = .ok (.iconst 5, 1) := by decide +kernel
theorem dX8_cell_101 : decode cX8_cell 101 = .ok (.iload_n 1, 1) := by decide +kernel
theorem dX8_cell_102 : decode cX8_cell 102 = .ok (.imul, 1) := by decide +kernel
theorem dX8_cell_103 : decode cX8_cell 103 = .ok (.iconst 3, 1) := by decide +kernel
theorem dX8_cell_104 : decode cX8_cell 104 = .ok (.iadd, 1) := by decide +kernel
theorem dX8_cell_105 : decode cX8_cell 105 = .ok (.iaload, 1) := by decide +kernel
theorem dX8_cell_106 : decode cX8_cell 106 = .ok (.iload_n 3, 1) := by decide +kernel
theorem dX8_cell_107 : decode cX8_cell 107 = .ok (.imul, 1) := by decide +kernel
theorem dX8_cell_108 : decode cX8_cell 108 = .ok (.iload_n 2, 1) := by decide +kernel
theorem dX8_cell_109 : decode cX8_cell 109 = .ok (.iadd, 1) := by decide +kernel
theorem dX8_cell_110 : decode cX8_cell 110 = .ok (.iaload, 1) := by decide +kernel
theorem dX8_cell_111 : decode cX8_cell 111 = .ok (.ireturn, 1) := by decide +kernel
theorem dX8_changed_0 : decode cX8_changed 0 = .ok (.iconst 0, 1) := by decide +kernel
theorem dX8_changed_1 : decode cX8_changed 1 = .ok (.istore_n 2, 1) := by decide +kernel
theorem dX8_changed_2 : decode cX8_changed 2 = .ok (.iconst 0, 1) := by decide +kernel
theorem dX8_changed_3 : decode cX8_changed 3 = .ok (.istore_n 3, 1) := by decide +kernel
theorem dX8_changed_4 : decode cX8_changed 4 = .ok (.iload_n 3, 1) := by decide +kernel
theorem dX8_changed_5 : decode cX8_changed 5 = .ok (.aload_n 0, 1) := by decide +kernel
theorem dX8_changed_6 : decode cX8_changed 6 = .ok (.getfield 118, 3) := by decide +kernel
theorem dX8_changed_9 : decode cX8_changed 9 = .ok (.if_icmp .ge 114, 3) := by decide +kernel
theorem dX8_changed_12 : decode cX8_changed 12 = .ok (.aload_n 0, 1) := by decide +kernel
theorem dX8_changed_13 : decode cX8_changed 13 = .ok (.getfield 26, 3) := by decide +kernel
theorem dX8_changed_16 : decode cX8_changed 16 = .ok (.iload_n 3, 1) := by decide +kernel
theorem dX8_changed_17 : decode cX8_changed 17 = .ok (.iaload, 1) := by decide +kernel
theorem dX8_changed_18 : decode cX8_changed 18 = .ok (.iconst (-1), 1) := by decide +kernel
theorem dX8_changed_19 : decode cX8_changed 19 = .ok (.if_icmp .eq 22, 3) := by decide +kernel
theorem dX8_changed_22 : decode cX8_changed 22 = .ok (.iload_n 1, 1) := by decide +kernel
theorem dX8_changed_23 : decode cX8_changed 23 = .ok (.iconst (-1), 1) := by decide +kernel
theorem dX8_changed_24 : decode cX8_changed 24 = .ok (.if_icmp .eq 13, 3) := by decide +kernel
theorem dX8_changed_27 : decode cX8_changed 27 = .ok (.aload_n 0, 1) := by decide +kernel
theorem dX8_changed_28 : decode cX8_changed 28 = .ok (.getfield 26, 3) := by decide +kernel
theorem dX8_changed_31 : decode cX8_changed 31 = .ok (.iload_n 3, 1) := by decide +kernel
theorem dX8_changed_32 : decode cX8_changed 32 = .ok (.iaload, 1) := by decide +kernel
theorem dX8_changed_33 : decode cX8_changed 33 = .ok (.iload_n 1, 1) := by decide +kernel
theorem dX8_changed_34 : decode cX8_changed 34 = .ok (.if_icmp .ne 7, 3) := by decide +kernel
theorem dX8_changed_37 : decode cX8_changed 37 = .ok (.iconst 1, 1) := by decide +kernel
theorem dX8_changed_38 : decode cX8_changed 38 = .ok (.goto 4, 3) := by decide +kernel
theorem dX8_changed_41 : decode cX8_changed 41 = .ok (.iconst 0, 1) := by decide +kernel
theorem dX8_changed_42 : decode cX8_changed 42 = .ok (.istore 4, 2) := by decide +kernel
theorem dX8_changed_44 : decode cX8_changed 44 = .ok (.iconst 1, 1) := by decide +kernel
theorem dX8_changed_45 : decode cX8_changed 45 = .ok (.istore 5, 2) := by decide +kernel
theorem dX8_changed_47 : decode cX8_changed 47 = .ok (.iconst 1, 1) := by decide +kernel
theorem dX8_changed_48 : decode cX8_changed 48 = .ok (.istore 6, 2) := by decide +kernel
theorem dX8_changed_50 : decode cX8_changed 50 = .ok (.iload 6, 2) := by decide +kernel
theorem dX8_changed_52 : decode cX8_changed 52 = .ok (.iconst 5, 1) := by decide +kernel
theorem dX8_changed_53 : decode cX8_changed 53 = .ok (.if_icmp .ge 46, 3) := by decide +kernel
theorem dX8_changed_56 : decode cX8_changed 56 = .ok (.iload 5, 2) := by decide +kernel
theorem dX8_changed_58 : decode cX8_changed 58 = .ok (.ifCond .eq 32, 3) := by decide +kernel
theorem dX8_changed_61 : decode cX8_changed 61 = .ok (.aload_n 0, 1) := by decide +kernel
theorem dX8_changed_62 : decode cX8_changed 62 = .ok (.getfield 59, 3) := by decide +kernel
theorem dX8_changed_65 : decode cX8_changed 65 = .ok (.iconst 5, 1) := by decide +kernel
theorem dX8_changed_66 : decode cX8_changed 66 = .ok (.iload_n 3, 1) := by decide +kernel
theorem dX8_changed_67 : decode cX8_changed 67 = .ok (.imul, 1) := by decide +kernel
theorem dX8_changed_68 : decode cX8_changed 68 = .ok (.iload 6, 2) := by decide +kernel
theorem dX8_changed_70 : decode cX8_changed 70 = .ok (.iadd, 1) := by decide +kernel
theorem dX8_changed_71 : decode cX8_changed 71 = .ok (.iaload, 1) := by decide +kernel
theorem dX8_changed_72 : decode cX8_changed 72 = .ok (.aload_n 0, 1) := by decide +kernel
theorem dX8_changed_73 : decode cX8_changed 73 = .ok (.getfield 98, 3) := by decide +kernel
theorem dX8_changed_76 : decode cX8_changed 76 = .ok (.iconst 5, 1) := by decide +kernel
theorem dX8_changed_77 : decode cX8_changed 77 = .ok (.iload_n 3, 1) := by decide +kernel
theorem dX8_changed_78 : decode cX8_changed 78 = .ok (.imul, 1) := by decide +kernel
theorem dX8_changed_79 : decode cX8_changed 79 = .ok (.iload 6, 2) := by decide +kernel
theorem dX8_changed_81 : decode cX8_changed 81 = .ok (.iadd, 1) := by decide +kernel
theorem dX8_changed_82 : decode cX8_changed 82 = .ok (.iaload, 1) := by decide +kernel
theorem dX8_changed_83 : decode cX8_changed 83 = .ok (.if_icmp .ne 7, 3) := by decide +kernel
theorem dX8_changed_86 : decode cX8_changed 86 = .ok (.iconst 1, 1) := by decide +kernel
theorem dX8_changed_87 : decode cX8_changed 87 = .ok (.goto 4, 3) := by decide +kernel
theorem dX8_changed_90 : decode cX8_changed 90 = .ok (.iconst 0, 1) := by decide +kernel
theorem dX8_changed_91 : decode cX8_changed 91 = .ok (.istore 5, 2) := by decide +kernel
theorem dX8_changed_93 : decode cX8_changed 93 = .ok (.iinc 6 1, 3) := by decide +kernel
theorem dX8_changed_96 : decode cX8_changed 96 = .ok (.goto (-46), 3) := by decide +kernel
theorem dX8_changed_99 : decode cX8_changed 99 = .ok (.iload_n 2, 1) := by decide +kernel
theorem dX8_changed_100 : decode cX8_changed 100 = .ok (.iload 4, 2) := by decide +kernel
theorem dX8_changed_102 : decode cX8_changed 102 = .ok (.ifCond .eq 12, 3) := by decide +kernel
theorem dX8_changed_105 : decode cX8_changed 105 = .ok (.iload 5, 2) := by decide +kernel
theorem dX8_changed_107 : decode cX8_changed 107 = .ok (.ifCond .ne 7, 3) := by decide +kernel
theorem dX8_changed_110 : decode cX8_changed 110 = .ok (.iconst 1, 1) := by decide +kernel
theorem dX8_changed_111 : decode cX8_changed 111 = .ok (.goto 4, 3) := by decide +kernel
theorem dX8_changed_114 : decode cX8_changed 114 = .ok (.iconst 0, 1) := by decide +kernel
theorem dX8_changed_115 : decode cX8_changed 115 = .ok (.iadd, 1) := by decide +kernel
theorem dX8_changed_116 : decode cX8_changed 116 = .ok (.istore_n 2, 1) := by decide +kernel
theorem dX8_changed_117 : decode cX8_changed 117 = .ok (.iinc 3 1, 3) := by decide +kernel
theorem dX8_changed_120 : decode cX8_changed 120 = .ok (.goto (-116), 3) := by decide +kernel
theorem dX8_changed_123 : decode cX8_changed 123 = .ok (.iload_n 2, 1) := by decide +kernel
theorem dX8_changed_124 : decode cX8_changed 124 = .ok (.ireturn, 1) := by decide +kernel
theorem dX8_copies_0 : decode cX8_copies 0 = .ok (.iconst 0, 1) := by decide +kernel
theorem dX8_copies_1 : decode cX8_copies 1 = .ok (.istore_n 2, 1) := by decide +kernel
theorem dX8_copies_2 : decode cX8_copies 2 = .ok (.iload_n 2, 1) := by decide +kernel
theorem dX8_copies_3 : decode cX8_copies 3 = .ok (.aload_n 0, 1) := by decide +kernel
theorem dX8_copies_4 : decode cX8_copies 4 = .ok (.arraylength, 1) := by decide +kernel
theorem dX8_copies_5 : decode cX8_copies 5 = .ok (.if_icmp .ge 15, 3) := by decide +kernel
theorem dX8_copies_8 : decode cX8_copies 8 = .ok (.aload_n 1, 1) := by decide +kernel
theorem dX8_copies_9 : decode cX8_copies 9 = .ok (.iload_n 2, 1) := by decide +kernel
theorem dX8_copies_10 : decode cX8_copies 10 = .ok (.aload_n 0, 1) := by decide +kernel
theorem dX8_copies_11 : decode cX8_copies 11 = .ok (.iload_n 2, 1) := by decide +kernel
theorem dX8_copies_12 : decode cX8_copies 12 = .ok (.iaload, 1) := by decide +kernel
theorem dX8_copies_13 : decode cX8_copies 13 = .ok (.iastore, 1) := by decide +kernel
theorem dX8_copies_14 : decode cX8_copies 14 = .ok (.iinc 2 1, 3) := by decide +kernel
theorem dX8_copies_17 : decode cX8_copies 17 = .ok (.goto (-15), 3) := by decide +kernel
theorem dX8_copies_20 : decode cX8_copies 20 = .ok (.return_, 1) := by decide +kernel
theorem dX8_cutBalloon_0 : decode cX8_cutBalloon 0 = .ok (.aload_n 0, 1) := by decide +kernel
theorem dX8_cutBalloon_1 : decode cX8_cutBalloon 1 = .ok (.iload_n 1, 1) := by decide +kernel
theorem dX8_cutBalloon_2 : decode cX8_cutBalloon 2 = .ok (.invokevirtual 205, 3) := by decide +kernel
theorem dX8_cutBalloon_5 : decode cX8_cutBalloon 5 = .ok (.ifCond .ne 9, 3) := by decide +kernel
theorem dX8_cutBalloon_8 : decode cX8_cutBalloon 8 = .ok (.aload_n 0, 1) := by decide +kernel
theorem dX8_cutBalloon_9 : decode cX8_cutBalloon 9 = .ok (.iconst 1, 1) := by decide +kernel
theorem dX8_cutBalloon_10 : decode cX8_cutBalloon 10 = .ok (.invokevirtual 176, 3) := by decide +kernel
theorem dX8_cutBalloon_13 : decode cX8_cutBalloon 13 = .ok (.ireturn, 1) := by decide +kernel
theorem dX8_cutBalloon_14 : decode cX8_cutBalloon 14 = .ok (.iconst 0, 1) := by decide +kernel
theorem dX8_cutBalloon_15 : decode cX8_cutBalloon 15 = .ok (.istore_n 2, 1) := by decide +kernel
theorem dX8_cutBalloon_16 : decode cX8_cutBalloon 16 = .ok (.iconst 0, 1) := by decide +kernel
theorem dX8_cutBalloon_17 : decode cX8_cutBalloon 17 = .ok (.istore_n 3, 1) := by decide +kernel
theorem dX8_cutBalloon_18 : decode cX8_cutBalloon 18 = .ok (.iload_n 3, 1) := by decide +kernel
theorem dX8_cutBalloon_19 : decode cX8_cutBalloon 19 = .ok (.aload_n 0, 1) := by decide +kernel
theorem dX8_cutBalloon_20 : decode cX8_cutBalloon 20 = .ok (.getfield 121, 3) := by decide +kernel
theorem dX8_cutBalloon_23 : decode cX8_cutBalloon 23 = .ok (.if_icmp .ge 39, 3) := by decide +kernel
theorem dX8_cutBalloon_26 : decode cX8_cutBalloon 26 = .ok (.iload_n 2, 1) := by decide +kernel
theorem dX8_cutBalloon_27 : decode cX8_cutBalloon 27 = .ok (.ifCond .ne 23, 3) := by decide +kernel
theorem dX8_cutBalloon_30 : decode cX8_cutBalloon 30 = .ok (.aload_n 0, 1) := by decide +kernel
theorem dX8_cutBalloon_31 : decode cX8_cutBalloon 31 = .ok (.getfield 50, 3) := by decide +kernel
theorem dX8_cutBalloon_34 : decode cX8_cutBalloon 34 = .ok (.iload_n 3, 1) := by decide +kernel
theorem dX8_cutBalloon_35 : decode cX8_cutBalloon 35 = .ok (.iaload, 1) := by decide +kernel
theorem dX8_cutBalloon_36 : decode cX8_cutBalloon 36 = .ok (.iconst (-1), 1) := by decide +kernel
theorem dX8_cutBalloon_37 : decode cX8_cutBalloon 37 = .ok (.if_icmp .eq 17, 3) := by decide +kernel
theorem dX8_cutBalloon_40 : decode cX8_cutBalloon 40 = .ok (.aload_n 0, 1) := by decide +kernel
theorem dX8_cutBalloon_41 : decode cX8_cutBalloon 41 = .ok (.getfield 56, 3) := by decide +kernel
theorem dX8_cutBalloon_44 : decode cX8_cutBalloon 44 = .ok (.iload_n 3, 1) := by decide +kernel
theorem dX8_cutBalloon_45 : decode cX8_cutBalloon 45 = .ok (.iaload, 1) := by decide +kernel
theorem dX8_cutBalloon_46 : decode cX8_cutBalloon 46 = .ok (.iload_n 1, 1) := by decide +kernel
theorem dX8_cutBalloon_47 : decode cX8_cutBalloon 47 = .ok (.if_icmp .ne 7, 3) := by decide +kernel
theorem dX8_cutBalloon_50 : decode cX8_cutBalloon 50 = .ok (.iconst 1, 1) := by decide +kernel
theorem dX8_cutBalloon_51 : decode cX8_cutBalloon 51 = .ok (.goto 4, 3) := by decide +kernel
theorem dX8_cutBalloon_54 : decode cX8_cutBalloon 54 = .ok (.iconst 0, 1) := by decide +kernel
theorem dX8_cutBalloon_55 : decode cX8_cutBalloon 55 = .ok (.istore_n 2, 1) := by decide +kernel
theorem dX8_cutBalloon_56 : decode cX8_cutBalloon 56 = .ok (.iinc 3 1, 3) := by decide +kernel
theorem dX8_cutBalloon_59 : decode cX8_cutBalloon 59 = .ok (.goto (-41), 3) := by decide +kernel
theorem dX8_cutBalloon_62 : decode cX8_cutBalloon 62 = .ok (.iload_n 2, 1) := by decide +kernel
theorem dX8_cutBalloon_63 : decode cX8_cutBalloon 63 = .ok (.ifCond .eq 9, 3) := by decide +kernel
theorem dX8_cutBalloon_66 : decode cX8_cutBalloon 66 = .ok (.aload_n 0, 1) := by decide +kernel
theorem dX8_cutBalloon_67 : decode cX8_cutBalloon 67 = .ok (.iconst 2, 1) := by decide +kernel
theorem dX8_cutBalloon_68 : decode cX8_cutBalloon 68 = .ok (.invokevirtual 176, 3) := by decide +kernel
theorem dX8_cutBalloon_71 : decode cX8_cutBalloon 71 = .ok (.ireturn, 1) := by decide +kernel
theorem dX8_cutBalloon_72 : decode cX8_cutBalloon 72 = .ok (.aload_n 0, 1) := by decide +kernel
theorem dX8_cutBalloon_73 : decode cX8_cutBalloon 73 = .ok (.getfield 50, 3) := by decide +kernel
theorem dX8_cutBalloon_76 : decode cX8_cutBalloon 76 = .ok (.iload_n 1, 1) := by decide +kernel
theorem dX8_cutBalloon_77 : decode cX8_cutBalloon 77 = .ok (.iaload, 1) := by decide +kernel
theorem dX8_cutBalloon_78 : decode cX8_cutBalloon 78 = .ok (.istore_n 3, 1) := by decide +kernel
theorem dX8_cutBalloon_79 : decode cX8_cutBalloon 79 = .ok (.aload_n 0, 1) := by decide +kernel
theorem dX8_cutBalloon_80 : decode cX8_cutBalloon 80 = .ok (.invokevirtual 179, 3) := by decide +kernel
theorem dX8_cutBalloon_83 : decode cX8_cutBalloon 83 = .ok (.aload_n 0, 1) := by decide +kernel
theorem dX8_cutBalloon_84 : decode cX8_cutBalloon 84 = .ok (.getfield 47, 3) := by decide +kernel
theorem dX8_cutBalloon_87 : decode cX8_cutBalloon 87 = .ok (.iconst 4, 1) := by decide +kernel
theorem dX8_cutBalloon_88 : decode cX8_cutBalloon 88 = .ok (.iload_n 3, 1) := by decide +kernel
theorem dX8_cutBalloon_89 : decode cX8_cutBalloon 89 = .ok (.imul, 1) := by decide +kernel
theorem dX8_cutBalloon_90 : decode cX8_cutBalloon 90 = .ok (.aload_n 0, 1) := by decide +kernel
theorem dX8_cutBalloon_91 : decode cX8_cutBalloon 91 = .ok (.getfield 44, 3) := by decide +kernel
theorem dX8_cutBalloon_94 : decode cX8_cutBalloon 94 = .ok (.iload_n 3, 1) := by decide +kernel
theorem dX8_cutBalloon_95 : decode cX8_cutBalloon 95 = .ok (.iaload, 1) := by decide +kernel
theorem dX8_cutBalloon_96 : decode cX8_cutBalloon 96 = .ok (.aload_n 0, 1) := by decide +kernel
theorem dX8_cutBalloon_97 : decode cX8_cutBalloon 97 = .ok (.getfield 47, 3) := by decide +kernel
theorem dX8_cutBalloon_100 : decode cX8_cutBalloon 100 = .ok (.iconst 4, 1) := by decide +kernel
theorem dX8_cutBalloon_101 : decode cX8_cutBalloon 101 = .ok (.iload_n 3, 1) := by decide +kernel
theorem dX8_cutBalloon_102 : decode cX8_cutBalloon 102 = .ok (.imul, 1) := by decide +kernel
theorem dX8_cutBalloon_103 : decode cX8_cutBalloon 103 = .ok (.iload_n 1, 1) := by decide +kernel
theorem dX8_cutBalloon_104 : decode cX8_cutBalloon 104 = .ok (.invokestatic 150, 3) := by decide +kernel
theorem dX8_cutBalloon_107 : decode cX8_cutBalloon 107 = .ok (.invokestatic 192, 3) := by decide +kernel
theorem dX8_cutBalloon_110 : decode cX8_cutBalloon 110 = .ok (.aload_n 0, 1) := by decide +kernel
theorem dX8_cutBalloon_111 : decode cX8_cutBalloon 111 = .ok (.getfield 44, 3) := by decide +kernel
theorem dX8_cutBalloon_114 : decode cX8_cutBalloon 114 = .ok (.iload_n 3, 1) := by decide +kernel
theorem dX8_cutBalloon_115 : decode cX8_cutBalloon 115 = .ok (.dup2, 1) := by decide +kernel
theorem dX8_cutBalloon_116 : decode cX8_cutBalloon 116 = .ok (.iaload, 1) := by decide +kernel
theorem dX8_cutBalloon_117 : decode cX8_cutBalloon 117 = .ok (.iconst 1, 1) := by decide +kernel
theorem dX8_cutBalloon_118 : decode cX8_cutBalloon 118 = .ok (.isub, 1) := by decide +kernel
theorem dX8_cutBalloon_119 : decode cX8_cutBalloon 119 = .ok (.iastore, 1) := by decide +kernel
theorem dX8_cutBalloon_120 : decode cX8_cutBalloon 120 = .ok (.aload_n 0, 1) := by decide +kernel
theorem dX8_cutBalloon_121 : decode cX8_cutBalloon 121 = .ok (.getfield 50, 3) := by decide +kernel
theorem dX8_cutBalloon_124 : decode cX8_cutBalloon 124 = .ok (.iload_n 1, 1) := by decide +kernel
theorem dX8_cutBalloon_125 : decode cX8_cutBalloon 125 = .ok (.iconst (-1), 1) := by decide +kernel
theorem dX8_cutBalloon_126 : decode cX8_cutBalloon 126 = .ok (.iastore, 1) := by decide +kernel
theorem dX8_cutBalloon_127 : decode cX8_cutBalloon 127 = .ok (.aload_n 0, 1) := by decide +kernel
theorem dX8_cutBalloon_128 : decode cX8_cutBalloon 128 = .ok (.aload_n 0, 1) := by decide +kernel
theorem dX8_cutBalloon_129 : decode cX8_cutBalloon 129 = .ok (.invokevirtual 186, 3) := by decide +kernel
theorem dX8_cutBalloon_132 : decode cX8_cutBalloon 132 = .ok (.ifCond .eq 7, 3) := by decide +kernel
theorem dX8_cutBalloon_135 : decode cX8_cutBalloon 135 = .ok (.iconst 0, 1) := by decide +kernel
theorem dX8_cutBalloon_136 : decode cX8_cutBalloon 136 = .ok (.goto 4, 3) := by decide +kernel
theorem dX8_cutBalloon_139 : decode cX8_cutBalloon 139 = .ok (.iconst 2, 1) := by decide +kernel
theorem dX8_cutBalloon_140 : decode cX8_cutBalloon 140 = .ok (.putfield 108, 3) := by decide +kernel
theorem dX8_cutBalloon_143 : decode cX8_cutBalloon 143 = .ok (.aload_n 0, 1) := by decide +kernel
theorem dX8_cutBalloon_144 : decode cX8_cutBalloon 144 = .ok (.getfield 108, 3) := by decide +kernel
theorem dX8_cutBalloon_147 : decode cX8_cutBalloon 147 = .ok (.ifCond .le 7, 3) := by decide +kernel
theorem dX8_cutBalloon_150 : decode cX8_cutBalloon 150 = .ok (.iconst 0, 1) := by decide +kernel
theorem dX8_cutBalloon_151 : decode cX8_cutBalloon 151 = .ok (.goto 4, 3) := by decide +kernel
theorem dX8_cutBalloon_154 : decode cX8_cutBalloon 154 = .ok (.iload_n 3, 1) := by decide +kernel
theorem dX8_cutBalloon_155 : decode cX8_cutBalloon 155 = .ok (.ireturn, 1) := by decide +kernel
theorem dX8_cutPanel_0 : decode cX8_cutPanel 0 = .ok (.aload_n 0, 1) := by decide +kernel
theorem dX8_cutPanel_1 : decode cX8_cutPanel 1 = .ok (.iload_n 1, 1) := by decide +kernel
theorem dX8_cutPanel_2 : decode cX8_cutPanel 2 = .ok (.invokevirtual 189, 3) := by decide +kernel
theorem dX8_cutPanel_5 : decode cX8_cutPanel 5 = .ok (.ifCond .ne 9, 3) := by decide +kernel
theorem dX8_cutPanel_8 : decode cX8_cutPanel 8 = .ok (.aload_n 0, 1) := by decide +kernel
theorem dX8_cutPanel_9 : decode cX8_cutPanel 9 = .ok (.iconst 1, 1) := by decide +kernel
theorem dX8_cutPanel_10 : decode cX8_cutPanel 10 = .ok (.invokevirtual 176, 3) := by decide +kernel
theorem dX8_cutPanel_13 : decode cX8_cutPanel 13 = .ok (.ireturn, 1) := by decide +kernel
theorem dX8_cutPanel_14 : decode cX8_cutPanel 14 = .ok (.iconst 0, 1) := by decide +kernel
theorem dX8_cutPanel_15 : decode cX8_cutPanel 15 = .ok (.istore_n 2, 1) := by decide +kernel
theorem dX8_cutPanel_16 : decode cX8_cutPanel 16 = .ok (.iconst 0, 1) := by decide +kernel
theorem dX8_cutPanel_17 : decode cX8_cutPanel 17 = .ok (.istore_n 3, 1) := by decide +kernel
theorem dX8_cutPanel_18 : decode cX8_cutPanel 18 = .ok (.iload_n 3, 1) := by decide +kernel
theorem dX8_cutPanel_19 : decode cX8_cutPanel 19 = .ok (.aload_n 0, 1) := by decide +kernel
theorem dX8_cutPanel_20 : decode cX8_cutPanel 20 = .ok (.getfield 121, 3) := by decide +kernel
theorem dX8_cutPanel_23 : decode cX8_cutPanel 23 = .ok (.if_icmp .ge 76, 3) := by decide +kernel
theorem dX8_cutPanel_26 : decode cX8_cutPanel 26 = .ok (.aload_n 0, 1) := by decide +kernel
theorem dX8_cutPanel_27 : decode cX8_cutPanel 27 = .ok (.getfield 50, 3) := by decide +kernel
theorem dX8_cutPanel_30 : decode cX8_cutPanel 30 = .ok (.iload_n 3, 1) := by decide +kernel
theorem dX8_cutPanel_31 : decode cX8_cutPanel 31 = .ok (.iaload, 1) := by decide +kernel
theorem dX8_cutPanel_32 : decode cX8_cutPanel 32 = .ok (.iconst (-1), 1) := by decide +kernel
theorem dX8_cutPanel_33 : decode cX8_cutPanel 33 = .ok (.if_icmp .eq 27, 3) := by decide +kernel
theorem dX8_cutPanel_36 : decode cX8_cutPanel 36 = .ok (.aload_n 0, 1) := by decide +kernel
theorem dX8_cutPanel_37 : decode cX8_cutPanel 37 = .ok (.getfield 50, 3) := by decide +kernel
theorem dX8_cutPanel_40 : decode cX8_cutPanel 40 = .ok (.iload_n 3, 1) := by decide +kernel
theorem dX8_cutPanel_41 : decode cX8_cutPanel 41 = .ok (.iaload, 1) := by decide +kernel
theorem dX8_cutPanel_42 : decode cX8_cutPanel 42 = .ok (.iload_n 1, 1) := by decide +kernel
theorem dX8_cutPanel_43 : decode cX8_cutPanel 43 = .ok (.if_icmp .eq 17, 3) := by decide +kernel
theorem dX8_cutPanel_46 : decode cX8_cutPanel 46 = .ok (.aload_n 0, 1) := by decide +kernel
theorem dX8_cutPanel_47 : decode cX8_cutPanel 47 = .ok (.getfield 56, 3) := by decide +kernel
theorem dX8_cutPanel_50 : decode cX8_cutPanel 50 = .ok (.iload_n 3, 1) := by decide +kernel
theorem dX8_cutPanel_51 : decode cX8_cutPanel 51 = .ok (.iaload, 1) := by decide +kernel
theorem dX8_cutPanel_52 : decode cX8_cutPanel 52 = .ok (.iconst (-1), 1) := by decide +kernel
theorem dX8_cutPanel_53 : decode cX8_cutPanel 53 = .ok (.if_icmp .eq 7, 3) := by decide +kernel
theorem dX8_cutPanel_56 : decode cX8_cutPanel 56 = .ok (.iconst 1, 1) := by decide +kernel
theorem dX8_cutPanel_57 : decode cX8_cutPanel 57 = .ok (.goto 4, 3) := by decide +kernel
theorem dX8_cutPanel_60 : decode cX8_cutPanel 60 = .ok (.iconst 0, 1) := by decide +kernel
theorem dX8_cutPanel_61 : decode cX8_cutPanel 61 = .ok (.istore 4, 2) := by decide +kernel
theorem dX8_cutPanel_63 : decode cX8_cutPanel 63 = .ok (.iload_n 2, 1) := by decide +kernel
theorem dX8_cutPanel_64 : decode cX8_cutPanel 64 = .ok (.ifCond .ne 23, 3) := by decide +kernel
theorem dX8_cutPanel_67 : decode cX8_cutPanel 67 = .ok (.iload 4, 2) := by decide +kernel
theorem dX8_cutPanel_69 : decode cX8_cutPanel 69 = .ok (.ifCond .eq 22, 3) := by decide +kernel
theorem dX8_cutPanel_72 : decode cX8_cutPanel 72 = .ok (.aload_n 0, 1) := by decide +kernel
theorem dX8_cutPanel_73 : decode cX8_cutPanel 73 = .ok (.getfield 50, 3) := by decide +kernel
theorem dX8_cutPanel_76 : decode cX8_cutPanel 76 = .ok (.aload_n 0, 1) := by decide +kernel
theorem dX8_cutPanel_77 : decode cX8_cutPanel 77 = .ok (.getfield 56, 3) := by decide +kernel
theorem dX8_cutPanel_80 : decode cX8_cutPanel 80 = .ok (.iload_n 3, 1) := by decide +kernel
theorem dX8_cutPanel_81 : decode cX8_cutPanel 81 = .ok (.iaload, 1) := by decide +kernel
theorem dX8_cutPanel_82 : decode cX8_cutPanel 82 = .ok (.iaload, 1) := by decide +kernel
theorem dX8_cutPanel_83 : decode cX8_cutPanel 83 = .ok (.iload_n 1, 1) := by decide +kernel
theorem dX8_cutPanel_84 : decode cX8_cutPanel 84 = .ok (.if_icmp .ne 7, 3) := by decide +kernel
theorem dX8_cutPanel_87 : decode cX8_cutPanel 87 = .ok (.iconst 1, 1) := by decide +kernel
theorem dX8_cutPanel_88 : decode cX8_cutPanel 88 = .ok (.goto 4, 3) := by decide +kernel
theorem dX8_cutPanel_91 : decode cX8_cutPanel 91 = .ok (.iconst 0, 1) := by decide +kernel
theorem dX8_cutPanel_92 : decode cX8_cutPanel 92 = .ok (.istore_n 2, 1) := by decide +kernel
theorem dX8_cutPanel_93 : decode cX8_cutPanel 93 = .ok (.iinc 3 1, 3) := by decide +kernel
theorem dX8_cutPanel_96 : decode cX8_cutPanel 96 = .ok (.goto (-78), 3) := by decide +kernel
theorem dX8_cutPanel_99 : decode cX8_cutPanel 99 = .ok (.iload_n 2, 1) := by decide +kernel
theorem dX8_cutPanel_100 : decode cX8_cutPanel 100 = .ok (.ifCond .eq 9, 3) := by decide +kernel
theorem dX8_cutPanel_103 : decode cX8_cutPanel 103 = .ok (.aload_n 0, 1) := by decide +kernel
theorem dX8_cutPanel_104 : decode cX8_cutPanel 104 = .ok (.iconst 2, 1) := by decide +kernel
theorem dX8_cutPanel_105 : decode cX8_cutPanel 105 = .ok (.invokevirtual 176, 3) := by decide +kernel
theorem dX8_cutPanel_108 : decode cX8_cutPanel 108 = .ok (.ireturn, 1) := by decide +kernel
theorem dX8_cutPanel_109 : decode cX8_cutPanel 109 = .ok (.aload_n 0, 1) := by decide +kernel
theorem dX8_cutPanel_110 : decode cX8_cutPanel 110 = .ok (.getfield 26, 3) := by decide +kernel
theorem dX8_cutPanel_113 : decode cX8_cutPanel 113 = .ok (.iload_n 1, 1) := by decide +kernel
theorem dX8_cutPanel_114 : decode cX8_cutPanel 114 = .ok (.iaload, 1) := by decide +kernel
theorem dX8_cutPanel_115 : decode cX8_cutPanel 115 = .ok (.istore_n 3, 1) := by decide +kernel
theorem dX8_cutPanel_116 : decode cX8_cutPanel 116 = .ok (.aload_n 0, 1) := by decide +kernel
theorem dX8_cutPanel_117 : decode cX8_cutPanel 117 = .ok (.getfield 44, 3) := by decide +kernel
theorem dX8_cutPanel_120 : decode cX8_cutPanel 120 = .ok (.iload_n 1, 1) := by decide +kernel
theorem dX8_cutPanel_121 : decode cX8_cutPanel 121 = .ok (.iaload, 1) := by decide +kernel
theorem dX8_cutPanel_122 : decode cX8_cutPanel 122 = .ok (.istore 4, 2) := by decide +kernel
theorem dX8_cutPanel_124 : decode cX8_cutPanel 124 = .ok (.aload_n 0, 1) := by decide +kernel
theorem dX8_cutPanel_125 : decode cX8_cutPanel 125 = .ok (.iload_n 1, 1) := by decide +kernel
theorem dX8_cutPanel_126 : decode cX8_cutPanel 126 = .ok (.iconst 1, 1) := by decide +kernel
theorem dX8_cutPanel_127 : decode cX8_cutPanel 127 = .ok (.invokevirtual 199, 3) := by decide +kernel
theorem dX8_cutPanel_130 : decode cX8_cutPanel 130 = .ok (.istore 5, 2) := by decide +kernel
theorem dX8_cutPanel_132 : decode cX8_cutPanel 132 = .ok (.aload_n 0, 1) := by decide +kernel
theorem dX8_cutPanel_133 : decode cX8_cutPanel 133 = .ok (.iload_n 1, 1) := by decide +kernel
theorem dX8_cutPanel_134 : decode cX8_cutPanel 134 = .ok (.iconst (-1), 1) := by decide +kernel
theorem dX8_cutPanel_135 : decode cX8_cutPanel 135 = .ok (.invokevirtual 199, 3) := by decide +kernel
theorem dX8_cutPanel_138 : decode cX8_cutPanel 138 = .ok (.istore 6, 2) := by decide +kernel
theorem dX8_cutPanel_140 : decode cX8_cutPanel 140 = .ok (.aload_n 0, 1) := by decide +kernel
theorem dX8_cutPanel_141 : decode cX8_cutPanel 141 = .ok (.invokevirtual 179, 3) := by decide +kernel
theorem dX8_cutPanel_144 : decode cX8_cutPanel 144 = .ok (.iconst 0, 1) := by decide +kernel
theorem dX8_cutPanel_145 : decode cX8_cutPanel 145 = .ok (.istore 7, 2) := by decide +kernel
theorem dX8_cutPanel_147 : decode cX8_cutPanel 147 = .ok (.iload 7, 2) := by decide +kernel
theorem dX8_cutPanel_149 : decode cX8_cutPanel 149 = .ok (.iload 4, 2) := by decide +kernel
theorem dX8_cutPanel_151 : decode cX8_cutPanel 151 = .ok (.if_icmp .ge 26, 3) := by decide +kernel
theorem dX8_cutPanel_154 : decode cX8_cutPanel 154 = .ok (.aload_n 0, 1) := by decide +kernel
theorem dX8_cutPanel_155 : decode cX8_cutPanel 155 = .ok (.getfield 50, 3) := by decide +kernel
theorem dX8_cutPanel_158 : decode cX8_cutPanel 158 = .ok (.aload_n 0, 1) := by decide +kernel
theorem dX8_cutPanel_159 : decode cX8_cutPanel 159 = .ok (.getfield 47, 3) := by decide +kernel
theorem dX8_cutPanel_162 : decode cX8_cutPanel 162 = .ok (.iconst 4, 1) := by decide +kernel
theorem dX8_cutPanel_163 : decode cX8_cutPanel 163 = .ok (.iload_n 1, 1) := by decide +kernel
theorem dX8_cutPanel_164 : decode cX8_cutPanel 164 = .ok (.imul, 1) := by decide +kernel
theorem dX8_cutPanel_165 : decode cX8_cutPanel 165 = .ok (.iload 7, 2) := by decide +kernel
theorem dX8_cutPanel_167 : decode cX8_cutPanel 167 = .ok (.iadd, 1) := by decide +kernel
theorem dX8_cutPanel_168 : decode cX8_cutPanel 168 = .ok (.iaload, 1) := by decide +kernel
theorem dX8_cutPanel_169 : decode cX8_cutPanel 169 = .ok (.iconst (-1), 1) := by decide +kernel
theorem dX8_cutPanel_170 : decode cX8_cutPanel 170 = .ok (.iastore, 1) := by decide +kernel
theorem dX8_cutPanel_171 : decode cX8_cutPanel 171 = .ok (.iinc 7 1, 3) := by decide +kernel
theorem dX8_cutPanel_174 : decode cX8_cutPanel 174 = .ok (.goto (-27), 3) := by decide +kernel
theorem dX8_cutPanel_177 : decode cX8_cutPanel 177 = .ok (.aload_n 0, 1) := by decide +kernel
theorem dX8_cutPanel_178 : decode cX8_cutPanel 178 = .ok (.getfield 16, 3) := by decide +kernel
theorem dX8_cutPanel_181 : decode cX8_cutPanel 181 = .ok (.bipush 8, 2) := by decide +kernel
theorem dX8_cutPanel_183 : decode cX8_cutPanel 183 = .ok (.iload_n 3, 1) := by decide +kernel
theorem dX8_cutPanel_184 : decode cX8_cutPanel 184 = .ok (.imul, 1) := by decide +kernel
theorem dX8_cutPanel_185 : decode cX8_cutPanel 185 = .ok (.aload_n 0, 1) := by decide +kernel
theorem dX8_cutPanel_186 : decode cX8_cutPanel 186 = .ok (.getfield 13, 3) := by decide +kernel
theorem dX8_cutPanel_189 : decode cX8_cutPanel 189 = .ok (.iload_n 3, 1) := by decide +kernel
theorem dX8_cutPanel_190 : decode cX8_cutPanel 190 = .ok (.iaload, 1) := by decide +kernel
theorem dX8_cutPanel_191 : decode cX8_cutPanel 191 = .ok (.aload_n 0, 1) := by decide +kernel
theorem dX8_cutPanel_192 : decode cX8_cutPanel 192 = .ok (.getfield 16, 3) := by decide +kernel
theorem dX8_cutPanel_195 : decode cX8_cutPanel 195 = .ok (.bipush 8, 2) := by decide +kernel
theorem dX8_cutPanel_197 : decode cX8_cutPanel 197 = .ok (.iload_n 3, 1) := by decide +kernel
theorem dX8_cutPanel_198 : decode cX8_cutPanel 198 = .ok (.imul, 1) := by decide +kernel
theorem dX8_cutPanel_199 : decode cX8_cutPanel 199 = .ok (.iload_n 1, 1) := by decide +kernel
theorem dX8_cutPanel_200 : decode cX8_cutPanel 200 = .ok (.invokestatic 150, 3) := by decide +kernel
theorem dX8_cutPanel_203 : decode cX8_cutPanel 203 = .ok (.invokestatic 192, 3) := by decide +kernel
theorem dX8_cutPanel_206 : decode cX8_cutPanel 206 = .ok (.aload_n 0, 1) := by decide +kernel
theorem dX8_cutPanel_207 : decode cX8_cutPanel 207 = .ok (.getfield 13, 3) := by decide +kernel
theorem dX8_cutPanel_210 : decode cX8_cutPanel 210 = .ok (.iload_n 3, 1) := by decide +kernel
theorem dX8_cutPanel_211 : decode cX8_cutPanel 211 = .ok (.dup2, 1) := by decide +kernel
theorem dX8_cutPanel_212 : decode cX8_cutPanel 212 = .ok (.iaload, 1) := by decide +kernel
theorem dX8_cutPanel_213 : decode cX8_cutPanel 213 = .ok (.iconst 1, 1) := by decide +kernel
theorem dX8_cutPanel_214 : decode cX8_cutPanel 214 = .ok (.isub, 1) := by decide +kernel
theorem dX8_cutPanel_215 : decode cX8_cutPanel 215 = .ok (.iastore, 1) := by decide +kernel
theorem dX8_cutPanel_216 : decode cX8_cutPanel 216 = .ok (.aload_n 0, 1) := by decide +kernel
theorem dX8_cutPanel_217 : decode cX8_cutPanel 217 = .ok (.getfield 26, 3) := by decide +kernel
theorem dX8_cutPanel_220 : decode cX8_cutPanel 220 = .ok (.iload_n 1, 1) := by decide +kernel
theorem dX8_cutPanel_221 : decode cX8_cutPanel 221 = .ok (.iconst (-1), 1) := by decide +kernel
theorem dX8_cutPanel_222 : decode cX8_cutPanel 222 = .ok (.iastore, 1) := by decide +kernel
theorem dX8_cutPanel_223 : decode cX8_cutPanel 223 = .ok (.aload_n 0, 1) := by decide +kernel
theorem dX8_cutPanel_224 : decode cX8_cutPanel 224 = .ok (.aload_n 0, 1) := by decide +kernel
theorem dX8_cutPanel_225 : decode cX8_cutPanel 225 = .ok (.invokevirtual 186, 3) := by decide +kernel
theorem dX8_cutPanel_228 : decode cX8_cutPanel 228 = .ok (.ifCond .eq 7, 3) := by decide +kernel
theorem dX8_cutPanel_231 : decode cX8_cutPanel 231 = .ok (.iconst 0, 1) := by decide +kernel
theorem dX8_cutPanel_232 : decode cX8_cutPanel 232 = .ok (.goto 4, 3) := by decide +kernel
theorem dX8_cutPanel_235 : decode cX8_cutPanel 235 = .ok (.iconst 2, 1) := by decide +kernel
theorem dX8_cutPanel_236 : decode cX8_cutPanel 236 = .ok (.putfield 108, 3) := by decide +kernel
theorem dX8_cutPanel_239 : decode cX8_cutPanel 239 = .ok (.aload_n 0, 1) := by decide +kernel
theorem dX8_cutPanel_240 : decode cX8_cutPanel 240 = .ok (.getfield 108, 3) := by decide +kernel
theorem dX8_cutPanel_243 : decode cX8_cutPanel 243 = .ok (.ifCond .le 5, 3) := by decide +kernel
theorem dX8_cutPanel_246 : decode cX8_cutPanel 246 = .ok (.iconst 0, 1) := by decide +kernel
theorem dX8_cutPanel_247 : decode cX8_cutPanel 247 = .ok (.ireturn, 1) := by decide +kernel
theorem dX8_cutPanel_248 : decode cX8_cutPanel 248 = .ok (.aload_n 0, 1) := by decide +kernel
theorem dX8_cutPanel_249 : decode cX8_cutPanel 249 = .ok (.aload_n 0, 1) := by decide +kernel
theorem dX8_cutPanel_250 : decode cX8_cutPanel 250 = .ok (.getfield 101, 3) := by decide +kernel
theorem dX8_cutPanel_253 : decode cX8_cutPanel 253 = .ok (.iload_n 1, 1) := by decide +kernel
theorem dX8_cutPanel_254 : decode cX8_cutPanel 254 = .ok (.if_icmp .eq 10, 3) := by decide +kernel
theorem dX8_cutPanel_257 : decode cX8_cutPanel 257 = .ok (.aload_n 0, 1) := by decide +kernel
theorem dX8_cutPanel_258 : decode cX8_cutPanel 258 = .ok (.getfield 101, 3) := by decide +kernel
theorem dX8_cutPanel_261 : decode cX8_cutPanel 261 = .ok (.goto 16, 3) := by decide +kernel
theorem dX8_cutPanel_264 : decode cX8_cutPanel 264 = .ok (.iload 5, 2) := by decide +kernel
theorem dX8_cutPanel_266 : decode cX8_cutPanel 266 = .ok (.iconst (-1), 1) := by decide +kernel
theorem dX8_cutPanel_267 : decode cX8_cutPanel 267 = .ok (.if_icmp .eq 8, 3) := by decide +kernel
theorem dX8_cutPanel_270 : decode cX8_cutPanel 270 = .ok (.iload 5, 2) := by decide +kernel
theorem dX8_cutPanel_272 : decode cX8_cutPanel 272 = .ok (.goto 5, 3) := by decide +kernel
theorem dX8_cutPanel_275 : decode cX8_cutPanel 275 = .ok (.iload 6, 2) := by decide +kernel
theorem dX8_cutPanel_277 : decode cX8_cutPanel 277 = .ok (.putfield 101, 3) := by decide +kernel
theorem dX8_cutPanel_280 : decode cX8_cutPanel 280 = .ok (.iconst 0, 1) := by decide +kernel
theorem dX8_cutPanel_281 : decode cX8_cutPanel 281 = .ok (.istore 7, 2) := by decide +kernel
theorem dX8_cutPanel_283 : decode cX8_cutPanel 283 = .ok (.iconst 0, 1) := by decide +kernel
theorem dX8_cutPanel_284 : decode cX8_cutPanel 284 = .ok (.istore 8, 2) := by decide +kernel
theorem dX8_cutPanel_286 : decode cX8_cutPanel 286 = .ok (.iload 8, 2) := by decide +kernel
theorem dX8_cutPanel_288 : decode cX8_cutPanel 288 = .ok (.aload_n 0, 1) := by decide +kernel
theorem dX8_cutPanel_289 : decode cX8_cutPanel 289 = .ok (.getfield 202, 3) := by decide +kernel
theorem dX8_cutPanel_292 : decode cX8_cutPanel 292 = .ok (.if_icmp .ge 44, 3) := by decide +kernel
theorem dX8_cutPanel_295 : decode cX8_cutPanel 295 = .ok (.aload_n 0, 1) := by decide +kernel
theorem dX8_cutPanel_296 : decode cX8_cutPanel 296 = .ok (.getfield 105, 3) := by decide +kernel
theorem dX8_cutPanel_299 : decode cX8_cutPanel 299 = .ok (.iload 7, 2) := by decide +kernel
theorem dX8_cutPanel_301 : decode cX8_cutPanel 301 = .ok (.aload_n 0, 1) := by decide +kernel
theorem dX8_cutPanel_302 : decode cX8_cutPanel 302 = .ok (.getfield 105, 3) := by decide +kernel
theorem dX8_cutPanel_305 : decode cX8_cutPanel 305 = .ok (.iload 8, 2) := by decide +kernel
theorem dX8_cutPanel_307 : decode cX8_cutPanel 307 = .ok (.iaload, 1) := by decide +kernel
theorem dX8_cutPanel_308 : decode cX8_cutPanel 308 = .ok (.iastore, 1) := by decide +kernel
theorem dX8_cutPanel_309 : decode cX8_cutPanel 309 = .ok (.iload 7, 2) := by decide +kernel
theorem dX8_cutPanel_311 : decode cX8_cutPanel 311 = .ok (.aload_n 0, 1) := by decide +kernel
theorem dX8_cutPanel_312 : decode cX8_cutPanel 312 = .ok (.getfield 105, 3) := by decide +kernel
theorem dX8_cutPanel_315 : decode cX8_cutPanel 315 = .ok (.iload 8, 2) := by decide +kernel
theorem dX8_cutPanel_317 : decode cX8_cutPanel 317 = .ok (.iaload, 1) := by decide +kernel
theorem dX8_cutPanel_318 : decode cX8_cutPanel 318 = .ok (.iload_n 1, 1) := by decide +kernel
theorem dX8_cutPanel_319 : decode cX8_cutPanel 319 = .ok (.if_icmp .ne 7, 3) := by decide +kernel
theorem dX8_cutPanel_322 : decode cX8_cutPanel 322 = .ok (.iconst 0, 1) := by decide +kernel
theorem dX8_cutPanel_323 : decode cX8_cutPanel 323 = .ok (.goto 4, 3) := by decide +kernel
theorem dX8_cutPanel_326 : decode cX8_cutPanel 326 = .ok (.iconst 1, 1) := by decide +kernel
theorem dX8_cutPanel_327 : decode cX8_cutPanel 327 = .ok (.iadd, 1) := by decide +kernel
theorem dX8_cutPanel_328 : decode cX8_cutPanel 328 = .ok (.istore 7, 2) := by decide +kernel
theorem dX8_cutPanel_330 : decode cX8_cutPanel 330 = .ok (.iinc 8 1, 3) := by decide +kernel
theorem dX8_cutPanel_333 : decode cX8_cutPanel 333 = .ok (.goto (-47), 3) := by decide +kernel
theorem dX8_cutPanel_336 : decode cX8_cutPanel 336 = .ok (.aload_n 0, 1) := by decide +kernel
theorem dX8_cutPanel_337 : decode cX8_cutPanel 337 = .ok (.iload 7, 2) := by decide +kernel
theorem dX8_cutPanel_339 : decode cX8_cutPanel 339 = .ok (.putfield 202, 3) := by decide +kernel
theorem dX8_cutPanel_342 : decode cX8_cutPanel 342 = .ok (.iload 4, 2) := by decide +kernel
theorem dX8_cutPanel_344 : decode cX8_cutPanel 344 = .ok (.ireturn, 1) := by decide +kernel
theorem dX8_depth_0 : decode cX8_depth 0 = .ok (.aload_n 0, 1) := by decide +kernel
theorem dX8_depth_1 : decode cX8_depth 1 = .ok (.iload_n 1, 1) := by decide +kernel
theorem dX8_depth_2 : decode cX8_depth 2 = .ok (.invokevirtual 205, 3) := by decide +kernel
theorem dX8_depth_5 : decode cX8_depth 5 = .ok (.ifCond .ne 9, 3) := by decide +kernel
theorem dX8_depth_8 : decode cX8_depth 8 = .ok (.aload_n 0, 1) := by decide +kernel
theorem dX8_depth_9 : decode cX8_depth 9 = .ok (.iconst 1, 1) := by decide +kernel
theorem dX8_depth_10 : decode cX8_depth 10 = .ok (.invokevirtual 176, 3) := by decide +kernel
theorem dX8_depth_13 : decode cX8_depth 13 = .ok (.ireturn, 1) := by decide +kernel
theorem dX8_depth_14 : decode cX8_depth 14 = .ok (.aload_n 0, 1) := by decide +kernel
theorem dX8_depth_15 : decode cX8_depth 15 = .ok (.iconst 0, 1) := by decide +kernel
theorem dX8_depth_16 : decode cX8_depth 16 = .ok (.putfield 108, 3) := by decide +kernel
theorem dX8_depth_19 : decode cX8_depth 19 = .ok (.iconst 0, 1) := by decide +kernel
theorem dX8_depth_20 : decode cX8_depth 20 = .ok (.istore_n 2, 1) := by decide +kernel
theorem dX8_depth_21 : decode cX8_depth 21 = .ok (.aload_n 0, 1) := by decide +kernel
theorem dX8_depth_22 : decode cX8_depth 22 = .ok (.getfield 56, 3) := by decide +kernel
theorem dX8_depth_25 : decode cX8_depth 25 = .ok (.iload_n 1, 1) := by decide +kernel
theorem dX8_depth_26 : decode cX8_depth 26 = .ok (.iaload, 1) := by decide +kernel
theorem dX8_depth_27 : decode cX8_depth 27 = .ok (.istore_n 3, 1) := by decide +kernel
theorem dX8_depth_28 : decode cX8_depth 28 = .ok (.iload_n 3, 1) := by decide +kernel
theorem dX8_depth_29 : decode cX8_depth 29 = .ok (.iconst (-1), 1) := by decide +kernel
theorem dX8_depth_30 : decode cX8_depth 30 = .ok (.if_icmp .eq 16, 3) := by decide +kernel
theorem dX8_depth_33 : decode cX8_depth 33 = .ok (.iinc 2 1, 3) := by decide +kernel
theorem dX8_depth_36 : decode cX8_depth 36 = .ok (.aload_n 0, 1) := by decide +kernel
theorem dX8_depth_37 : decode cX8_depth 37 = .ok (.getfield 56, 3) := by decide +kernel
theorem dX8_depth_40 : decode cX8_depth 40 = .ok (.iload_n 3, 1) := by decide +kernel
theorem dX8_depth_41 : decode cX8_depth 41 = .ok (.iaload, 1) := by decide +kernel
theorem dX8_depth_42 : decode cX8_depth 42 = .ok (.istore_n 3, 1) := by decide +kernel
theorem dX8_depth_43 : decode cX8_depth 43 = .ok (.goto (-15), 3) := by decide +kernel
theorem dX8_depth_46 : decode cX8_depth 46 = .ok (.iload_n 2, 1) := by decide +kernel
theorem dX8_depth_47 : decode cX8_depth 47 = .ok (.ireturn, 1) := by decide +kernel
theorem dX8_face_0 : decode cX8_face 0 = .ok (.aload_n 0, 1) := by decide +kernel
theorem dX8_face_1 : decode cX8_face 1 = .ok (.aload_n 0, 1) := by decide +kernel
theorem dX8_face_2 : decode cX8_face 2 = .ok (.iload_n 1, 1) := by decide +kernel
theorem dX8_face_3 : decode cX8_face 3 = .ok (.invokevirtual 189, 3) := by decide +kernel
theorem dX8_face_6 : decode cX8_face 6 = .ok (.ifCond .ne 7, 3) := by decide +kernel
theorem dX8_face_9 : decode cX8_face 9 = .ok (.iconst 1, 1) := by decide +kernel
theorem dX8_face_10 : decode cX8_face 10 = .ok (.goto 53, 3) := by decide +kernel
theorem dX8_face_13 : decode cX8_face 13 = .ok (.iload_n 2, 1) := by decide +kernel
theorem dX8_face_14 : decode cX8_face 14 = .ok (.iconst 0, 1) := by decide +kernel
theorem dX8_face_15 : decode cX8_face 15 = .ok (.bipush 23, 2) := by decide +kernel
theorem dX8_face_17 : decode cX8_face 17 = .ok (.invokestatic 114, 3) := by decide +kernel
theorem dX8_face_20 : decode cX8_face 20 = .ok (.ifCond .eq 24, 3) := by decide +kernel
theorem dX8_face_23 : decode cX8_face 23 = .ok (.iload_n 3, 1) := by decide +kernel
theorem dX8_face_24 : decode cX8_face 24 = .ok (.iconst 1, 1) := by decide +kernel
theorem dX8_face_25 : decode cX8_face 25 = .ok (.bipush 24, 2) := by decide +kernel
theorem dX8_face_27 : decode cX8_face 27 = .ok (.invokestatic 114, 3) := by decide +kernel
theorem dX8_face_30 : decode cX8_face 30 = .ok (.ifCond .eq 14, 3) := by decide +kernel
theorem dX8_face_33 : decode cX8_face 33 = .ok (.iload 4, 2) := by decide +kernel
theorem dX8_face_35 : decode cX8_face 35 = .ok (.iconst 1, 1) := by decide +kernel
theorem dX8_face_36 : decode cX8_face 36 = .ok (.bipush 8, 2) := by decide +kernel
theorem dX8_face_38 : decode cX8_face 38 = .ok (.invokestatic 114, 3) := by decide +kernel
theorem dX8_face_41 : decode cX8_face 41 = .ok (.ifCond .ne 7, 3) := by decide +kernel
theorem dX8_face_44 : decode cX8_face 44 = .ok (.iconst 2, 1) := by decide +kernel
theorem dX8_face_45 : decode cX8_face 45 = .ok (.goto 18, 3) := by decide +kernel
theorem dX8_face_48 : decode cX8_face 48 = .ok (.aload_n 0, 1) := by decide +kernel
theorem dX8_face_49 : decode cX8_face 49 = .ok (.getfield 38, 3) := by decide +kernel
theorem dX8_face_52 : decode cX8_face 52 = .ok (.iload_n 1, 1) := by decide +kernel
theorem dX8_face_53 : decode cX8_face 53 = .ok (.iaload, 1) := by decide +kernel
theorem dX8_face_54 : decode cX8_face 54 = .ok (.iconst 2, 1) := by decide +kernel
theorem dX8_face_55 : decode cX8_face 55 = .ok (.if_icmp .ne 7, 3) := by decide +kernel
theorem dX8_face_58 : decode cX8_face 58 = .ok (.iconst 3, 1) := by decide +kernel
theorem dX8_face_59 : decode cX8_face 59 = .ok (.goto 4, 3) := by decide +kernel
theorem dX8_face_62 : decode cX8_face 62 = .ok (.iconst 0, 1) := by decide +kernel
theorem dX8_face_63 : decode cX8_face 63 = .ok (.putfield 108, 3) := by decide +kernel
theorem dX8_face_66 : decode cX8_face 66 = .ok (.aload_n 0, 1) := by decide +kernel
theorem dX8_face_67 : decode cX8_face 67 = .ok (.getfield 108, 3) := by decide +kernel
theorem dX8_face_70 : decode cX8_face 70 = .ok (.ifCond .le 5, 3) := by decide +kernel
theorem dX8_face_73 : decode cX8_face 73 = .ok (.iconst 0, 1) := by decide +kernel
theorem dX8_face_74 : decode cX8_face 74 = .ok (.ireturn, 1) := by decide +kernel
theorem dX8_face_75 : decode cX8_face 75 = .ok (.aload_n 0, 1) := by decide +kernel
theorem dX8_face_76 : decode cX8_face 76 = .ok (.invokevirtual 179, 3) := by decide +kernel
theorem dX8_face_79 : decode cX8_face 79 = .ok (.bipush 6, 2) := by decide +kernel
theorem dX8_face_81 : decode cX8_face 81 = .ok (.iload_n 1, 1) := by decide +kernel
theorem dX8_face_82 : decode cX8_face 82 = .ok (.imul, 1) := by decide +kernel
theorem dX8_face_83 : decode cX8_face 83 = .ok (.iconst 3, 1) := by decide +kernel
theorem dX8_face_84 : decode cX8_face 84 = .ok (.aload_n 0, 1) := by decide +kernel
theorem dX8_face_85 : decode cX8_face 85 = .ok (.getfield 38, 3) := by decide +kernel
theorem dX8_face_88 : decode cX8_face 88 = .ok (.iload_n 1, 1) := by decide +kernel
theorem dX8_face_89 : decode cX8_face 89 = .ok (.iaload, 1) := by decide +kernel
theorem dX8_face_90 : decode cX8_face 90 = .ok (.imul, 1) := by decide +kernel
theorem dX8_face_91 : decode cX8_face 91 = .ok (.iadd, 1) := by decide +kernel
theorem dX8_face_92 : decode cX8_face 92 = .ok (.istore 5, 2) := by decide +kernel
theorem dX8_face_94 : decode cX8_face 94 = .ok (.aload_n 0, 1) := by decide +kernel
theorem dX8_face_95 : decode cX8_face 95 = .ok (.getfield 41, 3) := by decide +kernel
theorem dX8_face_98 : decode cX8_face 98 = .ok (.iload 5, 2) := by decide +kernel
theorem dX8_face_100 : decode cX8_face 100 = .ok (.iload_n 2, 1) := by decide +kernel
theorem dX8_face_101 : decode cX8_face 101 = .ok (.iastore, 1) := by decide +kernel
theorem dX8_face_102 : decode cX8_face 102 = .ok (.aload_n 0, 1) := by decide +kernel
theorem dX8_face_103 : decode cX8_face 103 = .ok (.getfield 41, 3) := by decide +kernel
theorem dX8_face_106 : decode cX8_face 106 = .ok (.iload 5, 2) := by decide +kernel
theorem dX8_face_108 : decode cX8_face 108 = .ok (.iconst 1, 1) := by decide +kernel
theorem dX8_face_109 : decode cX8_face 109 = .ok (.iadd, 1) := by decide +kernel
theorem dX8_face_110 : decode cX8_face 110 = .ok (.iload_n 3, 1) := by decide +kernel
theorem dX8_face_111 : decode cX8_face 111 = .ok (.iastore, 1) := by decide +kernel
theorem dX8_face_112 : decode cX8_face 112 = .ok (.aload_n 0, 1) := by decide +kernel
theorem dX8_face_113 : decode cX8_face 113 = .ok (.getfield 41, 3) := by decide +kernel
theorem dX8_face_116 : decode cX8_face 116 = .ok (.iload 5, 2) := by decide +kernel
theorem dX8_face_118 : decode cX8_face 118 = .ok (.iconst 2, 1) := by decide +kernel
theorem dX8_face_119 : decode cX8_face 119 = .ok (.iadd, 1) := by decide +kernel
theorem dX8_face_120 : decode cX8_face 120 = .ok (.iload 4, 2) := by decide +kernel
theorem dX8_face_122 : decode cX8_face 122 = .ok (.iastore, 1) := by decide +kernel
theorem dX8_face_123 : decode cX8_face 123 = .ok (.aload_n 0, 1) := by decide +kernel
theorem dX8_face_124 : decode cX8_face 124 = .ok (.getfield 38, 3) := by decide +kernel
theorem dX8_face_127 : decode cX8_face 127 = .ok (.iload_n 1, 1) := by decide +kernel
theorem dX8_face_128 : decode cX8_face 128 = .ok (.dup2, 1) := by decide +kernel
theorem dX8_face_129 : decode cX8_face 129 = .ok (.iaload, 1) := by decide +kernel
theorem dX8_face_130 : decode cX8_face 130 = .ok (.iconst 1, 1) := by decide +kernel
theorem dX8_face_131 : decode cX8_face 131 = .ok (.iadd, 1) := by decide +kernel
theorem dX8_face_132 : decode cX8_face 132 = .ok (.iastore, 1) := by decide +kernel
theorem dX8_face_133 : decode cX8_face 133 = .ok (.aload_n 0, 1) := by decide +kernel
theorem dX8_face_134 : decode cX8_face 134 = .ok (.aload_n 0, 1) := by decide +kernel
theorem dX8_face_135 : decode cX8_face 135 = .ok (.invokevirtual 186, 3) := by decide +kernel
theorem dX8_face_138 : decode cX8_face 138 = .ok (.ifCond .eq 7, 3) := by decide +kernel
theorem dX8_face_141 : decode cX8_face 141 = .ok (.iconst 0, 1) := by decide +kernel
theorem dX8_face_142 : decode cX8_face 142 = .ok (.goto 4, 3) := by decide +kernel
theorem dX8_face_145 : decode cX8_face 145 = .ok (.iconst 3, 1) := by decide +kernel
theorem dX8_face_146 : decode cX8_face 146 = .ok (.putfield 108, 3) := by decide +kernel
theorem dX8_face_149 : decode cX8_face 149 = .ok (.aload_n 0, 1) := by decide +kernel
theorem dX8_face_150 : decode cX8_face 150 = .ok (.getfield 108, 3) := by decide +kernel
theorem dX8_face_153 : decode cX8_face 153 = .ok (.ifCond .le 7, 3) := by decide +kernel
theorem dX8_face_156 : decode cX8_face 156 = .ok (.iconst 0, 1) := by decide +kernel
theorem dX8_face_157 : decode cX8_face 157 = .ok (.goto 13, 3) := by decide +kernel
theorem dX8_face_160 : decode cX8_face 160 = .ok (.aload_n 0, 1) := by decide +kernel
theorem dX8_face_161 : decode cX8_face 161 = .ok (.getfield 59, 3) := by decide +kernel
theorem dX8_face_164 : decode cX8_face 164 = .ok (.iconst 5, 1) := by decide +kernel
theorem dX8_face_165 : decode cX8_face 165 = .ok (.iload_n 1, 1) := by decide +kernel
theorem dX8_face_166 : decode cX8_face 166 = .ok (.imul, 1) := by decide +kernel
theorem dX8_face_167 : decode cX8_face 167 = .ok (.iconst 4, 1) := by decide +kernel
theorem dX8_face_168 : decode cX8_face 168 = .ok (.iadd, 1) := by decide +kernel
theorem dX8_face_169 : decode cX8_face 169 = .ok (.iaload, 1) := by decide +kernel
theorem dX8_face_170 : decode cX8_face 170 = .ok (.ireturn, 1) := by decide +kernel
theorem dX8_fails_0 : decode cX8_fails 0 = .ok (.aload_n 0, 1) := by decide +kernel
theorem dX8_fails_1 : decode cX8_fails 1 = .ok (.iload_n 1, 1) := by decide +kernel
theorem dX8_fails_2 : decode cX8_fails 2 = .ok (.putfield 108, 3) := by decide +kernel
theorem dX8_fails_5 : decode cX8_fails 5 = .ok (.iconst 0, 1) := by decide +kernel
theorem dX8_fails_6 : decode cX8_fails 6 = .ok (.ireturn, 1) := by decide +kernel
theorem dX8_find_0 : decode cX8_find 0 = .ok (.iconst 0, 1) := by decide +kernel
theorem dX8_find_1 : decode cX8_find 1 = .ok (.istore_n 3, 1) := by decide +kernel
theorem dX8_find_2 : decode cX8_find 2 = .ok (.aload_n 0, 1) := by decide +kernel
theorem dX8_find_3 : decode cX8_find 3 = .ok (.iload_n 1, 1) := by decide +kernel
theorem dX8_find_4 : decode cX8_find 4 = .ok (.iload_n 3, 1) := by decide +kernel
theorem dX8_find_5 : decode cX8_find 5 = .ok (.iadd, 1) := by decide +kernel
theorem dX8_find_6 : decode cX8_find 6 = .ok (.iaload, 1) := by decide +kernel
theorem dX8_find_7 : decode cX8_find 7 = .ok (.iload_n 2, 1) := by decide +kernel
theorem dX8_find_8 : decode cX8_find 8 = .ok (.if_icmp .eq 9, 3) := by decide +kernel
theorem dX8_find_11 : decode cX8_find 11 = .ok (.iinc 3 1, 3) := by decide +kernel
theorem dX8_find_14 : decode cX8_find 14 = .ok (.goto (-12), 3) := by decide +kernel
theorem dX8_find_17 : decode cX8_find 17 = .ok (.iload_n 3, 1) := by decide +kernel
theorem dX8_find_18 : decode cX8_find 18 = .ok (.ireturn, 1) := by decide +kernel
theorem dX8_floats_0 : decode cX8_floats 0 = .ok (.aload_n 0, 1) := by decide +kernel
theorem dX8_floats_1 : decode cX8_floats 1 = .ok (.aload_n 0, 1) := by decide +kernel
theorem dX8_floats_2 : decode cX8_floats 2 = .ok (.iload_n 1, 1) := by decide +kernel
theorem dX8_floats_3 : decode cX8_floats 3 = .ok (.invokevirtual 205, 3) := by decide +kernel
theorem dX8_floats_6 : decode cX8_floats 6 = .ok (.ifCond .ne 7, 3) := by decide +kernel
theorem dX8_floats_9 : decode cX8_floats 9 = .ok (.iconst 1, 1) := by decide +kernel
theorem dX8_floats_10 : decode cX8_floats 10 = .ok (.goto 17, 3) := by decide +kernel
theorem dX8_floats_13 : decode cX8_floats 13 = .ok (.iload_n 2, 1) := by decide +kernel
theorem dX8_floats_14 : decode cX8_floats 14 = .ok (.iconst 0, 1) := by decide +kernel
theorem dX8_floats_15 : decode cX8_floats 15 = .ok (.iconst 4, 1) := by decide +kernel
theorem dX8_floats_16 : decode cX8_floats 16 = .ok (.invokestatic 114, 3) := by decide +kernel
theorem dX8_floats_19 : decode cX8_floats 19 = .ok (.ifCond .eq 7, 3) := by decide +kernel
theorem dX8_floats_22 : decode cX8_floats 22 = .ok (.iconst 0, 1) := by decide +kernel
theorem dX8_floats_23 : decode cX8_floats 23 = .ok (.goto 4, 3) := by decide +kernel
theorem dX8_floats_26 : decode cX8_floats 26 = .ok (.iconst 2, 1) := by decide +kernel
theorem dX8_floats_27 : decode cX8_floats 27 = .ok (.putfield 108, 3) := by decide +kernel
theorem dX8_floats_30 : decode cX8_floats 30 = .ok (.aload_n 0, 1) := by decide +kernel
theorem dX8_floats_31 : decode cX8_floats 31 = .ok (.getfield 108, 3) := by decide +kernel
theorem dX8_floats_34 : decode cX8_floats 34 = .ok (.ifCond .le 7, 3) := by decide +kernel
theorem dX8_floats_37 : decode cX8_floats 37 = .ok (.iconst 0, 1) := by decide +kernel
theorem dX8_floats_38 : decode cX8_floats 38 = .ok (.goto 28, 3) := by decide +kernel
theorem dX8_floats_41 : decode cX8_floats 41 = .ok (.iload_n 2, 1) := by decide +kernel
theorem dX8_floats_42 : decode cX8_floats 42 = .ok (.ifCond .ne 12, 3) := by decide +kernel
theorem dX8_floats_45 : decode cX8_floats 45 = .ok (.aload_n 0, 1) := by decide +kernel
theorem dX8_floats_46 : decode cX8_floats 46 = .ok (.getfield 50, 3) := by decide +kernel
theorem dX8_floats_49 : decode cX8_floats 49 = .ok (.iload_n 1, 1) := by decide +kernel
theorem dX8_floats_50 : decode cX8_floats 50 = .ok (.iaload, 1) := by decide +kernel
theorem dX8_floats_51 : decode cX8_floats 51 = .ok (.goto 15, 3) := by decide +kernel
theorem dX8_floats_54 : decode cX8_floats 54 = .ok (.aload_n 0, 1) := by decide +kernel
theorem dX8_floats_55 : decode cX8_floats 55 = .ok (.getfield 62, 3) := by decide +kernel
theorem dX8_floats_58 : decode cX8_floats 58 = .ok (.iconst 4, 1) := by decide +kernel
theorem dX8_floats_59 : decode cX8_floats 59 = .ok (.iload_n 1, 1) := by decide +kernel
theorem dX8_floats_60 : decode cX8_floats 60 = .ok (.imul, 1) := by decide +kernel
theorem dX8_floats_61 : decode cX8_floats 61 = .ok (.iload_n 2, 1) := by decide +kernel
theorem dX8_floats_62 : decode cX8_floats 62 = .ok (.iadd, 1) := by decide +kernel
theorem dX8_floats_63 : decode cX8_floats 63 = .ok (.iconst 1, 1) := by decide +kernel
theorem dX8_floats_64 : decode cX8_floats 64 = .ok (.isub, 1) := by decide +kernel
theorem dX8_floats_65 : decode cX8_floats 65 = .ok (.iaload, 1) := by decide +kernel
theorem dX8_floats_66 : decode cX8_floats 66 = .ok (.ireturn, 1) := by decide +kernel
theorem dX8_forth_0 : decode cX8_forth 0 = .ok (.aload_n 0, 1) := by decide +kernel
theorem dX8_forth_1 : decode cX8_forth 1 = .ok (.iconst 0, 1) := by decide +kernel
theorem dX8_forth_2 : decode cX8_forth 2 = .ok (.putfield 108, 3) := by decide +kernel
theorem dX8_forth_5 : decode cX8_forth 5 = .ok (.aload_n 0, 1) := by decide +kernel
theorem dX8_forth_6 : decode cX8_forth 6 = .ok (.getfield 101, 3) := by decide +kernel
