theorem dJ15_checkIndex_7cf53_0 : decode cJ15_checkIndex_7cf53 0 = .ok (.iload_n 0, 1) := by decide +kernel
theorem dJ15_checkIndex_7cf53_1 : decode cJ15_checkIndex_7cf53 1 = .ok (.iload_n 1, 1) := by decide +kernel
theorem dJ15_checkIndex_7cf53_2 : decode cJ15_checkIndex_7cf53 2 = .ok (.aconst_null, 1) := by decide +kernel
theorem dJ15_checkIndex_7cf53_3 : decode cJ15_checkIndex_7cf53 3 = .ok (.invokestatic 105, 3) := by decide +kernel
theorem dJ15_checkIndex_7cf53_6 : decode cJ15_checkIndex_7cf53 6 = .ok (.ireturn, 1) := by decide +kernel
theorem dJ3_checkIndex_8e157_0 : decode cJ3_checkIndex_8e157 0 = .ok (.iload_n 0, 1) := by decide +kernel
theorem dJ3_checkIndex_8e157_1 : decode cJ3_checkIndex_8e157 1 = .ok (.ifCond .lt 8, 3) := by decide +kernel
theorem dJ3_checkIndex_8e157_4 : decode cJ3_checkIndex_8e157 4 = .ok (.iload_n 0, 1) := by decide +kernel
theorem dJ3_checkIndex_8e157_5 : decode cJ3_checkIndex_8e157 5 = .ok (.iload_n 1, 1) := by decide +kernel
theorem dJ3_checkIndex_8e157_6 : decode cJ3_checkIndex_8e157 6 = .ok (.if_icmp .lt 10, 3) := by decide +kernel
theorem dJ3_checkIndex_8e157_9 : decode cJ3_checkIndex_8e157 9 = .ok (.aload_n 2, 1) := by decide +kernel
theorem dJ3_checkIndex_8e157_10 : decode cJ3_checkIndex_8e157 10 = .ok (.iload_n 0, 1) := by decide +kernel
theorem dJ3_checkIndex_8e157_11 : decode cJ3_checkIndex_8e157 11 = .ok (.iload_n 1, 1) := by decide +kernel
theorem dJ3_checkIndex_8e157_12 : decode cJ3_checkIndex_8e157 12 = .ok (.invokestatic 95, 3) := by decide +kernel
theorem dJ3_checkIndex_8e157_16 : decode cJ3_checkIndex_8e157 16 = .ok (.iload_n 0, 1) := by decide +kernel
theorem dJ3_checkIndex_8e157_17 : decode cJ3_checkIndex_8e157 17 = .ok (.ireturn, 1) := by decide +kernel
theorem dJ7_copyOf_1904c_0 : decode cJ7_copyOf_1904c 0 = .ok (.aload_n 0, 1) := by decide +kernel
theorem dJ7_copyOf_1904c_1 : decode cJ7_copyOf_1904c 1 = .ok (.iload_n 1, 1) := by decide +kernel
theorem dJ7_copyOf_1904c_2 : decode cJ7_copyOf_1904c 2 = .ok (.aload_n 0, 1) := by decide +kernel
theorem dJ7_copyOf_1904c_3 : decode cJ7_copyOf_1904c 3 = .ok (.invokevirtual 86, 3) := by decide +kernel
theorem dJ7_copyOf_1904c_6 : decode cJ7_copyOf_1904c 6 = .ok (.invokestatic 300, 3) := by decide +kernel
theorem dJ7_copyOf_1904c_9 : decode cJ7_copyOf_1904c 9 = .ok (.areturn, 1) := by decide +kernel
theorem dJ7_copyOf_6403c_0 : decode cJ7_copyOf_6403c 0 = .ok (.aload_n 2, 1) := by decide +kernel
theorem dJ7_copyOf_6403c_1 : decode cJ7_copyOf_6403c 1 = .ok (.ldc 110, 2) := by decide +kernel
theorem dJ7_copyOf_6403c_3 : decode cJ7_copyOf_6403c 3 = .ok (.if_acmp .ne 10, 3) := by decide +kernel
theorem dJ7_copyOf_6403c_6 : decode cJ7_copyOf_6403c 6 = .ok (.iload_n 1, 1) := by decide +kernel
theorem dJ7_copyOf_6403c_7 : decode cJ7_copyOf_6403c 7 = .ok (.anewarray 2, 3) := by decide +kernel
theorem dJ7_copyOf_6403c_10 : decode cJ7_copyOf_6403c 10 = .ok (.goto 14, 3) := by decide +kernel
theorem dJ7_copyOf_6403c_13 : decode cJ7_copyOf_6403c 13 = .ok (.aload_n 2, 1) := by decide +kernel
theorem dJ7_copyOf_6403c_14 : decode cJ7_copyOf_6403c 14 = .ok (.invokevirtual 90, 3) := by decide +kernel
theorem dJ7_copyOf_6403c_24 : decode cJ7_copyOf_6403c 24 = .ok (.astore_n 3, 1) := by decide +kernel
theorem dJ7_copyOf_6403c_25 : decode cJ7_copyOf_6403c 25 = .ok (.aload_n 0, 1) := by decide +kernel
theorem dJ7_copyOf_6403c_26 : decode cJ7_copyOf_6403c 26 = .ok (.iconst 0, 1) := by decide +kernel
theorem dJ7_copyOf_6403c_27 : decode cJ7_copyOf_6403c 27 = .ok (.aload_n 3, 1) := by decide +kernel
theorem dJ7_copyOf_6403c_28 : decode cJ7_copyOf_6403c 28 = .ok (.iconst 0, 1) := by decide +kernel
theorem dJ7_copyOf_6403c_29 : decode cJ7_copyOf_6403c 29 = .ok (.aload_n 0, 1) := by decide +kernel
theorem dJ7_copyOf_6403c_30 : decode cJ7_copyOf_6403c 30 = .ok (.arraylength, 1) := by decide +kernel
theorem dJ7_copyOf_6403c_31 : decode cJ7_copyOf_6403c 31 = .ok (.iload_n 1, 1) := by decide +kernel
theorem dJ7_copyOf_6403c_32 : decode cJ7_copyOf_6403c 32 = .ok (.invokestatic 304, 3) := by decide +kernel
theorem dJ7_copyOf_6403c_35 : decode cJ7_copyOf_6403c 35 = .ok (.invokestatic 150, 3) := by decide +kernel
theorem dJ7_copyOf_6403c_38 : decode cJ7_copyOf_6403c 38 = .ok (.aload_n 3, 1) := by decide +kernel
theorem dJ7_copyOf_6403c_39 : decode cJ7_copyOf_6403c 39 = .ok (.areturn, 1) := by decide +kernel
theorem dJ8_newLength_cabcc_0 : decode cJ8_newLength_cabcc 0 = .ok (.iload_n 0, 1) := by decide +kernel
theorem dJ8_newLength_cabcc_1 : decode cJ8_newLength_cabcc 1 = .ok (.iload_n 1, 1) := by decide +kernel
theorem dJ8_newLength_cabcc_2 : decode cJ8_newLength_cabcc 2 = .ok (.iload_n 2, 1) := by decide +kernel
theorem dJ8_newLength_cabcc_3 : decode cJ8_newLength_cabcc 3 = .ok (.invokestatic 194, 3) := by decide +kernel
theorem dJ8_newLength_cabcc_6 : decode cJ8_newLength_cabcc 6 = .ok (.iadd, 1) := by decide +kernel
theorem dJ8_newLength_cabcc_7 : decode cJ8_newLength_cabcc 7 = .ok (.istore_n 3, 1) := by decide +kernel
theorem dJ8_newLength_cabcc_8 : decode cJ8_newLength_cabcc 8 = .ok (.iconst 0, 1) := by decide +kernel
theorem dJ8_newLength_cabcc_9 : decode cJ8_newLength_cabcc 9 = .ok (.iload_n 3, 1) := by decide +kernel
theorem dJ8_newLength_cabcc_10 : decode cJ8_newLength_cabcc 10 = .ok (.if_icmp .ge 11, 3) := by decide +kernel
theorem dJ8_newLength_cabcc_13 : decode cJ8_newLength_cabcc 13 = .ok (.iload_n 3, 1) := by decide +kernel
theorem dJ8_newLength_cabcc_14 : decode cJ8_newLength_cabcc 14 = .ok (.ldc 200, 2) := by decide +kernel
theorem dJ8_newLength_cabcc_16 : decode cJ8_newLength_cabcc 16 = .ok (.if_icmp .gt 5, 3) := by decide +kernel
theorem dJ8_newLength_cabcc_19 : decode cJ8_newLength_cabcc 19 = .ok (.iload_n 3, 1) := by decide +kernel
theorem dJ8_newLength_cabcc_20 : decode cJ8_newLength_cabcc 20 = .ok (.ireturn, 1) := by decide +kernel
theorem dJ8_newLength_cabcc_21 : decode cJ8_newLength_cabcc 21 = .ok (.iload_n 0, 1) := by decide +kernel
theorem dJ8_newLength_cabcc_22 : decode cJ8_newLength_cabcc 22 = .ok (.iload_n 1, 1) := by decide +kernel
theorem dJ8_newLength_cabcc_23 : decode cJ8_newLength_cabcc 23 = .ok (.invokestatic 201, 3) := by decide +kernel
theorem dJx4a65c_add_72be8_0 : decode cJx4a65c_add_72be8 0 = .ok (.iload_n 3, 1) := by decide +kernel
theorem dJx4a65c_add_72be8_1 : decode cJx4a65c_add_72be8 1 = .ok (.aload_n 2, 1) := by decide +kernel
theorem dJx4a65c_add_72be8_2 : decode cJx4a65c_add_72be8 2 = .ok (.arraylength, 1) := by decide +kernel
theorem dJx4a65c_add_72be8_3 : decode cJx4a65c_add_72be8 3 = .ok (.if_icmp .ne 8, 3) := by decide +kernel
theorem dJx4a65c_add_72be8_6 : decode cJx4a65c_add_72be8 6 = .ok (.aload_n 0, 1) := by decide +kernel
theorem dJx4a65c_add_72be8_7 : decode cJx4a65c_add_72be8 7 = .ok (.invokevirtual 129, 3) := by decide +kernel
theorem dJx4a65c_add_72be8_10 : decode cJx4a65c_add_72be8 10 = .ok (.astore_n 2, 1) := by decide +kernel
theorem dJx4a65c_add_72be8_11 : decode cJx4a65c_add_72be8 11 = .ok (.aload_n 2, 1) := by decide +kernel
theorem dJx4a65c_add_72be8_12 : decode cJx4a65c_add_72be8 12 = .ok (.iload_n 3, 1) := by decide +kernel
theorem dJx4a65c_add_72be8_13 : decode cJx4a65c_add_72be8 13 = .ok (.aload_n 1, 1) := by decide +kernel
theorem dJx4a65c_add_72be8_14 : decode cJx4a65c_add_72be8 14 = .ok (.aastore, 1) := by decide +kernel
theorem dJx4a65c_add_72be8_15 : decode cJx4a65c_add_72be8 15 = .ok (.aload_n 0, 1) := by decide +kernel
theorem dJx4a65c_add_72be8_16 : decode cJx4a65c_add_72be8 16 = .ok (.iload_n 3, 1) := by decide +kernel
theorem dJx4a65c_add_72be8_17 : decode cJx4a65c_add_72be8 17 = .ok (.iconst 1, 1) := by decide +kernel
theorem dJx4a65c_add_72be8_18 : decode cJx4a65c_add_72be8 18 = .ok (.iadd, 1) := by decide +kernel
theorem dJx4a65c_add_72be8_19 : decode cJx4a65c_add_72be8 19 = .ok (.putfield 48, 3) := by decide +kernel
theorem dJx4a65c_add_72be8_22 : decode cJx4a65c_add_72be8 22 = .ok (.return_, 1) := by decide +kernel
theorem dJx4a65c_add_7a177_0 : decode cJx4a65c_add_7a177 0 = .ok (.aload_n 0, 1) := by decide +kernel
theorem dJx4a65c_add_7a177_1 : decode cJx4a65c_add_7a177 1 = .ok (.iload_n 1, 1) := by decide +kernel
theorem dJx4a65c_add_7a177_2 : decode cJx4a65c_add_7a177 2 = .ok (.invokevirtual 135, 3) := by decide +kernel
theorem dJx4a65c_add_7a177_5 : decode cJx4a65c_add_7a177 5 = .ok (.aload_n 0, 1) := by decide +kernel
theorem dJx4a65c_add_7a177_6 : decode cJx4a65c_add_7a177 6 = .ok (.dup, 1) := by decide +kernel
theorem dJx4a65c_add_7a177_7 : decode cJx4a65c_add_7a177 7 = .ok (.getfield 63, 3) := by decide +kernel
theorem dJx4a65c_add_7a177_10 : decode cJx4a65c_add_7a177 10 = .ok (.iconst 1, 1) := by decide +kernel
theorem dJx4a65c_add_7a177_11 : decode cJx4a65c_add_7a177 11 = .ok (.iadd, 1) := by decide +kernel
theorem dJx4a65c_add_7a177_12 : decode cJx4a65c_add_7a177 12 = .ok (.putfield 63, 3) := by decide +kernel
theorem dJx4a65c_add_7a177_15 : decode cJx4a65c_add_7a177 15 = .ok (.aload_n 0, 1) := by decide +kernel
theorem dJx4a65c_add_7a177_16 : decode cJx4a65c_add_7a177 16 = .ok (.getfield 48, 3) := by decide +kernel
theorem dJx4a65c_add_7a177_19 : decode cJx4a65c_add_7a177 19 = .ok (.dup, 1) := by decide +kernel
theorem dJx4a65c_add_7a177_20 : decode cJx4a65c_add_7a177 20 = .ok (.istore_n 3, 1) := by decide +kernel
theorem dJx4a65c_add_7a177_21 : decode cJx4a65c_add_7a177 21 = .ok (.aload_n 0, 1) := by decide +kernel
theorem dJx4a65c_add_7a177_22 : decode cJx4a65c_add_7a177 22 = .ok (.getfield 9, 3) := by decide +kernel
theorem dJx4a65c_add_7a177_25 : decode cJx4a65c_add_7a177 25 = .ok (.dup, 1) := by decide +kernel
theorem dJx4a65c_add_7a177_26 : decode cJx4a65c_add_7a177 26 = .ok (.astore 4, 2) := by decide +kernel
theorem dJx4a65c_add_7a177_28 : decode cJx4a65c_add_7a177 28 = .ok (.arraylength, 1) := by decide +kernel
theorem dJx4a65c_add_7a177_29 : decode cJx4a65c_add_7a177 29 = .ok (.if_icmp .ne 9, 3) := by decide +kernel
theorem dJx4a65c_add_7a177_32 : decode cJx4a65c_add_7a177 32 = .ok (.aload_n 0, 1) := by decide +kernel
theorem dJx4a65c_add_7a177_33 : decode cJx4a65c_add_7a177 33 = .ok (.invokevirtual 129, 3) := by decide +kernel
theorem dJx4a65c_add_7a177_36 : decode cJx4a65c_add_7a177 36 = .ok (.astore 4, 2) := by decide +kernel
theorem dJx4a65c_add_7a177_38 : decode cJx4a65c_add_7a177 38 = .ok (.aload 4, 2) := by decide +kernel
theorem dJx4a65c_add_7a177_40 : decode cJx4a65c_add_7a177 40 = .ok (.iload_n 1, 1) := by decide +kernel
theorem dJx4a65c_add_7a177_41 : decode cJx4a65c_add_7a177 41 = .ok (.aload 4, 2) := by decide +kernel
theorem dJx4a65c_add_7a177_43 : decode cJx4a65c_add_7a177 43 = .ok (.iload_n 1, 1) := by decide +kernel
theorem dJx4a65c_add_7a177_44 : decode cJx4a65c_add_7a177 44 = .ok (.iconst 1, 1) := by decide +kernel
theorem dJx4a65c_add_7a177_45 : decode cJx4a65c_add_7a177 45 = .ok (.iadd, 1) := by decide +kernel
theorem dJx4a65c_add_7a177_46 : decode cJx4a65c_add_7a177 46 = .ok (.iload_n 3, 1) := by decide +kernel
theorem dJx4a65c_add_7a177_47 : decode cJx4a65c_add_7a177 47 = .ok (.iload_n 1, 1) := by decide +kernel
theorem dJx4a65c_add_7a177_48 : decode cJx4a65c_add_7a177 48 = .ok (.isub, 1) := by decide +kernel
theorem dJx4a65c_add_7a177_49 : decode cJx4a65c_add_7a177 49 = .ok (.invokestatic 112, 3) := by decide +kernel
theorem dJx4a65c_add_7a177_52 : decode cJx4a65c_add_7a177 52 = .ok (.aload 4, 2) := by decide +kernel
theorem dJx4a65c_add_7a177_54 : decode cJx4a65c_add_7a177 54 = .ok (.iload_n 1, 1) := by decide +kernel
theorem dJx4a65c_add_7a177_55 : decode cJx4a65c_add_7a177 55 = .ok (.aload_n 2, 1) := by decide +kernel
theorem dJx4a65c_add_7a177_56 : decode cJx4a65c_add_7a177 56 = .ok (.aastore, 1) := by decide +kernel
theorem dJx4a65c_add_7a177_57 : decode cJx4a65c_add_7a177 57 = .ok (.aload_n 0, 1) := by decide +kernel
theorem dJx4a65c_add_7a177_58 : decode cJx4a65c_add_7a177 58 = .ok (.iload_n 3, 1) := by decide +kernel
theorem dJx4a65c_add_7a177_59 : decode cJx4a65c_add_7a177 59 = .ok (.iconst 1, 1) := by decide +kernel
theorem dJx4a65c_add_7a177_60 : decode cJx4a65c_add_7a177 60 = .ok (.iadd, 1) := by decide +kernel
theorem dJx4a65c_add_7a177_61 : decode cJx4a65c_add_7a177 61 = .ok (.putfield 48, 3) := by decide +kernel
theorem dJx4a65c_add_7a177_64 : decode cJx4a65c_add_7a177 64 = .ok (.return_, 1) := by decide +kernel
theorem dJx4a65c_add_9ea2d_0 : decode cJx4a65c_add_9ea2d 0 = .ok (.aload_n 0, 1) := by decide +kernel
theorem dJx4a65c_add_9ea2d_1 : decode cJx4a65c_add_9ea2d 1 = .ok (.dup, 1) := by decide +kernel
theorem dJx4a65c_add_9ea2d_2 : decode cJx4a65c_add_9ea2d 2 = .ok (.getfield 63, 3) := by decide +kernel
theorem dJx4a65c_add_9ea2d_5 : decode cJx4a65c_add_9ea2d 5 = .ok (.iconst 1, 1) := by decide +kernel
theorem dJx4a65c_add_9ea2d_6 : decode cJx4a65c_add_9ea2d 6 = .ok (.iadd, 1) := by decide +kernel
theorem dJx4a65c_add_9ea2d_7 : decode cJx4a65c_add_9ea2d 7 = .ok (.putfield 63, 3) := by decide +kernel
theorem dJx4a65c_add_9ea2d_10 : decode cJx4a65c_add_9ea2d 10 = .ok (.aload_n 0, 1) := by decide +kernel
theorem dJx4a65c_add_9ea2d_11 : decode cJx4a65c_add_9ea2d 11 = .ok (.aload_n 1, 1) := by decide +kernel
theorem dJx4a65c_add_9ea2d_12 : decode cJx4a65c_add_9ea2d 12 = .ok (.aload_n 0, 1) := by decide +kernel
theorem dJx4a65c_add_9ea2d_13 : decode cJx4a65c_add_9ea2d 13 = .ok (.getfield 9, 3) := by decide +kernel
theorem dJx4a65c_add_9ea2d_16 : decode cJx4a65c_add_9ea2d 16 = .ok (.aload_n 0, 1) := by decide +kernel
theorem dJx4a65c_add_9ea2d_17 : decode cJx4a65c_add_9ea2d 17 = .ok (.getfield 48, 3) := by decide +kernel
theorem dJx4a65c_add_9ea2d_20 : decode cJx4a65c_add_9ea2d 20 = .ok (.invokevirtual 131, 3) := by decide +kernel
theorem dJx4a65c_add_9ea2d_23 : decode cJx4a65c_add_9ea2d 23 = .ok (.iconst 1, 1) := by decide +kernel
theorem dJx4a65c_add_9ea2d_24 : decode cJx4a65c_add_9ea2d 24 = .ok (.ireturn, 1) := by decide +kernel
theorem dJx4a65c_elementData_915e3_0 : decode cJx4a65c_elementData_915e3 0 = .ok (.aload_n 0, 1) := by decide +kernel
theorem dJx4a65c_elementData_915e3_1 : decode cJx4a65c_elementData_915e3 1 = .ok (.getfield 9, 3) := by decide +kernel
theorem dJx4a65c_elementData_915e3_4 : decode cJx4a65c_elementData_915e3 4 = .ok (.iload_n 1, 1) := by decide +kernel
theorem dJx4a65c_elementData_915e3_5 : decode cJx4a65c_elementData_915e3 5 = .ok (.aaload, 1) := by decide +kernel
theorem dJx4a65c_elementData_915e3_6 : decode cJx4a65c_elementData_915e3 6 = .ok (.areturn, 1) := by decide +kernel
theorem dJx4a65c_fastRemove_b59b0_0 : decode cJx4a65c_fastRemove_b59b0 0 = .ok (.aload_n 0, 1) := by decide +kernel
theorem dJx4a65c_fastRemove_b59b0_1 : decode cJx4a65c_fastRemove_b59b0 1 = .ok (.dup, 1) := by decide +kernel
theorem dJx4a65c_fastRemove_b59b0_2 : decode cJx4a65c_fastRemove_b59b0 2 = .ok (.getfield 63, 3) := by decide +kernel
theorem dJx4a65c_fastRemove_b59b0_5 : decode cJx4a65c_fastRemove_b59b0 5 = .ok (.iconst 1, 1) := by decide +kernel
theorem dJx4a65c_fastRemove_b59b0_6 : decode cJx4a65c_fastRemove_b59b0 6 = .ok (.iadd, 1) := by decide +kernel
theorem dJx4a65c_fastRemove_b59b0_7 : decode cJx4a65c_fastRemove_b59b0 7 = .ok (.putfield 63, 3) := by decide +kernel
theorem dJx4a65c_fastRemove_b59b0_10 : decode cJx4a65c_fastRemove_b59b0 10 = .ok (.aload_n 0, 1) := by decide +kernel
theorem dJx4a65c_fastRemove_b59b0_11 : decode cJx4a65c_fastRemove_b59b0 11 = .ok (.getfield 48, 3) := by decide +kernel
theorem dJx4a65c_fastRemove_b59b0_14 : decode cJx4a65c_fastRemove_b59b0 14 = .ok (.iconst 1, 1) := by decide +kernel
theorem dJx4a65c_fastRemove_b59b0_15 : decode cJx4a65c_fastRemove_b59b0 15 = .ok (.isub, 1) := by decide +kernel
theorem dJx4a65c_fastRemove_b59b0_16 : decode cJx4a65c_fastRemove_b59b0 16 = .ok (.dup, 1) := by decide +kernel
theorem dJx4a65c_fastRemove_b59b0_17 : decode cJx4a65c_fastRemove_b59b0 17 = .ok (.istore_n 3, 1) := by decide +kernel
theorem dJx4a65c_fastRemove_b59b0_18 : decode cJx4a65c_fastRemove_b59b0 18 = .ok (.iload_n 2, 1) := by decide +kernel
theorem dJx4a65c_fastRemove_b59b0_19 : decode cJx4a65c_fastRemove_b59b0 19 = .ok (.if_icmp .le 15, 3) := by decide +kernel
theorem dJx4a65c_fastRemove_b59b0_22 : decode cJx4a65c_fastRemove_b59b0 22 = .ok (.aload_n 1, 1) := by decide +kernel
theorem dJx4a65c_fastRemove_b59b0_23 : decode cJx4a65c_fastRemove_b59b0 23 = .ok (.iload_n 2, 1) := by decide +kernel
theorem dJx4a65c_fastRemove_b59b0_24 : decode cJx4a65c_fastRemove_b59b0 24 = .ok (.iconst 1, 1) := by decide +kernel
theorem dJx4a65c_fastRemove_b59b0_25 : decode cJx4a65c_fastRemove_b59b0 25 = .ok (.iadd, 1) := by decide +kernel
theorem dJx4a65c_fastRemove_b59b0_26 : decode cJx4a65c_fastRemove_b59b0 26 = .ok (.aload_n 1, 1) := by decide +kernel
theorem dJx4a65c_fastRemove_b59b0_27 : decode cJx4a65c_fastRemove_b59b0 27 = .ok (.iload_n 2, 1) := by decide +kernel
theorem dJx4a65c_fastRemove_b59b0_28 : decode cJx4a65c_fastRemove_b59b0 28 = .ok (.iload_n 3, 1) := by decide +kernel
theorem dJx4a65c_fastRemove_b59b0_29 : decode cJx4a65c_fastRemove_b59b0 29 = .ok (.iload_n 2, 1) := by decide +kernel
theorem dJx4a65c_fastRemove_b59b0_30 : decode cJx4a65c_fastRemove_b59b0 30 = .ok (.isub, 1) := by decide +kernel
theorem dJx4a65c_fastRemove_b59b0_31 : decode cJx4a65c_fastRemove_b59b0 31 = .ok (.invokestatic 112, 3) := by decide +kernel
theorem dJx4a65c_fastRemove_b59b0_34 : decode cJx4a65c_fastRemove_b59b0 34 = .ok (.aload_n 1, 1) := by decide +kernel
theorem dJx4a65c_fastRemove_b59b0_35 : decode cJx4a65c_fastRemove_b59b0 35 = .ok (.aload_n 0, 1) := by decide +kernel
theorem dJx4a65c_fastRemove_b59b0_36 : decode cJx4a65c_fastRemove_b59b0 36 = .ok (.iload_n 3, 1) := by decide +kernel
theorem dJx4a65c_fastRemove_b59b0_37 : decode cJx4a65c_fastRemove_b59b0 37 = .ok (.dup_x1, 1) := by decide +kernel
theorem dJx4a65c_fastRemove_b59b0_38 : decode cJx4a65c_fastRemove_b59b0 38 = .ok (.putfield 48, 3) := by decide +kernel
theorem dJx4a65c_fastRemove_b59b0_41 : decode cJx4a65c_fastRemove_b59b0 41 = .ok (.aconst_null, 1) := by decide +kernel
theorem dJx4a65c_fastRemove_b59b0_42 : decode cJx4a65c_fastRemove_b59b0 42 = .ok (.aastore, 1) := by decide +kernel
theorem dJx4a65c_fastRemove_b59b0_43 : decode cJx4a65c_fastRemove_b59b0 43 = .ok (.return_, 1) := by decide +kernel
theorem dJx4a65c_get_915e3_0 : decode cJx4a65c_get_915e3 0 = .ok (.iload_n 1, 1) := by decide +kernel
theorem dJx4a65c_get_915e3_1 : decode cJx4a65c_get_915e3 1 = .ok (.aload_n 0, 1) := by decide +kernel
theorem dJx4a65c_get_915e3_2 : decode cJx4a65c_get_915e3 2 = .ok (.getfield 48, 3) := by decide +kernel
theorem dJx4a65c_get_915e3_5 : decode cJx4a65c_get_915e3 5 = .ok (.invokestatic 118, 3) := by decide +kernel
theorem dJx4a65c_get_915e3_8 : decode cJx4a65c_get_915e3 8 = .ok (.pop, 1) := by decide +kernel
theorem dJx4a65c_get_915e3_9 : decode cJx4a65c_get_915e3 9 = .ok (.aload_n 0, 1) := by decide +kernel
theorem dJx4a65c_get_915e3_10 : decode cJx4a65c_get_915e3 10 = .ok (.iload_n 1, 1) := by decide +kernel
theorem dJx4a65c_get_915e3_11 : decode cJx4a65c_get_915e3 11 = .ok (.invokevirtual 123, 3) := by decide +kernel
theorem dJx4a65c_get_915e3_14 : decode cJx4a65c_get_915e3 14 = .ok (.areturn, 1) := by decide +kernel
theorem dJx4a65c_grow_92f84_0 : decode cJx4a65c_grow_92f84 0 = .ok (.aload_n 0, 1) := by decide +kernel
theorem dJx4a65c_grow_92f84_1 : decode cJx4a65c_grow_92f84 1 = .ok (.getfield 9, 3) := by decide +kernel
theorem dJx4a65c_grow_92f84_4 : decode cJx4a65c_grow_92f84 4 = .ok (.arraylength, 1) := by decide +kernel
theorem dJx4a65c_grow_92f84_5 : decode cJx4a65c_grow_92f84 5 = .ok (.istore_n 2, 1) := by decide +kernel
theorem dJx4a65c_grow_92f84_6 : decode cJx4a65c_grow_92f84 6 = .ok (.iload_n 2, 1) := by decide +kernel
theorem dJx4a65c_grow_92f84_7 : decode cJx4a65c_grow_92f84 7 = .ok (.ifCond .gt 13, 3) := by decide +kernel
theorem dJx4a65c_grow_92f84_10 : decode cJx4a65c_grow_92f84 10 = .ok (.aload_n 0, 1) := by decide +kernel
theorem dJx4a65c_grow_92f84_11 : decode cJx4a65c_grow_92f84 11 = .ok (.getfield 9, 3) := by decide +kernel
theorem dJx4a65c_grow_92f84_14 : decode cJx4a65c_grow_92f84 14 = .ok (.getstatic 39, 3) := by decide +kernel
theorem dJx4a65c_grow_92f84_17 : decode cJx4a65c_grow_92f84 17 = .ok (.if_acmp .eq 28, 3) := by decide +kernel
theorem dJx4a65c_grow_92f84_20 : decode cJx4a65c_grow_92f84 20 = .ok (.iload_n 2, 1) := by decide +kernel
theorem dJx4a65c_grow_92f84_21 : decode cJx4a65c_grow_92f84 21 = .ok (.iload_n 1, 1) := by decide +kernel
theorem dJx4a65c_grow_92f84_22 : decode cJx4a65c_grow_92f84 22 = .ok (.iload_n 2, 1) := by decide +kernel
theorem dJx4a65c_grow_92f84_23 : decode cJx4a65c_grow_92f84 23 = .ok (.isub, 1) := by decide +kernel
theorem dJx4a65c_grow_92f84_24 : decode cJx4a65c_grow_92f84 24 = .ok (.iload_n 2, 1) := by decide +kernel
theorem dJx4a65c_grow_92f84_25 : decode cJx4a65c_grow_92f84 25 = .ok (.iconst 1, 1) := by decide +kernel
theorem dJx4a65c_grow_92f84_26 : decode cJx4a65c_grow_92f84 26 = .ok (.ishr, 1) := by decide +kernel
theorem dJx4a65c_grow_92f84_27 : decode cJx4a65c_grow_92f84 27 = .ok (.invokestatic 73, 3) := by decide +kernel
theorem dJx4a65c_grow_92f84_30 : decode cJx4a65c_grow_92f84 30 = .ok (.istore_n 3, 1) := by decide +kernel
theorem dJx4a65c_grow_92f84_31 : decode cJx4a65c_grow_92f84 31 = .ok (.aload_n 0, 1) := by decide +kernel
theorem dJx4a65c_grow_92f84_32 : decode cJx4a65c_grow_92f84 32 = .ok (.aload_n 0, 1) := by decide +kernel
theorem dJx4a65c_grow_92f84_33 : decode cJx4a65c_grow_92f84 33 = .ok (.getfield 9, 3) := by decide +kernel
theorem dJx4a65c_grow_92f84_36 : decode cJx4a65c_grow_92f84 36 = .ok (.iload_n 3, 1) := by decide +kernel
theorem dJx4a65c_grow_92f84_37 : decode cJx4a65c_grow_92f84 37 = .ok (.invokestatic 66, 3) := by decide +kernel
theorem dJx4a65c_grow_92f84_40 : decode cJx4a65c_grow_92f84 40 = .ok (.dup_x1, 1) := by decide +kernel
theorem dJx4a65c_grow_92f84_41 : decode cJx4a65c_grow_92f84 41 = .ok (.putfield 9, 3) := by decide +kernel
theorem dJx4a65c_grow_92f84_44 : decode cJx4a65c_grow_92f84 44 = .ok (.areturn, 1) := by decide +kernel
theorem dJx4a65c_grow_92f84_45 : decode cJx4a65c_grow_92f84 45 = .ok (.aload_n 0, 1) := by decide +kernel
theorem dJx4a65c_grow_92f84_46 : decode cJx4a65c_grow_92f84 46 = .ok (.bipush 10, 2) := by decide +kernel
theorem dJx4a65c_grow_92f84_48 : decode cJx4a65c_grow_92f84 48 = .ok (.iload_n 1, 1) := by decide +kernel
theorem dJx4a65c_grow_92f84_49 : decode cJx4a65c_grow_92f84 49 = .ok (.invokestatic 79, 3) := by decide +kernel
theorem dJx4a65c_grow_92f84_52 : decode cJx4a65c_grow_92f84 52 = .ok (.anewarray 7, 3) := by decide +kernel
theorem dJx4a65c_grow_92f84_55 : decode cJx4a65c_grow_92f84 55 = .ok (.dup_x1, 1) := by decide +kernel
theorem dJx4a65c_grow_92f84_56 : decode cJx4a65c_grow_92f84 56 = .ok (.putfield 9, 3) := by decide +kernel
theorem dJx4a65c_grow_92f84_59 : decode cJx4a65c_grow_92f84 59 = .ok (.areturn, 1) := by decide +kernel
theorem dJx4a65c_grow_d5877_0 : decode cJx4a65c_grow_d5877 0 = .ok (.aload_n 0, 1) := by decide +kernel
theorem dJx4a65c_grow_d5877_1 : decode cJx4a65c_grow_d5877 1 = .ok (.aload_n 0, 1) := by decide +kernel
theorem dJx4a65c_grow_d5877_2 : decode cJx4a65c_grow_d5877 2 = .ok (.getfield 48, 3) := by decide +kernel
theorem dJx4a65c_grow_d5877_5 : decode cJx4a65c_grow_d5877 5 = .ok (.iconst 1, 1) := by decide +kernel
theorem dJx4a65c_grow_d5877_6 : decode cJx4a65c_grow_d5877 6 = .ok (.iadd, 1) := by decide +kernel
theorem dJx4a65c_grow_d5877_7 : decode cJx4a65c_grow_d5877 7 = .ok (.invokevirtual 69, 3) := by decide +kernel
theorem dJx4a65c_grow_d5877_10 : decode cJx4a65c_grow_d5877 10 = .ok (.areturn, 1) := by decide +kernel
theorem dJx4a65c_init_da8c8_0 : decode cJx4a65c_init_da8c8 0 = .ok (.aload_n 0, 1) := by decide +kernel
theorem dJx4a65c_init_da8c8_1 : decode cJx4a65c_init_da8c8 1 = .ok (.invokespecial 1, 3) := by decide +kernel
theorem dJx4a65c_init_da8c8_4 : decode cJx4a65c_init_da8c8 4 = .ok (.aload_n 0, 1) := by decide +kernel
theorem dJx4a65c_init_da8c8_5 : decode cJx4a65c_init_da8c8 5 = .ok (.getstatic 39, 3) := by decide +kernel
theorem dJx4a65c_init_da8c8_8 : decode cJx4a65c_init_da8c8 8 = .ok (.putfield 9, 3) := by decide +kernel
theorem dJx4a65c_init_da8c8_11 : decode cJx4a65c_init_da8c8 11 = .ok (.return_, 1) := by decide +kernel
theorem dJx4a65c_rangeCheckForAdd_d00df_0 : decode cJx4a65c_rangeCheckForAdd_d00df 0 = .ok (.iload_n 1, 1) := by decide +kernel
theorem dJx4a65c_rangeCheckForAdd_d00df_1 : decode cJx4a65c_rangeCheckForAdd_d00df 1 = .ok (.aload_n 0, 1) := by decide +kernel
theorem dJx4a65c_rangeCheckForAdd_d00df_2 : decode cJx4a65c_rangeCheckForAdd_d00df 2 = .ok (.getfield 48, 3) := by decide +kernel
theorem dJx4a65c_rangeCheckForAdd_d00df_5 : decode cJx4a65c_rangeCheckForAdd_d00df 5 = .ok (.if_icmp .gt 7, 3) := by decide +kernel
theorem dJx4a65c_rangeCheckForAdd_d00df_8 : decode cJx4a65c_rangeCheckForAdd_d00df 8 = .ok (.iload_n 1, 1) := by decide +kernel
theorem dJx4a65c_rangeCheckForAdd_d00df_9 : decode cJx4a65c_rangeCheckForAdd_d00df 9 = .ok (.ifCond .ge 16, 3) := by decide +kernel
theorem dJx4a65c_rangeCheckForAdd_d00df_12 : decode cJx4a65c_rangeCheckForAdd_d00df 12 = .ok (.new 187, 3) := by decide +kernel
theorem dJx4a65c_rangeCheckForAdd_d00df_25 : decode cJx4a65c_rangeCheckForAdd_d00df 25 = .ok (.return_, 1) := by decide +kernel
theorem dJx4a65c_remove_915e3_0 : decode cJx4a65c_remove_915e3 0 = .ok (.iload_n 1, 1) := by decide +kernel
theorem dJx4a65c_remove_915e3_1 : decode cJx4a65c_remove_915e3 1 = .ok (.aload_n 0, 1) := by decide +kernel
theorem dJx4a65c_remove_915e3_2 : decode cJx4a65c_remove_915e3 2 = .ok (.getfield 48, 3) := by decide +kernel
theorem dJx4a65c_remove_915e3_5 : decode cJx4a65c_remove_915e3 5 = .ok (.invokestatic 118, 3) := by decide +kernel
theorem dJx4a65c_remove_915e3_8 : decode cJx4a65c_remove_915e3 8 = .ok (.pop, 1) := by decide +kernel
theorem dJx4a65c_remove_915e3_9 : decode cJx4a65c_remove_915e3 9 = .ok (.aload_n 0, 1) := by decide +kernel
theorem dJx4a65c_remove_915e3_10 : decode cJx4a65c_remove_915e3 10 = .ok (.getfield 9, 3) := by decide +kernel
theorem dJx4a65c_remove_915e3_13 : decode cJx4a65c_remove_915e3 13 = .ok (.astore_n 2, 1) := by decide +kernel
theorem dJx4a65c_remove_915e3_14 : decode cJx4a65c_remove_915e3 14 = .ok (.aload_n 2, 1) := by decide +kernel
theorem dJx4a65c_remove_915e3_15 : decode cJx4a65c_remove_915e3 15 = .ok (.iload_n 1, 1) := by decide +kernel
theorem dJx4a65c_remove_915e3_16 : decode cJx4a65c_remove_915e3 16 = .ok (.aaload, 1) := by decide +kernel
theorem dJx4a65c_remove_915e3_17 : decode cJx4a65c_remove_915e3 17 = .ok (.astore_n 3, 1) := by decide +kernel
theorem dJx4a65c_remove_915e3_18 : decode cJx4a65c_remove_915e3 18 = .ok (.aload_n 0, 1) := by decide +kernel
theorem dJx4a65c_remove_915e3_19 : decode cJx4a65c_remove_915e3 19 = .ok (.aload_n 2, 1) := by decide +kernel
theorem dJx4a65c_remove_915e3_20 : decode cJx4a65c_remove_915e3 20 = .ok (.iload_n 1, 1) := by decide +kernel
theorem dJx4a65c_remove_915e3_21 : decode cJx4a65c_remove_915e3 21 = .ok (.invokevirtual 144, 3) := by decide +kernel
theorem dJx4a65c_remove_915e3_24 : decode cJx4a65c_remove_915e3 24 = .ok (.aload_n 3, 1) := by decide +kernel
theorem dJx4a65c_remove_915e3_25 : decode cJx4a65c_remove_915e3 25 = .ok (.areturn, 1) := by decide +kernel
theorem dJx4a65c_size_8abf5_0 : decode cJx4a65c_size_8abf5 0 = .ok (.aload_n 0, 1) := by decide +kernel
theorem dJx4a65c_size_8abf5_1 : decode cJx4a65c_size_8abf5 1 = .ok (.getfield 48, 3) := by decide +kernel
theorem dJx4a65c_size_8abf5_4 : decode cJx4a65c_size_8abf5 4 = .ok (.ireturn, 1) := by decide +kernel
theorem dJxa1e45_init_da8c8_0 : decode cJxa1e45_init_da8c8 0 = .ok (.aload_n 0, 1) := by decide +kernel
theorem dJxa1e45_init_da8c8_1 : decode cJxa1e45_init_da8c8 1 = .ok (.invokespecial 1, 3) := by decide +kernel
theorem dJxa1e45_init_da8c8_4 : decode cJxa1e45_init_da8c8 4 = .ok (.return_, 1) := by decide +kernel
theorem dJxc12de_init_da8c8_0 : decode cJxc12de_init_da8c8 0 = .ok (.aload_n 0, 1) := by decide +kernel
theorem dJxc12de_init_da8c8_1 : decode cJxc12de_init_da8c8 1 = .ok (.invokespecial 1, 3) := by decide +kernel
theorem dJxc12de_init_da8c8_4 : decode cJxc12de_init_da8c8 4 = .ok (.aload_n 0, 1) := by decide +kernel
theorem dJxc12de_init_da8c8_5 : decode cJxc12de_init_da8c8 5 = .ok (.iconst 0, 1) := by decide +kernel
theorem dJxc12de_init_da8c8_6 : decode cJxc12de_init_da8c8 6 = .ok (.putfield 7, 3) := by decide +kernel
theorem dJxc12de_init_da8c8_9 : decode cJxc12de_init_da8c8 9 = .ok (.return_, 1) := by decide +kernel
theorem dX0_goTo_0 : decode cX0_goTo 0 = .ok (.aload_n 0, 1) := by decide +kernel
theorem dX0_goTo_1 : decode cX0_goTo 1 = .ok (.getfield 25, 3) := by decide +kernel
theorem dX0_goTo_4 : decode cX0_goTo 4 = .ok (.aload_n 0, 1) := by decide +kernel
theorem dX0_goTo_5 : decode cX0_goTo 5 = .ok (.getfield 25, 3) := by decide +kernel
theorem dX0_goTo_8 : decode cX0_goTo 8 = .ok (.aload_n 0, 1) := by decide +kernel
theorem dX0_goTo_9 : decode cX0_goTo 9 = .ok (.invokevirtual 32, 3) := by decide +kernel
theorem dX0_goTo_12 : decode cX0_goTo 12 = .ok (.invokevirtual 38, 3) := by decide +kernel
theorem dX0_goTo_15 : decode cX0_goTo 15 = .ok (.aload_n 1, 1) := by decide +kernel
theorem dX0_goTo_16 : decode cX0_goTo 16 = .ok (.iload_n 2, 1) := by decide +kernel
theorem dX0_goTo_17 : decode cX0_goTo 17 = .ok (.aload_n 0, 1) := by decide +kernel
theorem dX0_goTo_18 : decode cX0_goTo 18 = .ok (.invokevirtual 42, 3) := by decide +kernel
theorem dX0_goTo_21 : decode cX0_goTo 21 = .ok (.aload_n 0, 1) := by decide +kernel
theorem dX0_goTo_22 : decode cX0_goTo 22 = .ok (.aload_n 1, 1) := by decide +kernel
theorem dX0_goTo_23 : decode cX0_goTo 23 = .ok (.putfield 25, 3) := by decide +kernel
theorem dX0_goTo_26 : decode cX0_goTo 26 = .ok (.return_, 1) := by decide +kernel
theorem dX0_init_0 : decode cX0_init 0 = .ok (.aload_n 0, 1) := by decide +kernel
theorem dX0_init_1 : decode cX0_init 1 = .ok (.invokespecial 3, 3) := by decide +kernel
theorem dX0_init_4 : decode cX0_init 4 = .ok (.aload_n 0, 1) := by decide +kernel
theorem dX0_init_5 : decode cX0_init 5 = .ok (.new 9, 3) := by decide +kernel
theorem dX0_init_8 : decode cX0_init 8 = .ok (.dup, 1) := by decide +kernel
theorem dX0_init_9 : decode cX0_init 9 = .ok (.invokespecial 11, 3) := by decide +kernel
theorem dX0_init_12 : decode cX0_init 12 = .ok (.putfield 12, 3) := by decide +kernel
theorem dX0_init_15 : decode cX0_init 15 = .ok (.aload_n 0, 1) := by decide +kernel
theorem dX0_init_16 : decode cX0_init 16 = .ok (.new 9, 3) := by decide +kernel
theorem dX0_init_19 : decode cX0_init 19 = .ok (.dup, 1) := by decide +kernel
theorem dX0_init_20 : decode cX0_init 20 = .ok (.invokespecial 11, 3) := by decide +kernel
theorem dX0_init_23 : decode cX0_init 23 = .ok (.putfield 18, 3) := by decide +kernel
theorem dX0_init_26 : decode cX0_init 26 = .ok (.aload_n 0, 1) := by decide +kernel
theorem dX0_init_27 : decode cX0_init 27 = .ok (.iload_n 1, 1) := by decide +kernel
theorem dX0_init_28 : decode cX0_init 28 = .ok (.putfield 21, 3) := by decide +kernel
theorem dX0_init_31 : decode cX0_init 31 = .ok (.aload_n 0, 1) := by decide +kernel
theorem dX0_init_32 : decode cX0_init 32 = .ok (.aload_n 2, 1) := by decide +kernel
theorem dX0_init_33 : decode cX0_init 33 = .ok (.putfield 25, 3) := by decide +kernel
theorem dX0_init_36 : decode cX0_init 36 = .ok (.aload_n 0, 1) := by decide +kernel
theorem dX0_init_37 : decode cX0_init 37 = .ok (.iload_n 3, 1) := by decide +kernel
theorem dX0_init_38 : decode cX0_init 38 = .ok (.putfield 29, 3) := by decide +kernel
theorem dX0_init_41 : decode cX0_init 41 = .ok (.return_, 1) := by decide +kernel
theorem dX0_isNearer_0 : decode cX0_isNearer 0 = .ok (.aload_n 0, 1) := by decide +kernel
theorem dX0_isNearer_1 : decode cX0_isNearer 1 = .ok (.getfield 73, 3) := by decide +kernel
theorem dX0_isNearer_4 : decode cX0_isNearer 4 = .ok (.aload_n 0, 1) := by decide +kernel
theorem dX0_isNearer_5 : decode cX0_isNearer 5 = .ok (.getfield 70, 3) := by decide +kernel
theorem dX0_isNearer_8 : decode cX0_isNearer 8 = .ok (.iload_n 2, 1) := by decide +kernel
theorem dX0_isNearer_9 : decode cX0_isNearer 9 = .ok (.iload_n 3, 1) := by decide +kernel
theorem dX0_isNearer_10 : decode cX0_isNearer 10 = .ok (.invokestatic 76, 3) := by decide +kernel
theorem dX0_isNearer_13 : decode cX0_isNearer 13 = .ok (.aload_n 1, 1) := by decide +kernel
theorem dX0_isNearer_14 : decode cX0_isNearer 14 = .ok (.getfield 73, 3) := by decide +kernel
theorem dX0_isNearer_17 : decode cX0_isNearer 17 = .ok (.aload_n 1, 1) := by decide +kernel
theorem dX0_isNearer_18 : decode cX0_isNearer 18 = .ok (.getfield 70, 3) := by decide +kernel
theorem dX0_isNearer_21 : decode cX0_isNearer 21 = .ok (.iload_n 2, 1) := by decide +kernel
theorem dX0_isNearer_22 : decode cX0_isNearer 22 = .ok (.iload_n 3, 1) := by decide +kernel
theorem dX0_isNearer_23 : decode cX0_isNearer 23 = .ok (.invokestatic 76, 3) := by decide +kernel
theorem dX0_isNearer_26 : decode cX0_isNearer 26 = .ok (.if_icmp .ge 7, 3) := by decide +kernel
theorem dX0_isNearer_29 : decode cX0_isNearer 29 = .ok (.iconst 1, 1) := by decide +kernel
theorem dX0_isNearer_30 : decode cX0_isNearer 30 = .ok (.goto 4, 3) := by decide +kernel
theorem dX0_isNearer_33 : decode cX0_isNearer 33 = .ok (.iconst 0, 1) := by decide +kernel
theorem dX0_isNearer_34 : decode cX0_isNearer 34 = .ok (.ireturn, 1) := by decide +kernel
theorem dX0_liesBefore_0 : decode cX0_liesBefore 0 = .ok (.aload_n 1, 1) := by decide +kernel
theorem dX0_liesBefore_1 : decode cX0_liesBefore 1 = .ok (.getfield 25, 3) := by decide +kernel
theorem dX0_liesBefore_4 : decode cX0_liesBefore 4 = .ok (.astore_n 2, 1) := by decide +kernel
theorem dX0_liesBefore_5 : decode cX0_liesBefore 5 = .ok (.aload_n 0, 1) := by decide +kernel
theorem dX0_liesBefore_6 : decode cX0_liesBefore 6 = .ok (.getfield 25, 3) := by decide +kernel
theorem dX0_liesBefore_9 : decode cX0_liesBefore 9 = .ok (.getfield 46, 3) := by decide +kernel
theorem dX0_liesBefore_12 : decode cX0_liesBefore 12 = .ok (.astore_n 3, 1) := by decide +kernel
theorem dX0_liesBefore_13 : decode cX0_liesBefore 13 = .ok (.aload_n 3, 1) := by decide +kernel
theorem dX0_liesBefore_14 : decode cX0_liesBefore 14 = .ok (.invokevirtual 55, 3) := by decide +kernel
theorem dX0_liesBefore_17 : decode cX0_liesBefore 17 = .ok (.istore 4, 2) := by decide +kernel
theorem dX0_liesBefore_19 : decode cX0_liesBefore 19 = .ok (.aload_n 3, 1) := by decide +kernel
theorem dX0_liesBefore_20 : decode cX0_liesBefore 20 = .ok (.aload_n 2, 1) := by decide +kernel
theorem dX0_liesBefore_21 : decode cX0_liesBefore 21 = .ok (.getfield 46, 3) := by decide +kernel
theorem dX0_liesBefore_24 : decode cX0_liesBefore 24 = .ok (.if_acmp .eq 23, 3) := by decide +kernel
theorem dX0_liesBefore_27 : decode cX0_liesBefore 27 = .ok (.aload_n 3, 1) := by decide +kernel
theorem dX0_liesBefore_28 : decode cX0_liesBefore 28 = .ok (.getfield 49, 3) := by decide +kernel
theorem dX0_liesBefore_31 : decode cX0_liesBefore 31 = .ok (.aload_n 2, 1) := by decide +kernel
theorem dX0_liesBefore_32 : decode cX0_liesBefore 32 = .ok (.getfield 46, 3) := by decide +kernel
theorem dX0_liesBefore_35 : decode cX0_liesBefore 35 = .ok (.getfield 49, 3) := by decide +kernel
theorem dX0_liesBefore_38 : decode cX0_liesBefore 38 = .ok (.if_icmp .ge 7, 3) := by decide +kernel
theorem dX0_liesBefore_41 : decode cX0_liesBefore 41 = .ok (.iconst 1, 1) := by decide +kernel
theorem dX0_liesBefore_42 : decode cX0_liesBefore 42 = .ok (.goto 4, 3) := by decide +kernel
theorem dX0_liesBefore_45 : decode cX0_liesBefore 45 = .ok (.iconst 0, 1) := by decide +kernel
theorem dX0_liesBefore_46 : decode cX0_liesBefore 46 = .ok (.ireturn, 1) := by decide +kernel
theorem dX0_liesBefore_47 : decode cX0_liesBefore 47 = .ok (.aload_n 0, 1) := by decide +kernel
theorem dX0_liesBefore_48 : decode cX0_liesBefore 48 = .ok (.getfield 25, 3) := by decide +kernel
theorem dX0_liesBefore_51 : decode cX0_liesBefore 51 = .ok (.getfield 59, 3) := by decide +kernel
theorem dX0_liesBefore_54 : decode cX0_liesBefore 54 = .ok (.aload_n 2, 1) := by decide +kernel
theorem dX0_liesBefore_55 : decode cX0_liesBefore 55 = .ok (.getfield 59, 3) := by decide +kernel
theorem dX0_liesBefore_58 : decode cX0_liesBefore 58 = .ok (.if_icmp .eq 23, 3) := by decide +kernel
theorem dX0_liesBefore_61 : decode cX0_liesBefore 61 = .ok (.aload_n 0, 1) := by decide +kernel
theorem dX0_liesBefore_62 : decode cX0_liesBefore 62 = .ok (.getfield 25, 3) := by decide +kernel
theorem dX0_liesBefore_65 : decode cX0_liesBefore 65 = .ok (.getfield 59, 3) := by decide +kernel
theorem dX0_liesBefore_68 : decode cX0_liesBefore 68 = .ok (.aload_n 2, 1) := by decide +kernel
theorem dX0_liesBefore_69 : decode cX0_liesBefore 69 = .ok (.getfield 59, 3) := by decide +kernel
theorem dX0_liesBefore_72 : decode cX0_liesBefore 72 = .ok (.if_icmp .ge 7, 3) := by decide +kernel
theorem dX0_liesBefore_75 : decode cX0_liesBefore 75 = .ok (.iconst 1, 1) := by decide +kernel
theorem dX0_liesBefore_76 : decode cX0_liesBefore 76 = .ok (.goto 4, 3) := by decide +kernel
theorem dX0_liesBefore_79 : decode cX0_liesBefore 79 = .ok (.iconst 0, 1) := by decide +kernel
theorem dX0_liesBefore_80 : decode cX0_liesBefore 80 = .ok (.ireturn, 1) := by decide +kernel
theorem dX0_liesBefore_81 : decode cX0_liesBefore 81 = .ok (.aload_n 0, 1) := by decide +kernel
theorem dX0_liesBefore_82 : decode cX0_liesBefore 82 = .ok (.getfield 25, 3) := by decide +kernel
theorem dX0_liesBefore_85 : decode cX0_liesBefore 85 = .ok (.aload_n 2, 1) := by decide +kernel
theorem dX0_liesBefore_86 : decode cX0_liesBefore 86 = .ok (.if_acmp .eq 22, 3) := by decide +kernel
theorem dX0_liesBefore_89 : decode cX0_liesBefore 89 = .ok (.aload_n 0, 1) := by decide +kernel
theorem dX0_liesBefore_90 : decode cX0_liesBefore 90 = .ok (.getfield 25, 3) := by decide +kernel
theorem dX0_liesBefore_93 : decode cX0_liesBefore 93 = .ok (.getfield 62, 3) := by decide +kernel
theorem dX0_liesBefore_96 : decode cX0_liesBefore 96 = .ok (.aload_n 2, 1) := by decide +kernel
theorem dX0_liesBefore_97 : decode cX0_liesBefore 97 = .ok (.getfield 62, 3) := by decide +kernel
theorem dX0_liesBefore_100 : decode cX0_liesBefore 100 = .ok (.bipush 24, 2) := by decide +kernel
theorem dX0_liesBefore_102 : decode cX0_liesBefore 102 = .ok (.iload 4, 2) := by decide +kernel
theorem dX0_liesBefore_104 : decode cX0_liesBefore 104 = .ok (.invokestatic 63, 3) := by decide +kernel
theorem dX0_liesBefore_107 : decode cX0_liesBefore 107 = .ok (.ireturn, 1) := by decide +kernel
theorem dX0_liesBefore_108 : decode cX0_liesBefore 108 = .ok (.aload_n 0, 1) := by decide +kernel
theorem dX0_liesBefore_109 : decode cX0_liesBefore 109 = .ok (.getfield 12, 3) := by decide +kernel
theorem dX0_liesBefore_112 : decode cX0_liesBefore 112 = .ok (.getfield 67, 3) := by decide +kernel
theorem dX0_liesBefore_115 : decode cX0_liesBefore 115 = .ok (.aload_n 1, 1) := by decide +kernel
theorem dX0_liesBefore_116 : decode cX0_liesBefore 116 = .ok (.getfield 12, 3) := by decide +kernel
theorem dX0_liesBefore_119 : decode cX0_liesBefore 119 = .ok (.getfield 67, 3) := by decide +kernel
theorem dX0_liesBefore_122 : decode cX0_liesBefore 122 = .ok (.if_icmp .eq 26, 3) := by decide +kernel
theorem dX0_liesBefore_125 : decode cX0_liesBefore 125 = .ok (.aload_n 0, 1) := by decide +kernel
theorem dX0_liesBefore_126 : decode cX0_liesBefore 126 = .ok (.getfield 12, 3) := by decide +kernel
theorem dX0_liesBefore_129 : decode cX0_liesBefore 129 = .ok (.getfield 67, 3) := by decide +kernel
theorem dX0_liesBefore_132 : decode cX0_liesBefore 132 = .ok (.aload_n 1, 1) := by decide +kernel
theorem dX0_liesBefore_133 : decode cX0_liesBefore 133 = .ok (.getfield 12, 3) := by decide +kernel
theorem dX0_liesBefore_136 : decode cX0_liesBefore 136 = .ok (.getfield 67, 3) := by decide +kernel
theorem dX0_liesBefore_139 : decode cX0_liesBefore 139 = .ok (.if_icmp .ge 7, 3) := by decide +kernel
theorem dX0_liesBefore_142 : decode cX0_liesBefore 142 = .ok (.iconst 1, 1) := by decide +kernel
theorem dX0_liesBefore_143 : decode cX0_liesBefore 143 = .ok (.goto 4, 3) := by decide +kernel
theorem dX0_liesBefore_146 : decode cX0_liesBefore 146 = .ok (.iconst 0, 1) := by decide +kernel
theorem dX0_liesBefore_147 : decode cX0_liesBefore 147 = .ok (.ireturn, 1) := by decide +kernel
theorem dX0_liesBefore_148 : decode cX0_liesBefore 148 = .ok (.aload_n 0, 1) := by decide +kernel
theorem dX0_liesBefore_149 : decode cX0_liesBefore 149 = .ok (.getfield 12, 3) := by decide +kernel
theorem dX0_liesBefore_152 : decode cX0_liesBefore 152 = .ok (.aload_n 1, 1) := by decide +kernel
theorem dX0_liesBefore_153 : decode cX0_liesBefore 153 = .ok (.getfield 12, 3) := by decide +kernel
theorem dX0_liesBefore_156 : decode cX0_liesBefore 156 = .ok (.aload_n 0, 1) := by decide +kernel
theorem dX0_liesBefore_157 : decode cX0_liesBefore 157 = .ok (.getfield 25, 3) := by decide +kernel
theorem dX0_liesBefore_160 : decode cX0_liesBefore 160 = .ok (.getfield 62, 3) := by decide +kernel
theorem dX0_liesBefore_163 : decode cX0_liesBefore 163 = .ok (.getfield 70, 3) := by decide +kernel
theorem dX0_liesBefore_166 : decode cX0_liesBefore 166 = .ok (.iload 4, 2) := by decide +kernel
theorem dX0_liesBefore_168 : decode cX0_liesBefore 168 = .ok (.invokestatic 63, 3) := by decide +kernel
theorem dX0_liesBefore_171 : decode cX0_liesBefore 171 = .ok (.ireturn, 1) := by decide +kernel
theorem dX0_readingKey_0 : decode cX0_readingKey 0 = .ok (.aload_n 0, 1) := by decide +kernel
theorem dX0_readingKey_1 : decode cX0_readingKey 1 = .ok (.getfield 25, 3) := by decide +kernel
theorem dX0_readingKey_4 : decode cX0_readingKey 4 = .ok (.getfield 46, 3) := by decide +kernel
theorem dX0_readingKey_7 : decode cX0_readingKey 7 = .ok (.astore_n 1, 1) := by decide +kernel
theorem dX0_readingKey_8 : decode cX0_readingKey 8 = .ok (.aload_n 1, 1) := by decide +kernel
theorem dX0_readingKey_9 : decode cX0_readingKey 9 = .ok (.getfield 49, 3) := by decide +kernel
theorem dX0_readingKey_12 : decode cX0_readingKey 12 = .ok (.bipush 8, 2) := by decide +kernel
theorem dX0_readingKey_14 : decode cX0_readingKey 14 = .ok (.imul, 1) := by decide +kernel
theorem dX0_readingKey_15 : decode cX0_readingKey 15 = .ok (.aload_n 1, 1) := by decide +kernel
theorem dX0_readingKey_16 : decode cX0_readingKey 16 = .ok (.aload_n 0, 1) := by decide +kernel
theorem dX0_readingKey_17 : decode cX0_readingKey 17 = .ok (.getfield 25, 3) := by decide +kernel
theorem dX0_readingKey_20 : decode cX0_readingKey 20 = .ok (.invokevirtual 52, 3) := by decide +kernel
theorem dX0_readingKey_23 : decode cX0_readingKey 23 = .ok (.iadd, 1) := by decide +kernel
theorem dX0_readingKey_24 : decode cX0_readingKey 24 = .ok (.istore_n 2, 1) := by decide +kernel
theorem dX0_readingKey_25 : decode cX0_readingKey 25 = .ok (.iload_n 2, 1) := by decide +kernel
theorem dX0_readingKey_26 : decode cX0_readingKey 26 = .ok (.iconst 4, 1) := by decide +kernel
theorem dX0_readingKey_27 : decode cX0_readingKey 27 = .ok (.imul, 1) := by decide +kernel
theorem dX0_readingKey_28 : decode cX0_readingKey 28 = .ok (.aload_n 0, 1) := by decide +kernel
theorem dX0_readingKey_29 : decode cX0_readingKey 29 = .ok (.getfield 25, 3) := by decide +kernel
theorem dX0_readingKey_32 : decode cX0_readingKey 32 = .ok (.aload_n 0, 1) := by decide +kernel
theorem dX0_readingKey_33 : decode cX0_readingKey 33 = .ok (.invokevirtual 32, 3) := by decide +kernel
theorem dX0_readingKey_36 : decode cX0_readingKey 36 = .ok (.iadd, 1) := by decide +kernel
theorem dX0_readingKey_37 : decode cX0_readingKey 37 = .ok (.ireturn, 1) := by decide +kernel
theorem dX1_holds_0 : decode cX1_holds 0 = .ok (.iload_n 1, 1) := by decide +kernel
theorem dX1_holds_1 : decode cX1_holds 1 = .ok (.aload_n 0, 1) := by decide +kernel
theorem dX1_holds_2 : decode cX1_holds 2 = .ok (.getfield 7, 3) := by decide +kernel
theorem dX1_holds_5 : decode cX1_holds 5 = .ok (.if_icmp .lt 41, 3) := by decide +kernel
theorem dX1_holds_8 : decode cX1_holds 8 = .ok (.iload_n 1, 1) := by decide +kernel
theorem dX1_holds_9 : decode cX1_holds 9 = .ok (.aload_n 0, 1) := by decide +kernel
theorem dX1_holds_10 : decode cX1_holds 10 = .ok (.getfield 7, 3) := by decide +kernel
theorem dX1_holds_13 : decode cX1_holds 13 = .ok (.aload_n 0, 1) := by decide +kernel
theorem dX1_holds_14 : decode cX1_holds 14 = .ok (.getfield 16, 3) := by decide +kernel
theorem dX1_holds_17 : decode cX1_holds 17 = .ok (.iadd, 1) := by decide +kernel
theorem dX1_holds_18 : decode cX1_holds 18 = .ok (.if_icmp .ge 28, 3) := by decide +kernel
theorem dX1_holds_21 : decode cX1_holds 21 = .ok (.iload_n 2, 1) := by decide +kernel
theorem dX1_holds_22 : decode cX1_holds 22 = .ok (.aload_n 0, 1) := by decide +kernel
theorem dX1_holds_23 : decode cX1_holds 23 = .ok (.getfield 13, 3) := by decide +kernel
theorem dX1_holds_26 : decode cX1_holds 26 = .ok (.if_icmp .lt 20, 3) := by decide +kernel
theorem dX1_holds_29 : decode cX1_holds 29 = .ok (.iload_n 2, 1) := by decide +kernel
theorem dX1_holds_30 : decode cX1_holds 30 = .ok (.aload_n 0, 1) := by decide +kernel
theorem dX1_holds_31 : decode cX1_holds 31 = .ok (.getfield 13, 3) := by decide +kernel
theorem dX1_holds_34 : decode cX1_holds 34 = .ok (.aload_n 0, 1) := by decide +kernel
theorem dX1_holds_35 : decode cX1_holds 35 = .ok (.getfield 19, 3) := by decide +kernel
theorem dX1_holds_38 : decode cX1_holds 38 = .ok (.iadd, 1) := by decide +kernel
theorem dX1_holds_39 : decode cX1_holds 39 = .ok (.if_icmp .ge 7, 3) := by decide +kernel
theorem dX1_holds_42 : decode cX1_holds 42 = .ok (.iconst 1, 1) := by decide +kernel
theorem dX1_holds_43 : decode cX1_holds 43 = .ok (.goto 4, 3) := by decide +kernel
theorem dX1_holds_46 : decode cX1_holds 46 = .ok (.iconst 0, 1) := by decide +kernel
theorem dX1_holds_47 : decode cX1_holds 47 = .ok (.ireturn, 1) := by decide +kernel
theorem dX1_init_0 : decode cX1_init 0 = .ok (.aload_n 0, 1) := by decide +kernel
theorem dX1_init_1 : decode cX1_init 1 = .ok (.invokespecial 1, 3) := by decide +kernel
theorem dX1_init_4 : decode cX1_init 4 = .ok (.return_, 1) := by decide +kernel
theorem dX1_isLike_0 : decode cX1_isLike 0 = .ok (.aload_n 0, 1) := by decide +kernel
theorem dX1_isLike_1 : decode cX1_isLike 1 = .ok (.getfield 7, 3) := by decide +kernel
theorem dX1_isLike_4 : decode cX1_isLike 4 = .ok (.aload_n 1, 1) := by decide +kernel
theorem dX1_isLike_5 : decode cX1_isLike 5 = .ok (.getfield 7, 3) := by decide +kernel
theorem dX1_isLike_8 : decode cX1_isLike 8 = .ok (.if_icmp .ne 40, 3) := by decide +kernel
theorem dX1_isLike_11 : decode cX1_isLike 11 = .ok (.aload_n 0, 1) := by decide +kernel
theorem dX1_isLike_12 : decode cX1_isLike 12 = .ok (.getfield 13, 3) := by decide +kernel
theorem dX1_isLike_15 : decode cX1_isLike 15 = .ok (.aload_n 1, 1) := by decide +kernel
theorem dX1_isLike_16 : decode cX1_isLike 16 = .ok (.getfield 13, 3) := by decide +kernel
theorem dX1_isLike_19 : decode cX1_isLike 19 = .ok (.if_icmp .ne 29, 3) := by decide +kernel
theorem dX1_isLike_22 : decode cX1_isLike 22 = .ok (.aload_n 0, 1) := by decide +kernel
theorem dX1_isLike_23 : decode cX1_isLike 23 = .ok (.getfield 16, 3) := by decide +kernel
theorem dX1_isLike_26 : decode cX1_isLike 26 = .ok (.aload_n 1, 1) := by decide +kernel
theorem dX1_isLike_27 : decode cX1_isLike 27 = .ok (.getfield 16, 3) := by decide +kernel
theorem dX1_isLike_30 : decode cX1_isLike 30 = .ok (.if_icmp .ne 18, 3) := by decide +kernel
theorem dX1_isLike_33 : decode cX1_isLike 33 = .ok (.aload_n 0, 1) := by decide +kernel
theorem dX1_isLike_34 : decode cX1_isLike 34 = .ok (.getfield 19, 3) := by decide +kernel
theorem dX1_isLike_37 : decode cX1_isLike 37 = .ok (.aload_n 1, 1) := by decide +kernel
theorem dX1_isLike_38 : decode cX1_isLike 38 = .ok (.getfield 19, 3) := by decide +kernel
theorem dX1_isLike_41 : decode cX1_isLike 41 = .ok (.if_icmp .ne 7, 3) := by decide +kernel
theorem dX1_isLike_44 : decode cX1_isLike 44 = .ok (.iconst 1, 1) := by decide +kernel
theorem dX1_isLike_45 : decode cX1_isLike 45 = .ok (.goto 4, 3) := by decide +kernel
theorem dX1_isLike_48 : decode cX1_isLike 48 = .ok (.iconst 0, 1) := by decide +kernel
theorem dX1_isLike_49 : decode cX1_isLike 49 = .ok (.ireturn, 1) := by decide +kernel
theorem dX1_measure_0 : decode cX1_measure 0 = .ok (.iload_n 1, 1) := by decide +kernel
theorem dX1_measure_1 : decode cX1_measure 1 = .ok (.tableswitch 42 1 3 #[27, 32, 37], 27) := by decide +kernel
theorem dX1_measure_28 : decode cX1_measure 28 = .ok (.aload_n 0, 1) := by decide +kernel
theorem dX1_measure_29 : decode cX1_measure 29 = .ok (.getfield 7, 3) := by decide +kernel
theorem dX1_measure_32 : decode cX1_measure 32 = .ok (.ireturn, 1) := by decide +kernel
theorem dX1_measure_33 : decode cX1_measure 33 = .ok (.aload_n 0, 1) := by decide +kernel
theorem dX1_measure_34 : decode cX1_measure 34 = .ok (.getfield 13, 3) := by decide +kernel
theorem dX1_measure_37 : decode cX1_measure 37 = .ok (.ireturn, 1) := by decide +kernel
theorem dX1_measure_38 : decode cX1_measure 38 = .ok (.aload_n 0, 1) := by decide +kernel
theorem dX1_measure_39 : decode cX1_measure 39 = .ok (.getfield 16, 3) := by decide +kernel
theorem dX1_measure_42 : decode cX1_measure 42 = .ok (.ireturn, 1) := by decide +kernel
theorem dX1_measure_43 : decode cX1_measure 43 = .ok (.aload_n 0, 1) := by decide +kernel
theorem dX1_measure_44 : decode cX1_measure 44 = .ok (.getfield 19, 3) := by decide +kernel
theorem dX1_measure_47 : decode cX1_measure 47 = .ok (.ireturn, 1) := by decide +kernel
theorem dX1_set_0 : decode cX1_set 0 = .ok (.aload_n 0, 1) := by decide +kernel
theorem dX1_set_1 : decode cX1_set 1 = .ok (.aload_n 1, 1) := by decide +kernel
theorem dX1_set_2 : decode cX1_set 2 = .ok (.getfield 7, 3) := by decide +kernel
theorem dX1_set_5 : decode cX1_set 5 = .ok (.putfield 7, 3) := by decide +kernel
theorem dX1_set_8 : decode cX1_set 8 = .ok (.aload_n 0, 1) := by decide +kernel
theorem dX1_set_9 : decode cX1_set 9 = .ok (.aload_n 1, 1) := by decide +kernel
theorem dX1_set_10 : decode cX1_set 10 = .ok (.getfield 13, 3) := by decide +kernel
theorem dX1_set_13 : decode cX1_set 13 = .ok (.putfield 13, 3) := by decide +kernel
theorem dX1_set_16 : decode cX1_set 16 = .ok (.aload_n 0, 1) := by decide +kernel
theorem dX1_set_17 : decode cX1_set 17 = .ok (.aload_n 1, 1) := by decide +kernel
theorem dX1_set_18 : decode cX1_set 18 = .ok (.getfield 16, 3) := by decide +kernel
theorem dX1_set_21 : decode cX1_set 21 = .ok (.putfield 16, 3) := by decide +kernel
theorem dX1_set_24 : decode cX1_set 24 = .ok (.aload_n 0, 1) := by decide +kernel
theorem dX1_set_25 : decode cX1_set 25 = .ok (.aload_n 1, 1) := by decide +kernel
theorem dX1_set_26 : decode cX1_set 26 = .ok (.getfield 19, 3) := by decide +kernel
theorem dX1_set_29 : decode cX1_set 29 = .ok (.putfield 19, 3) := by decide +kernel
theorem dX1_set_32 : decode cX1_set 32 = .ok (.return_, 1) := by decide +kernel
theorem dX2_init_0 : decode cX2_init 0 = .ok (.aload_n 0, 1) := by decide +kernel
theorem dX2_init_1 : decode cX2_init 1 = .ok (.invokespecial 1, 3) := by decide +kernel
theorem dX2_init_4 : decode cX2_init 4 = .ok (.aload_n 0, 1) := by decide +kernel
theorem dX2_init_5 : decode cX2_init 5 = .ok (.iload_n 1, 1) := by decide +kernel
theorem dX2_init_6 : decode cX2_init 6 = .ok (.putfield 7, 3) := by decide +kernel
theorem dX2_init_9 : decode cX2_init 9 = .ok (.aload_n 0, 1) := by decide +kernel
theorem dX2_init_10 : decode cX2_init 10 = .ok (.iload_n 2, 1) := by decide +kernel
theorem dX2_init_11 : decode cX2_init 11 = .ok (.putfield 13, 3) := by decide +kernel
theorem dX2_init_14 : decode cX2_init 14 = .ok (.aload_n 0, 1) := by decide +kernel
theorem dX2_init_15 : decode cX2_init 15 = .ok (.iload_n 3, 1) := by decide +kernel
theorem dX2_init_16 : decode cX2_init 16 = .ok (.putfield 16, 3) := by decide +kernel
theorem dX2_init_19 : decode cX2_init 19 = .ok (.return_, 1) := by decide +kernel
theorem dX3_bitsOf_0 : decode cX3_bitsOf 0 = .ok (.iconst 1, 1) := by decide +kernel
theorem dX3_bitsOf_1 : decode cX3_bitsOf 1 = .ok (.iload_n 1, 1) := by decide +kernel
theorem dX3_bitsOf_2 : decode cX3_bitsOf 2 = .ok (.ishl, 1) := by decide +kernel
theorem dX3_bitsOf_3 : decode cX3_bitsOf 3 = .ok (.iconst 1, 1) := by decide +kernel
theorem dX3_bitsOf_4 : decode cX3_bitsOf 4 = .ok (.isub, 1) := by decide +kernel
theorem dX3_bitsOf_5 : decode cX3_bitsOf 5 = .ok (.iload_n 0, 1) := by decide +kernel
theorem dX3_bitsOf_6 : decode cX3_bitsOf 6 = .ok (.ishl, 1) := by decide +kernel
theorem dX3_bitsOf_7 : decode cX3_bitsOf 7 = .ok (.ireturn, 1) := by decide +kernel
theorem dX3_findSpot_0 : decode cX3_findSpot 0 = .ok (.iload_n 2, 1) := by decide +kernel
theorem dX3_findSpot_1 : decode cX3_findSpot 1 = .ok (.istore 6, 2) := by decide +kernel
theorem dX3_findSpot_3 : decode cX3_findSpot 3 = .ok (.iload 6, 2) := by decide +kernel
theorem dX3_findSpot_5 : decode cX3_findSpot 5 = .ok (.aload_n 1, 1) := by decide +kernel
theorem dX3_findSpot_6 : decode cX3_findSpot 6 = .ok (.getfield 79, 3) := by decide +kernel
theorem dX3_findSpot_9 : decode cX3_findSpot 9 = .ok (.iadd, 1) := by decide +kernel
theorem dX3_findSpot_10 : decode cX3_findSpot 10 = .ok (.aload 4, 2) := by decide +kernel
theorem dX3_findSpot_12 : decode cX3_findSpot 12 = .ok (.getfield 79, 3) := by decide +kernel
theorem dX3_findSpot_15 : decode cX3_findSpot 15 = .ok (.if_icmp .gt 105, 3) := by decide +kernel
theorem dX3_findSpot_18 : decode cX3_findSpot 18 = .ok (.aload_n 0, 1) := by decide +kernel
theorem dX3_findSpot_19 : decode cX3_findSpot 19 = .ok (.iload 6, 2) := by decide +kernel
theorem dX3_findSpot_21 : decode cX3_findSpot 21 = .ok (.iload 6, 2) := by decide +kernel
theorem dX3_findSpot_23 : decode cX3_findSpot 23 = .ok (.aload_n 1, 1) := by decide +kernel
theorem dX3_findSpot_24 : decode cX3_findSpot 24 = .ok (.getfield 79, 3) := by decide +kernel
theorem dX3_findSpot_27 : decode cX3_findSpot 27 = .ok (.iadd, 1) := by decide +kernel
theorem dX3_findSpot_28 : decode cX3_findSpot 28 = .ok (.invokevirtual 152, 3) := by decide +kernel
theorem dX3_findSpot_31 : decode cX3_findSpot 31 = .ok (.istore 7, 2) := by decide +kernel
theorem dX3_findSpot_33 : decode cX3_findSpot 33 = .ok (.iload 6, 2) := by decide +kernel
theorem dX3_findSpot_35 : decode cX3_findSpot 35 = .ok (.iload_n 2, 1) := by decide +kernel
theorem dX3_findSpot_36 : decode cX3_findSpot 36 = .ok (.if_icmp .ne 7, 3) := by decide +kernel
theorem dX3_findSpot_39 : decode cX3_findSpot 39 = .ok (.iload_n 3, 1) := by decide +kernel
theorem dX3_findSpot_40 : decode cX3_findSpot 40 = .ok (.goto 4, 3) := by decide +kernel
theorem dX3_findSpot_43 : decode cX3_findSpot 43 = .ok (.iconst 0, 1) := by decide +kernel
theorem dX3_findSpot_44 : decode cX3_findSpot 44 = .ok (.istore 8, 2) := by decide +kernel
theorem dX3_findSpot_46 : decode cX3_findSpot 46 = .ok (.iload 8, 2) := by decide +kernel
theorem dX3_findSpot_48 : decode cX3_findSpot 48 = .ok (.aload_n 1, 1) := by decide +kernel
theorem dX3_findSpot_49 : decode cX3_findSpot 49 = .ok (.getfield 61, 3) := by decide +kernel
theorem dX3_findSpot_52 : decode cX3_findSpot 52 = .ok (.iadd, 1) := by decide +kernel
theorem dX3_findSpot_53 : decode cX3_findSpot 53 = .ok (.aload 4, 2) := by decide +kernel
theorem dX3_findSpot_55 : decode cX3_findSpot 55 = .ok (.getfield 61, 3) := by decide +kernel
theorem dX3_findSpot_58 : decode cX3_findSpot 58 = .ok (.if_icmp .gt 56, 3) := by decide +kernel
theorem dX3_findSpot_61 : decode cX3_findSpot 61 = .ok (.iload 8, 2) := by decide +kernel
theorem dX3_findSpot_63 : decode cX3_findSpot 63 = .ok (.aload_n 1, 1) := by decide +kernel
theorem dX3_findSpot_64 : decode cX3_findSpot 64 = .ok (.getfield 61, 3) := by decide +kernel
theorem dX3_findSpot_67 : decode cX3_findSpot 67 = .ok (.aload 4, 2) := by decide +kernel
theorem dX3_findSpot_69 : decode cX3_findSpot 69 = .ok (.getfield 61, 3) := by decide +kernel
theorem dX3_findSpot_72 : decode cX3_findSpot 72 = .ok (.iload 5, 2) := by decide +kernel
theorem dX3_findSpot_74 : decode cX3_findSpot 74 = .ok (.invokestatic 96, 3) := by decide +kernel
theorem dX3_findSpot_77 : decode cX3_findSpot 77 = .ok (.istore 9, 2) := by decide +kernel
theorem dX3_findSpot_79 : decode cX3_findSpot 79 = .ok (.iload 7, 2) := by decide +kernel
theorem dX3_findSpot_81 : decode cX3_findSpot 81 = .ok (.iload 9, 2) := by decide +kernel
theorem dX3_findSpot_83 : decode cX3_findSpot 83 = .ok (.aload_n 1, 1) := by decide +kernel
theorem dX3_findSpot_84 : decode cX3_findSpot 84 = .ok (.getfield 61, 3) := by decide +kernel
theorem dX3_findSpot_87 : decode cX3_findSpot 87 = .ok (.invokestatic 149, 3) := by decide +kernel
theorem dX3_findSpot_90 : decode cX3_findSpot 90 = .ok (.iand, 1) := by decide +kernel
theorem dX3_findSpot_91 : decode cX3_findSpot 91 = .ok (.ifCond .ne 17, 3) := by decide +kernel
theorem dX3_findSpot_94 : decode cX3_findSpot 94 = .ok (.aload_n 1, 1) := by decide +kernel
theorem dX3_findSpot_95 : decode cX3_findSpot 95 = .ok (.iload 9, 2) := by decide +kernel
theorem dX3_findSpot_97 : decode cX3_findSpot 97 = .ok (.putfield 100, 3) := by decide +kernel
theorem dX3_findSpot_100 : decode cX3_findSpot 100 = .ok (.aload_n 1, 1) := by decide +kernel
theorem dX3_findSpot_101 : decode cX3_findSpot 101 = .ok (.iload 6, 2) := by decide +kernel
theorem dX3_findSpot_103 : decode cX3_findSpot 103 = .ok (.putfield 89, 3) := by decide +kernel
theorem dX3_findSpot_106 : decode cX3_findSpot 106 = .ok (.iconst 1, 1) := by decide +kernel
theorem dX3_findSpot_107 : decode cX3_findSpot 107 = .ok (.ireturn, 1) := by decide +kernel
theorem dX3_findSpot_108 : decode cX3_findSpot 108 = .ok (.iinc 8 1, 3) := by decide +kernel
theorem dX3_findSpot_111 : decode cX3_findSpot 111 = .ok (.goto (-65), 3) := by decide +kernel
theorem dX3_findSpot_114 : decode cX3_findSpot 114 = .ok (.iinc 6 1, 3) := by decide +kernel
theorem dX3_findSpot_117 : decode cX3_findSpot 117 = .ok (.goto (-114), 3) := by decide +kernel
theorem dX3_findSpot_120 : decode cX3_findSpot 120 = .ok (.iconst 0, 1) := by decide +kernel
theorem dX3_findSpot_121 : decode cX3_findSpot 121 = .ok (.ireturn, 1) := by decide +kernel
theorem dX3_fitsInto_0 : decode cX3_fitsInto 0 = .ok (.iload_n 3, 1) := by decide +kernel
theorem dX3_fitsInto_1 : decode cX3_fitsInto 1 = .ok (.istore 5, 2) := by decide +kernel
theorem dX3_fitsInto_3 : decode cX3_fitsInto 3 = .ok (.iload 5, 2) := by decide +kernel
theorem dX3_fitsInto_5 : decode cX3_fitsInto 5 = .ok (.iload 4, 2) := by decide +kernel
theorem dX3_fitsInto_7 : decode cX3_fitsInto 7 = .ok (.if_icmp .gt 43, 3) := by decide +kernel
theorem dX3_fitsInto_10 : decode cX3_fitsInto 10 = .ok (.aload_n 2, 1) := by decide +kernel
theorem dX3_fitsInto_11 : decode cX3_fitsInto 11 = .ok (.getfield 24, 3) := by decide +kernel
theorem dX3_fitsInto_14 : decode cX3_fitsInto 14 = .ok (.iload 5, 2) := by decide +kernel
theorem dX3_fitsInto_16 : decode cX3_fitsInto 16 = .ok (.invokevirtual 34, 3) := by decide +kernel
theorem dX3_fitsInto_19 : decode cX3_fitsInto 19 = .ok (.checkcast 38, 3) := by decide +kernel
theorem dX3_fitsInto_22 : decode cX3_fitsInto 22 = .ok (.astore 6, 2) := by decide +kernel
theorem dX3_fitsInto_24 : decode cX3_fitsInto 24 = .ok (.aload 6, 2) := by decide +kernel
theorem dX3_fitsInto_26 : decode cX3_fitsInto 26 = .ok (.getfield 57, 3) := by decide +kernel
theorem dX3_fitsInto_29 : decode cX3_fitsInto 29 = .ok (.iload_n 1, 1) := by decide +kernel
theorem dX3_fitsInto_30 : decode cX3_fitsInto 30 = .ok (.putfield 79, 3) := by decide +kernel
theorem dX3_fitsInto_33 : decode cX3_fitsInto 33 = .ok (.aload_n 0, 1) := by decide +kernel
theorem dX3_fitsInto_34 : decode cX3_fitsInto 34 = .ok (.aload 6, 2) := by decide +kernel
theorem dX3_fitsInto_36 : decode cX3_fitsInto 36 = .ok (.invokevirtual 82, 3) := by decide +kernel
theorem dX3_fitsInto_39 : decode cX3_fitsInto 39 = .ok (.ifCond .ne 5, 3) := by decide +kernel
theorem dX3_fitsInto_42 : decode cX3_fitsInto 42 = .ok (.iconst 0, 1) := by decide +kernel
theorem dX3_fitsInto_43 : decode cX3_fitsInto 43 = .ok (.ireturn, 1) := by decide +kernel
theorem dX3_fitsInto_44 : decode cX3_fitsInto 44 = .ok (.iinc 5 1, 3) := by decide +kernel
theorem dX3_fitsInto_47 : decode cX3_fitsInto 47 = .ok (.goto (-44), 3) := by decide +kernel
theorem dX3_fitsInto_50 : decode cX3_fitsInto 50 = .ok (.iconst 1, 1) := by decide +kernel
theorem dX3_fitsInto_51 : decode cX3_fitsInto 51 = .ok (.ireturn, 1) := by decide +kernel
theorem dX3_growthOf_0 : decode cX3_growthOf 0 = .ok (.aload_n 1, 1) := by decide +kernel
theorem dX3_growthOf_1 : decode cX3_growthOf 1 = .ok (.getfield 136, 3) := by decide +kernel
theorem dX3_growthOf_4 : decode cX3_growthOf 4 = .ok (.ifCond .lt 27, 3) := by decide +kernel
theorem dX3_growthOf_7 : decode cX3_growthOf 7 = .ok (.aload_n 1, 1) := by decide +kernel
theorem dX3_growthOf_8 : decode cX3_growthOf 8 = .ok (.getfield 136, 3) := by decide +kernel
theorem dX3_growthOf_11 : decode cX3_growthOf 11 = .ok (.aload_n 0, 1) := by decide +kernel
theorem dX3_growthOf_12 : decode cX3_growthOf 12 = .ok (.getfield 9, 3) := by decide +kernel
theorem dX3_growthOf_15 : decode cX3_growthOf 15 = .ok (.arraylength, 1) := by decide +kernel
theorem dX3_growthOf_16 : decode cX3_growthOf 16 = .ok (.if_icmp .ge 15, 3) := by decide +kernel
theorem dX3_growthOf_19 : decode cX3_growthOf 19 = .ok (.aload_n 0, 1) := by decide +kernel
theorem dX3_growthOf_20 : decode cX3_growthOf 20 = .ok (.getfield 9, 3) := by decide +kernel
theorem dX3_growthOf_23 : decode cX3_growthOf 23 = .ok (.aload_n 1, 1) := by decide +kernel
theorem dX3_growthOf_24 : decode cX3_growthOf 24 = .ok (.getfield 136, 3) := by decide +kernel
theorem dX3_growthOf_27 : decode cX3_growthOf 27 = .ok (.iaload, 1) := by decide +kernel
theorem dX3_growthOf_28 : decode cX3_growthOf 28 = .ok (.goto 5, 3) := by decide +kernel
theorem dX3_growthOf_31 : decode cX3_growthOf 31 = .ok (.bipush 100, 2) := by decide +kernel
theorem dX3_growthOf_33 : decode cX3_growthOf 33 = .ok (.ireturn, 1) := by decide +kernel
theorem dX3_heightOfRow_0 : decode cX3_heightOfRow 0 = .ok (.iconst 0, 1) := by decide +kernel
theorem dX3_heightOfRow_1 : decode cX3_heightOfRow 1 = .ok (.istore 4, 2) := by decide +kernel
theorem dX3_heightOfRow_3 : decode cX3_heightOfRow 3 = .ok (.iload_n 2, 1) := by decide +kernel
theorem dX3_heightOfRow_4 : decode cX3_heightOfRow 4 = .ok (.istore 5, 2) := by decide +kernel
theorem dX3_heightOfRow_6 : decode cX3_heightOfRow 6 = .ok (.iload 5, 2) := by decide +kernel
theorem dX3_heightOfRow_8 : decode cX3_heightOfRow 8 = .ok (.iload_n 3, 1) := by decide +kernel
theorem dX3_heightOfRow_9 : decode cX3_heightOfRow 9 = .ok (.if_icmp .gt 31, 3) := by decide +kernel
theorem dX3_heightOfRow_12 : decode cX3_heightOfRow 12 = .ok (.iload 4, 2) := by decide +kernel
theorem dX3_heightOfRow_14 : decode cX3_heightOfRow 14 = .ok (.aload_n 1, 1) := by decide +kernel
theorem dX3_heightOfRow_15 : decode cX3_heightOfRow 15 = .ok (.getfield 24, 3) := by decide +kernel
theorem dX3_heightOfRow_18 : decode cX3_heightOfRow 18 = .ok (.iload 5, 2) := by decide +kernel
theorem dX3_heightOfRow_20 : decode cX3_heightOfRow 20 = .ok (.invokevirtual 34, 3) := by decide +kernel
theorem dX3_heightOfRow_23 : decode cX3_heightOfRow 23 = .ok (.checkcast 38, 3) := by decide +kernel
theorem dX3_heightOfRow_26 : decode cX3_heightOfRow 26 = .ok (.getfield 66, 3) := by decide +kernel
theorem dX3_heightOfRow_29 : decode cX3_heightOfRow 29 = .ok (.invokestatic 69, 3) := by decide +kernel
theorem dX3_heightOfRow_32 : decode cX3_heightOfRow 32 = .ok (.istore 4, 2) := by decide +kernel
theorem dX3_heightOfRow_34 : decode cX3_heightOfRow 34 = .ok (.iinc 5 1, 3) := by decide +kernel
theorem dX3_heightOfRow_37 : decode cX3_heightOfRow 37 = .ok (.goto (-31), 3) := by decide +kernel
theorem dX3_heightOfRow_40 : decode cX3_heightOfRow 40 = .ok (.iload 4, 2) := by decide +kernel
theorem dX3_heightOfRow_42 : decode cX3_heightOfRow 42 = .ok (.istore 5, 2) := by decide +kernel
theorem dX3_heightOfRow_44 : decode cX3_heightOfRow 44 = .ok (.iload 5, 2) := by decide +kernel
theorem dX3_heightOfRow_46 : decode cX3_heightOfRow 46 = .ok (.bipush 16, 2) := by decide +kernel
theorem dX3_heightOfRow_48 : decode cX3_heightOfRow 48 = .ok (.if_icmp .gt 24, 3) := by decide +kernel
theorem dX3_heightOfRow_51 : decode cX3_heightOfRow 51 = .ok (.aload_n 0, 1) := by decide +kernel
theorem dX3_heightOfRow_52 : decode cX3_heightOfRow 52 = .ok (.iload 5, 2) := by decide +kernel
theorem dX3_heightOfRow_54 : decode cX3_heightOfRow 54 = .ok (.aload_n 1, 1) := by decide +kernel
theorem dX3_heightOfRow_55 : decode cX3_heightOfRow 55 = .ok (.iload_n 2, 1) := by decide +kernel
theorem dX3_heightOfRow_56 : decode cX3_heightOfRow 56 = .ok (.iload_n 3, 1) := by decide +kernel
theorem dX3_heightOfRow_57 : decode cX3_heightOfRow 57 = .ok (.invokevirtual 75, 3) := by decide +kernel
theorem dX3_heightOfRow_60 : decode cX3_heightOfRow 60 = .ok (.ifCond .eq 6, 3) := by decide +kernel
theorem dX3_heightOfRow_63 : decode cX3_heightOfRow 63 = .ok (.iload 5, 2) := by decide +kernel
theorem dX3_heightOfRow_65 : decode cX3_heightOfRow 65 = .ok (.ireturn, 1) := by decide +kernel
theorem dX3_heightOfRow_66 : decode cX3_heightOfRow 66 = .ok (.iinc 5 1, 3) := by decide +kernel
theorem dX3_heightOfRow_69 : decode cX3_heightOfRow 69 = .ok (.goto (-25), 3) := by decide +kernel
theorem dX3_heightOfRow_72 : decode cX3_heightOfRow 72 = .ok (.iconst 0, 1) := by decide +kernel
theorem dX3_heightOfRow_73 : decode cX3_heightOfRow 73 = .ok (.ireturn, 1) := by decide +kernel
theorem dX3_init_0 : decode cX3_init 0 = .ok (.aload_n 0, 1) := by decide +kernel
theorem dX3_init_1 : decode cX3_init 1 = .ok (.invokespecial 3, 3) := by decide +kernel
theorem dX3_init_4 : decode cX3_init 4 = .ok (.aload_n 0, 1) := by decide +kernel
theorem dX3_init_5 : decode cX3_init 5 = .ok (.iconst 3, 1) := by decide +kernel
theorem dX3_init_6 : decode cX3_init 6 = .ok (.newarray .int, 2) := by decide +kernel
theorem dX3_init_8 : decode cX3_init 8 = .ok (.putfield 9, 3) := by decide +kernel
theorem dX3_init_11 : decode cX3_init 11 = .ok (.aload_n 0, 1) := by decide +kernel
theorem dX3_init_12 : decode cX3_init 12 = .ok (.bipush 16, 2) := by decide +kernel
theorem dX3_init_14 : decode cX3_init 14 = .ok (.newarray .int, 2) := by decide +kernel
theorem dX3_init_16 : decode cX3_init 16 = .ok (.putfield 15, 3) := by decide +kernel
theorem dX3_init_19 : decode cX3_init 19 = .ok (.iconst 0, 1) := by decide +kernel
theorem dX3_init_20 : decode cX3_init 20 = .ok (.istore_n 1, 1) := by decide +kernel
theorem dX3_init_21 : decode cX3_init 21 = .ok (.iload_n 1, 1) := by decide +kernel
theorem dX3_init_22 : decode cX3_init 22 = .ok (.aload_n 0, 1) := by decide +kernel
theorem dX3_init_23 : decode cX3_init 23 = .ok (.getfield 9, 3) := by decide +kernel
theorem dX3_init_26 : decode cX3_init 26 = .ok (.arraylength, 1) := by decide +kernel
theorem dX3_init_27 : decode cX3_init 27 = .ok (.if_icmp .ge 17, 3) := by decide +kernel
theorem dX3_init_30 : decode cX3_init 30 = .ok (.aload_n 0, 1) := by decide +kernel
theorem dX3_init_31 : decode cX3_init 31 = .ok (.getfield 9, 3) := by decide +kernel
theorem dX3_init_34 : decode cX3_init 34 = .ok (.iload_n 1, 1) := by decide +kernel
theorem dX3_init_35 : decode cX3_init 35 = .ok (.bipush 100, 2) := by decide +kernel
theorem dX3_init_37 : decode cX3_init 37 = .ok (.iastore, 1) := by decide +kernel
theorem dX3_init_38 : decode cX3_init 38 = .ok (.iinc 1 1, 3) := by decide +kernel
theorem dX3_init_41 : decode cX3_init 41 = .ok (.goto (-20), 3) := by decide +kernel
theorem dX3_init_44 : decode cX3_init 44 = .ok (.return_, 1) := by decide +kernel
theorem dX3_placeBalloons_0 : decode cX3_placeBalloons 0 = .ok (.aload_n 1, 1) := by decide +kernel
theorem dX3_placeBalloons_1 : decode cX3_placeBalloons 1 = .ok (.getfield 57, 3) := by decide +kernel
theorem dX3_placeBalloons_4 : decode cX3_placeBalloons 4 = .ok (.astore_n 2, 1) := by decide +kernel
theorem dX3_placeBalloons_5 : decode cX3_placeBalloons 5 = .ok (.aload_n 1, 1) := by decide +kernel
theorem dX3_placeBalloons_6 : decode cX3_placeBalloons 6 = .ok (.getfield 103, 3) := by decide +kernel
theorem dX3_placeBalloons_9 : decode cX3_placeBalloons 9 = .ok (.invokevirtual 92, 3) := by decide +kernel
theorem dX3_placeBalloons_12 : decode cX3_placeBalloons 12 = .ok (.istore_n 3, 1) := by decide +kernel
theorem dX3_placeBalloons_13 : decode cX3_placeBalloons 13 = .ok (.aload_n 0, 1) := by decide +kernel
theorem dX3_placeBalloons_14 : decode cX3_placeBalloons 14 = .ok (.aload_n 1, 1) := by decide +kernel
theorem dX3_placeBalloons_15 : decode cX3_placeBalloons 15 = .ok (.invokevirtual 107, 3) := by decide +kernel
theorem dX3_placeBalloons_18 : decode cX3_placeBalloons 18 = .ok (.iconst 0, 1) := by decide +kernel
theorem dX3_placeBalloons_19 : decode cX3_placeBalloons 19 = .ok (.istore 4, 2) := by decide +kernel
theorem dX3_placeBalloons_21 : decode cX3_placeBalloons 21 = .ok (.iconst 0, 1) := by decide +kernel
theorem dX3_placeBalloons_22 : decode cX3_placeBalloons 22 = .ok (.istore 5, 2) := by decide +kernel
theorem dX3_placeBalloons_24 : decode cX3_placeBalloons 24 = .ok (.iconst 0, 1) := by decide +kernel
theorem dX3_placeBalloons_25 : decode cX3_placeBalloons 25 = .ok (.istore 6, 2) := by decide +kernel
theorem dX3_placeBalloons_27 : decode cX3_placeBalloons 27 = .ok (.iload 6, 2) := by decide +kernel
theorem dX3_placeBalloons_29 : decode cX3_placeBalloons 29 = .ok (.aload_n 1, 1) := by decide +kernel
theorem dX3_placeBalloons_30 : decode cX3_placeBalloons 30 = .ok (.getfield 111, 3) := by decide +kernel
theorem dX3_placeBalloons_33 : decode cX3_placeBalloons 33 = .ok (.invokevirtual 28, 3) := by decide +kernel
theorem dX3_placeBalloons_36 : decode cX3_placeBalloons 36 = .ok (.if_icmp .ge 161, 3) := by decide +kernel
theorem dX3_placeBalloons_39 : decode cX3_placeBalloons 39 = .ok (.aload_n 1, 1) := by decide +kernel
theorem dX3_placeBalloons_40 : decode cX3_placeBalloons 40 = .ok (.getfield 111, 3) := by decide +kernel
theorem dX3_placeBalloons_43 : decode cX3_placeBalloons 43 = .ok (.iload 6, 2) := by decide +kernel
theorem dX3_placeBalloons_45 : decode cX3_placeBalloons 45 = .ok (.invokevirtual 34, 3) := by decide +kernel
theorem dX3_placeBalloons_48 : decode cX3_placeBalloons 48 = .ok (.checkcast 112, 3) := by decide +kernel
theorem dX3_placeBalloons_51 : decode cX3_placeBalloons 51 = .ok (.astore 7, 2) := by decide +kernel
theorem dX3_placeBalloons_53 : decode cX3_placeBalloons 53 = .ok (.aload 7, 2) := by decide +kernel
theorem dX3_placeBalloons_55 : decode cX3_placeBalloons 55 = .ok (.getfield 114, 3) := by decide +kernel
theorem dX3_placeBalloons_58 : decode cX3_placeBalloons 58 = .ok (.astore 8, 2) := by decide +kernel
theorem dX3_placeBalloons_60 : decode cX3_placeBalloons 60 = .ok (.aload 7, 2) := by decide +kernel
theorem dX3_placeBalloons_62 : decode cX3_placeBalloons 62 = .ok (.getfield 115, 3) := by decide +kernel
theorem dX3_placeBalloons_65 : decode cX3_placeBalloons 65 = .ok (.aload_n 0, 1) := by decide +kernel
theorem dX3_placeBalloons_66 : decode cX3_placeBalloons 66 = .ok (.aload_n 1, 1) := by decide +kernel
theorem dX3_placeBalloons_67 : decode cX3_placeBalloons 67 = .ok (.getfield 103, 3) := by decide +kernel
theorem dX3_placeBalloons_70 : decode cX3_placeBalloons 70 = .ok (.invokevirtual 118, 3) := by decide +kernel
theorem dX3_placeBalloons_73 : decode cX3_placeBalloons 73 = .ok (.imul, 1) := by decide +kernel
theorem dX3_placeBalloons_74 : decode cX3_placeBalloons 74 = .ok (.bipush 100, 2) := by decide +kernel
theorem dX3_placeBalloons_76 : decode cX3_placeBalloons 76 = .ok (.invokestatic 122, 3) := by decide +kernel
theorem dX3_placeBalloons_79 : decode cX3_placeBalloons 79 = .ok (.istore 9, 2) := by decide +kernel
theorem dX3_placeBalloons_81 : decode cX3_placeBalloons 81 = .ok (.aload 8, 2) := by decide +kernel
theorem dX3_placeBalloons_83 : decode cX3_placeBalloons 83 = .ok (.iload 9, 2) := by decide +kernel
theorem dX3_placeBalloons_85 : decode cX3_placeBalloons 85 = .ok (.bipush 6, 2) := by decide +kernel
theorem dX3_placeBalloons_87 : decode cX3_placeBalloons 87 = .ok (.aload_n 2, 1) := by decide +kernel
theorem dX3_placeBalloons_88 : decode cX3_placeBalloons 88 = .ok (.getfield 61, 3) := by decide +kernel
theorem dX3_placeBalloons_91 : decode cX3_placeBalloons 91 = .ok (.invokestatic 125, 3) := by decide +kernel
theorem dX3_placeBalloons_94 : decode cX3_placeBalloons 94 = .ok (.invokestatic 125, 3) := by decide +kernel
theorem dX3_placeBalloons_97 : decode cX3_placeBalloons 97 = .ok (.putfield 61, 3) := by decide +kernel
theorem dX3_placeBalloons_100 : decode cX3_placeBalloons 100 = .ok (.aload 8, 2) := by decide +kernel
theorem dX3_placeBalloons_102 : decode cX3_placeBalloons 102 = .ok (.iload 9, 2) := by decide +kernel
theorem dX3_placeBalloons_104 : decode cX3_placeBalloons 104 = .ok (.aload 8, 2) := by decide +kernel
theorem dX3_placeBalloons_106 : decode cX3_placeBalloons 106 = .ok (.getfield 61, 3) := by decide +kernel
theorem dX3_placeBalloons_109 : decode cX3_placeBalloons 109 = .ok (.invokestatic 122, 3) := by decide +kernel
theorem dX3_placeBalloons_112 : decode cX3_placeBalloons 112 = .ok (.putfield 79, 3) := by decide +kernel
theorem dX3_placeBalloons_115 : decode cX3_placeBalloons 115 = .ok (.aload_n 0, 1) := by decide +kernel
theorem dX3_placeBalloons_116 : decode cX3_placeBalloons 116 = .ok (.aload 8, 2) := by decide +kernel
theorem dX3_placeBalloons_118 : decode cX3_placeBalloons 118 = .ok (.iload 4, 2) := by decide +kernel
theorem dX3_placeBalloons_120 : decode cX3_placeBalloons 120 = .ok (.iload 5, 2) := by decide +kernel
theorem dX3_placeBalloons_122 : decode cX3_placeBalloons 122 = .ok (.aload_n 2, 1) := by decide +kernel
theorem dX3_placeBalloons_123 : decode cX3_placeBalloons 123 = .ok (.iload_n 3, 1) := by decide +kernel
theorem dX3_placeBalloons_124 : decode cX3_placeBalloons 124 = .ok (.invokevirtual 128, 3) := by decide +kernel
theorem dX3_placeBalloons_127 : decode cX3_placeBalloons 127 = .ok (.ifCond .ne 5, 3) := by decide +kernel
theorem dX3_placeBalloons_130 : decode cX3_placeBalloons 130 = .ok (.iconst 0, 1) := by decide +kernel
theorem dX3_placeBalloons_131 : decode cX3_placeBalloons 131 = .ok (.ireturn, 1) := by decide +kernel
theorem dX3_placeBalloons_132 : decode cX3_placeBalloons 132 = .ok (.aload_n 0, 1) := by decide +kernel
theorem dX3_placeBalloons_133 : decode cX3_placeBalloons 133 = .ok (.aload 8, 2) := by decide +kernel
theorem dX3_placeBalloons_135 : decode cX3_placeBalloons 135 = .ok (.getfield 100, 3) := by decide +kernel
theorem dX3_placeBalloons_138 : decode cX3_placeBalloons 138 = .ok (.aload 8, 2) := by decide +kernel
theorem dX3_placeBalloons_140 : decode cX3_placeBalloons 140 = .ok (.getfield 61, 3) := by decide +kernel
theorem dX3_placeBalloons_143 : decode cX3_placeBalloons 143 = .ok (.aload 8, 2) := by decide +kernel
theorem dX3_placeBalloons_145 : decode cX3_placeBalloons 145 = .ok (.getfield 89, 3) := by decide +kernel
theorem dX3_placeBalloons_148 : decode cX3_placeBalloons 148 = .ok (.aload 8, 2) := by decide +kernel
theorem dX3_placeBalloons_150 : decode cX3_placeBalloons 150 = .ok (.getfield 89, 3) := by decide +kernel
theorem dX3_placeBalloons_153 : decode cX3_placeBalloons 153 = .ok (.aload 8, 2) := by decide +kernel
theorem dX3_placeBalloons_155 : decode cX3_placeBalloons 155 = .ok (.getfield 79, 3) := by decide +kernel
theorem dX3_placeBalloons_158 : decode cX3_placeBalloons 158 = .ok (.iadd, 1) := by decide +kernel
theorem dX3_placeBalloons_159 : decode cX3_placeBalloons 159 = .ok (.invokevirtual 132, 3) := by decide +kernel
theorem dX3_placeBalloons_162 : decode cX3_placeBalloons 162 = .ok (.aload 8, 2) := by decide +kernel
theorem dX3_placeBalloons_164 : decode cX3_placeBalloons 164 = .ok (.getfield 89, 3) := by decide +kernel
theorem dX3_placeBalloons_167 : decode cX3_placeBalloons 167 = .ok (.istore 4, 2) := by decide +kernel
theorem dX3_placeBalloons_169 : decode cX3_placeBalloons 169 = .ok (.aload 8, 2) := by decide +kernel
theorem dX3_placeBalloons_171 : decode cX3_placeBalloons 171 = .ok (.getfield 100, 3) := by decide +kernel
theorem dX3_placeBalloons_174 : decode cX3_placeBalloons 174 = .ok (.aload 8, 2) := by decide +kernel
theorem dX3_placeBalloons_176 : decode cX3_placeBalloons 176 = .ok (.getfield 61, 3) := by decide +kernel
theorem dX3_placeBalloons_179 : decode cX3_placeBalloons 179 = .ok (.aload_n 2, 1) := by decide +kernel
theorem dX3_placeBalloons_180 : decode cX3_placeBalloons 180 = .ok (.getfield 61, 3) := by decide +kernel
theorem dX3_placeBalloons_183 : decode cX3_placeBalloons 183 = .ok (.iload_n 3, 1) := by decide +kernel
theorem dX3_placeBalloons_184 : decode cX3_placeBalloons 184 = .ok (.invokestatic 96, 3) := by decide +kernel
theorem dX3_placeBalloons_187 : decode cX3_placeBalloons 187 = .ok (.iconst 1, 1) := by decide +kernel
theorem dX3_placeBalloons_188 : decode cX3_placeBalloons 188 = .ok (.iadd, 1) := by decide +kernel
theorem dX3_placeBalloons_189 : decode cX3_placeBalloons 189 = .ok (.istore 5, 2) := by decide +kernel
theorem dX3_placeBalloons_191 : decode cX3_placeBalloons 191 = .ok (.iinc 6 1, 3) := by decide +kernel
theorem dX3_placeBalloons_194 : decode cX3_placeBalloons 194 = .ok (.goto (-167), 3) := by decide +kernel
theorem dX3_placeBalloons_197 : decode cX3_placeBalloons 197 = .ok (.iconst 1, 1) := by decide +kernel
theorem dX3_placeBalloons_198 : decode cX3_placeBalloons 198 = .ok (.ireturn, 1) := by decide +kernel
theorem dX3_putRow_0 : decode cX3_putRow 0 = .ok (.iconst 0, 1) := by decide +kernel
theorem dX3_putRow_1 : decode cX3_putRow 1 = .ok (.istore 4, 2) := by decide +kernel
theorem dX3_putRow_3 : decode cX3_putRow 3 = .ok (.iload_n 1, 1) := by decide +kernel
theorem dX3_putRow_4 : decode cX3_putRow 4 = .ok (.istore 5, 2) := by decide +kernel
theorem dX3_putRow_6 : decode cX3_putRow 6 = .ok (.iload 5, 2) := by decide +kernel
theorem dX3_putRow_8 : decode cX3_putRow 8 = .ok (.iload_n 2, 1) := by decide +kernel
theorem dX3_putRow_9 : decode cX3_putRow 9 = .ok (.if_icmp .gt 81, 3) := by decide +kernel
theorem dX3_putRow_12 : decode cX3_putRow 12 = .ok (.aload_n 0, 1) := by decide +kernel
theorem dX3_putRow_13 : decode cX3_putRow 13 = .ok (.getfield 24, 3) := by decide +kernel
theorem dX3_putRow_16 : decode cX3_putRow 16 = .ok (.iload 5, 2) := by decide +kernel
theorem dX3_putRow_18 : decode cX3_putRow 18 = .ok (.invokevirtual 34, 3) := by decide +kernel
theorem dX3_putRow_21 : decode cX3_putRow 21 = .ok (.checkcast 38, 3) := by decide +kernel
theorem dX3_putRow_24 : decode cX3_putRow 24 = .ok (.astore 6, 2) := by decide +kernel
theorem dX3_putRow_26 : decode cX3_putRow 26 = .ok (.aload 6, 2) := by decide +kernel
theorem dX3_putRow_28 : decode cX3_putRow 28 = .ok (.aload_n 0, 1) := by decide +kernel
theorem dX3_putRow_29 : decode cX3_putRow 29 = .ok (.getfield 18, 3) := by decide +kernel
theorem dX3_putRow_32 : decode cX3_putRow 32 = .ok (.putfield 86, 3) := by decide +kernel
theorem dX3_putRow_35 : decode cX3_putRow 35 = .ok (.aload 6, 2) := by decide +kernel
theorem dX3_putRow_37 : decode cX3_putRow 37 = .ok (.getfield 57, 3) := by decide +kernel
theorem dX3_putRow_40 : decode cX3_putRow 40 = .ok (.iload_n 3, 1) := by decide +kernel
theorem dX3_putRow_41 : decode cX3_putRow 41 = .ok (.putfield 89, 3) := by decide +kernel
theorem dX3_putRow_44 : decode cX3_putRow 44 = .ok (.aload 6, 2) := by decide +kernel
theorem dX3_putRow_46 : decode cX3_putRow 46 = .ok (.getfield 57, 3) := by decide +kernel
theorem dX3_putRow_49 : decode cX3_putRow 49 = .ok (.iload 4, 2) := by decide +kernel
theorem dX3_putRow_51 : decode cX3_putRow 51 = .ok (.aload 6, 2) := by decide +kernel
theorem dX3_putRow_53 : decode cX3_putRow 53 = .ok (.getfield 57, 3) := by decide +kernel
theorem dX3_putRow_56 : decode cX3_putRow 56 = .ok (.getfield 61, 3) := by decide +kernel
theorem dX3_putRow_59 : decode cX3_putRow 59 = .ok (.bipush 24, 2) := by decide +kernel
theorem dX3_putRow_61 : decode cX3_putRow 61 = .ok (.aload_n 0, 1) := by decide +kernel
theorem dX3_putRow_62 : decode cX3_putRow 62 = .ok (.invokevirtual 92, 3) := by decide +kernel
theorem dX3_putRow_65 : decode cX3_putRow 65 = .ok (.invokestatic 96, 3) := by decide +kernel
theorem dX3_putRow_68 : decode cX3_putRow 68 = .ok (.putfield 100, 3) := by decide +kernel
theorem dX3_putRow_71 : decode cX3_putRow 71 = .ok (.iload 4, 2) := by decide +kernel
theorem dX3_putRow_73 : decode cX3_putRow 73 = .ok (.aload 6, 2) := by decide +kernel
theorem dX3_putRow_75 : decode cX3_putRow 75 = .ok (.getfield 57, 3) := by decide +kernel
theorem dX3_putRow_78 : decode cX3_putRow 78 = .ok (.getfield 61, 3) := by decide +kernel
theorem dX3_putRow_81 : decode cX3_putRow 81 = .ok (.iadd, 1) := by decide +kernel
theorem dX3_putRow_82 : decode cX3_putRow 82 = .ok (.istore 4, 2) := by decide +kernel
theorem dX3_putRow_84 : decode cX3_putRow 84 = .ok (.iinc 5 1, 3) := by decide +kernel
theorem dX3_putRow_87 : decode cX3_putRow 87 = .ok (.goto (-81), 3) := by decide +kernel
theorem dX3_putRow_90 : decode cX3_putRow 90 = .ok (.return_, 1) := by decide +kernel
theorem dX3_shareWidth_0 : decode cX3_shareWidth 0 = .ok (.iconst 0, 1) := by decide +kernel
theorem dX3_shareWidth_1 : decode cX3_shareWidth 1 = .ok (.istore 4, 2) := by decide +kernel
theorem dX3_shareWidth_3 : decode cX3_shareWidth 3 = .ok (.iload_n 1, 1) := by decide +kernel
theorem dX3_shareWidth_4 : decode cX3_shareWidth 4 = .ok (.istore 5, 2) := by decide +kernel
theorem dX3_shareWidth_6 : decode cX3_shareWidth 6 = .ok (.iload 5, 2) := by decide +kernel
theorem dX3_shareWidth_8 : decode cX3_shareWidth 8 = .ok (.iload_n 2, 1) := by decide +kernel
theorem dX3_shareWidth_9 : decode cX3_shareWidth 9 = .ok (.if_icmp .gt 29, 3) := by decide +kernel
theorem dX3_shareWidth_12 : decode cX3_shareWidth 12 = .ok (.iload 4, 2) := by decide +kernel
theorem dX3_shareWidth_14 : decode cX3_shareWidth 14 = .ok (.aload_n 0, 1) := by decide +kernel
theorem dX3_shareWidth_15 : decode cX3_shareWidth 15 = .ok (.getfield 24, 3) := by decide +kernel
theorem dX3_shareWidth_18 : decode cX3_shareWidth 18 = .ok (.iload 5, 2) := by decide +kernel
theorem dX3_shareWidth_20 : decode cX3_shareWidth 20 = .ok (.invokevirtual 34, 3) := by decide +kernel
theorem dX3_shareWidth_23 : decode cX3_shareWidth 23 = .ok (.checkcast 38, 3) := by decide +kernel
theorem dX3_shareWidth_26 : decode cX3_shareWidth 26 = .ok (.getfield 54, 3) := by decide +kernel
theorem dX3_shareWidth_29 : decode cX3_shareWidth 29 = .ok (.iadd, 1) := by decide +kernel
theorem dX3_shareWidth_30 : decode cX3_shareWidth 30 = .ok (.istore 4, 2) := by decide +kernel
theorem dX3_shareWidth_32 : decode cX3_shareWidth 32 = .ok (.iinc 5 1, 3) := by decide +kernel
theorem dX3_shareWidth_35 : decode cX3_shareWidth 35 = .ok (.goto (-29), 3) := by decide +kernel
theorem dX3_shareWidth_38 : decode cX3_shareWidth 38 = .ok (.iload_n 3, 1) := by decide +kernel
theorem dX3_shareWidth_39 : decode cX3_shareWidth 39 = .ok (.istore 5, 2) := by decide +kernel
theorem dX3_shareWidth_41 : decode cX3_shareWidth 41 = .ok (.iload_n 1, 1) := by decide +kernel
theorem dX3_shareWidth_42 : decode cX3_shareWidth 42 = .ok (.istore 6, 2) := by decide +kernel
theorem dX3_shareWidth_44 : decode cX3_shareWidth 44 = .ok (.iload 6, 2) := by decide +kernel
theorem dX3_shareWidth_46 : decode cX3_shareWidth 46 = .ok (.iload_n 2, 1) := by decide +kernel
theorem dX3_shareWidth_47 : decode cX3_shareWidth 47 = .ok (.if_icmp .gt 67, 3) := by decide +kernel
theorem dX3_shareWidth_50 : decode cX3_shareWidth 50 = .ok (.aload_n 0, 1) := by decide +kernel
theorem dX3_shareWidth_51 : decode cX3_shareWidth 51 = .ok (.getfield 24, 3) := by decide +kernel
theorem dX3_shareWidth_54 : decode cX3_shareWidth 54 = .ok (.iload 6, 2) := by decide +kernel
theorem dX3_shareWidth_56 : decode cX3_shareWidth 56 = .ok (.invokevirtual 34, 3) := by decide +kernel
theorem dX3_shareWidth_59 : decode cX3_shareWidth 59 = .ok (.checkcast 38, 3) := by decide +kernel
theorem dX3_shareWidth_62 : decode cX3_shareWidth 62 = .ok (.astore 7, 2) := by decide +kernel
theorem dX3_shareWidth_64 : decode cX3_shareWidth 64 = .ok (.iload 4, 2) := by decide +kernel
theorem dX3_shareWidth_66 : decode cX3_shareWidth 66 = .ok (.ifCond .le 16, 3) := by decide +kernel
theorem dX3_shareWidth_69 : decode cX3_shareWidth 69 = .ok (.iload_n 3, 1) := by decide +kernel
theorem dX3_shareWidth_70 : decode cX3_shareWidth 70 = .ok (.aload 7, 2) := by decide +kernel
theorem dX3_shareWidth_72 : decode cX3_shareWidth 72 = .ok (.getfield 54, 3) := by decide +kernel
theorem dX3_shareWidth_75 : decode cX3_shareWidth 75 = .ok (.imul, 1) := by decide +kernel
theorem dX3_shareWidth_76 : decode cX3_shareWidth 76 = .ok (.iload 4, 2) := by decide +kernel
theorem dX3_shareWidth_78 : decode cX3_shareWidth 78 = .ok (.idiv, 1) := by decide +kernel
theorem dX3_shareWidth_79 : decode cX3_shareWidth 79 = .ok (.goto 4, 3) := by decide +kernel
theorem dX3_shareWidth_82 : decode cX3_shareWidth 82 = .ok (.iconst 0, 1) := by decide +kernel
theorem dX3_shareWidth_83 : decode cX3_shareWidth 83 = .ok (.istore 8, 2) := by decide +kernel
theorem dX3_shareWidth_85 : decode cX3_shareWidth 85 = .ok (.aload 7, 2) := by decide +kernel
theorem dX3_shareWidth_87 : decode cX3_shareWidth 87 = .ok (.getfield 57, 3) := by decide +kernel
theorem dX3_shareWidth_90 : decode cX3_shareWidth 90 = .ok (.aload 7, 2) := by decide +kernel
theorem dX3_shareWidth_92 : decode cX3_shareWidth 92 = .ok (.getfield 40, 3) := by decide +kernel
theorem dX3_shareWidth_95 : decode cX3_shareWidth 95 = .ok (.iload 8, 2) := by decide +kernel
theorem dX3_shareWidth_97 : decode cX3_shareWidth 97 = .ok (.iadd, 1) := by decide +kernel
theorem dX3_shareWidth_98 : decode cX3_shareWidth 98 = .ok (.putfield 61, 3) := by decide +kernel
theorem dX3_shareWidth_101 : decode cX3_shareWidth 101 = .ok (.iload 5, 2) := by decide +kernel
theorem dX3_shareWidth_103 : decode cX3_shareWidth 103 = .ok (.iload 8, 2) := by decide +kernel
theorem dX3_shareWidth_105 : decode cX3_shareWidth 105 = .ok (.isub, 1) := by decide +kernel
theorem dX3_shareWidth_106 : decode cX3_shareWidth 106 = .ok (.istore 5, 2) := by decide +kernel
theorem dX3_shareWidth_108 : decode cX3_shareWidth 108 = .ok (.iinc 6 1, 3) := by decide +kernel
theorem dX3_shareWidth_111 : decode cX3_shareWidth 111 = .ok (.goto (-67), 3) := by decide +kernel
theorem dX3_shareWidth_114 : decode cX3_shareWidth 114 = .ok (.iload_n 1, 1) := by decide +kernel
theorem dX3_shareWidth_115 : decode cX3_shareWidth 115 = .ok (.istore 6, 2) := by decide +kernel
theorem dX3_shareWidth_117 : decode cX3_shareWidth 117 = .ok (.iload 6, 2) := by decide +kernel
theorem dX3_shareWidth_119 : decode cX3_shareWidth 119 = .ok (.iload_n 2, 1) := by decide +kernel
theorem dX3_shareWidth_120 : decode cX3_shareWidth 120 = .ok (.if_icmp .gt 42, 3) := by decide +kernel
theorem dX3_shareWidth_123 : decode cX3_shareWidth 123 = .ok (.iload 6, 2) := by decide +kernel
theorem dX3_shareWidth_125 : decode cX3_shareWidth 125 = .ok (.iload_n 1, 1) := by decide +kernel
theorem dX3_shareWidth_126 : decode cX3_shareWidth 126 = .ok (.iload 5, 2) := by decide +kernel
theorem dX3_shareWidth_128 : decode cX3_shareWidth 128 = .ok (.iadd, 1) := by decide +kernel
theorem dX3_shareWidth_129 : decode cX3_shareWidth 129 = .ok (.if_icmp .ge 33, 3) := by decide +kernel
theorem dX3_shareWidth_132 : decode cX3_shareWidth 132 = .ok (.aload_n 0, 1) := by decide +kernel
theorem dX3_shareWidth_133 : decode cX3_shareWidth 133 = .ok (.getfield 24, 3) := by decide +kernel
theorem dX3_shareWidth_136 : decode cX3_shareWidth 136 = .ok (.iload 6, 2) := by decide +kernel
theorem dX3_shareWidth_138 : decode cX3_shareWidth 138 = .ok (.invokevirtual 34, 3) := by decide +kernel
theorem dX3_shareWidth_141 : decode cX3_shareWidth 141 = .ok (.checkcast 38, 3) := by decide +kernel
theorem dX3_shareWidth_144 : decode cX3_shareWidth 144 = .ok (.getfield 57, 3) := by decide +kernel
theorem dX3_shareWidth_147 : decode cX3_shareWidth 147 = .ok (.dup, 1) := by decide +kernel
theorem dX3_shareWidth_148 : decode cX3_shareWidth 148 = .ok (.getfield 61, 3) := by decide +kernel
theorem dX3_shareWidth_151 : decode cX3_shareWidth 151 = .ok (.iconst 1, 1) := by decide +kernel
theorem dX3_shareWidth_152 : decode cX3_shareWidth 152 = .ok (.iadd, 1) := by decide +kernel
theorem dX3_shareWidth_153 : decode cX3_shareWidth 153 = .ok (.putfield 61, 3) := by decide +kernel
theorem dX3_shareWidth_156 : decode cX3_shareWidth 156 = .ok (.iinc 6 1, 3) := by decide +kernel
theorem dX3_shareWidth_159 : decode cX3_shareWidth 159 = .ok (.goto (-42), 3) := by decide +kernel
theorem dX3_shareWidth_162 : decode cX3_shareWidth 162 = .ok (.return_, 1) := by decide +kernel
theorem dX3_take_0 : decode cX3_take 0 = .ok (.iload_n 3, 1) := by decide +kernel
theorem dX3_take_1 : decode cX3_take 1 = .ok (.iconst 0, 1) := by decide +kernel
theorem dX3_take_2 : decode cX3_take 2 = .ok (.invokestatic 69, 3) := by decide +kernel
theorem dX3_take_5 : decode cX3_take 5 = .ok (.istore 5, 2) := by decide +kernel
theorem dX3_take_7 : decode cX3_take 7 = .ok (.iload 5, 2) := by decide +kernel
theorem dX3_take_9 : decode cX3_take 9 = .ok (.iload 4, 2) := by decide +kernel
theorem dX3_take_11 : decode cX3_take 11 = .ok (.if_icmp .ge 34, 3) := by decide +kernel
theorem dX3_take_14 : decode cX3_take 14 = .ok (.iload 5, 2) := by decide +kernel
theorem dX3_take_16 : decode cX3_take 16 = .ok (.aload_n 0, 1) := by decide +kernel
theorem dX3_take_17 : decode cX3_take 17 = .ok (.getfield 15, 3) := by decide +kernel
theorem dX3_take_20 : decode cX3_take 20 = .ok (.arraylength, 1) := by decide +kernel
theorem dX3_take_21 : decode cX3_take 21 = .ok (.if_icmp .ge 24, 3) := by decide +kernel
theorem dX3_take_24 : decode cX3_take 24 = .ok (.aload_n 0, 1) := by decide +kernel
theorem dX3_take_25 : decode cX3_take 25 = .ok (.getfield 15, 3) := by decide +kernel
theorem dX3_take_28 : decode cX3_take 28 = .ok (.iload 5, 2) := by decide +kernel
theorem dX3_take_30 : decode cX3_take 30 = .ok (.dup2, 1) := by decide +kernel
theorem dX3_take_31 : decode cX3_take 31 = .ok (.iaload, 1) := by decide +kernel
theorem dX3_take_32 : decode cX3_take 32 = .ok (.iload_n 1, 1) := by decide +kernel
theorem dX3_take_33 : decode cX3_take 33 = .ok (.iload_n 2, 1) := by decide +kernel
theorem dX3_take_34 : decode cX3_take 34 = .ok (.invokestatic 149, 3) := by decide +kernel
theorem dX3_take_37 : decode cX3_take 37 = .ok (.ior, 1) := by decide +kernel
theorem dX3_take_38 : decode cX3_take 38 = .ok (.iastore, 1) := by decide +kernel
theorem dX3_take_39 : decode cX3_take 39 = .ok (.iinc 5 1, 3) := by decide +kernel
theorem dX3_take_42 : decode cX3_take 42 = .ok (.goto (-35), 3) := by decide +kernel
theorem dX3_take_45 : decode cX3_take 45 = .ok (.return_, 1) := by decide +kernel
theorem dX3_takeFaces_0 : decode cX3_takeFaces 0 = .ok (.aload_n 1, 1) := by decide +kernel
theorem dX3_takeFaces_1 : decode cX3_takeFaces 1 = .ok (.getfield 57, 3) := by decide +kernel
theorem dX3_takeFaces_4 : decode cX3_takeFaces 4 = .ok (.getfield 79, 3) := by decide +kernel
theorem dX3_takeFaces_7 : decode cX3_takeFaces 7 = .ok (.istore_n 2, 1) := by decide +kernel
theorem dX3_takeFaces_8 : decode cX3_takeFaces 8 = .ok (.iconst 0, 1) := by decide +kernel
theorem dX3_takeFaces_9 : decode cX3_takeFaces 9 = .ok (.istore_n 3, 1) := by decide +kernel
theorem dX3_takeFaces_10 : decode cX3_takeFaces 10 = .ok (.iload_n 3, 1) := by decide +kernel
theorem dX3_takeFaces_11 : decode cX3_takeFaces 11 = .ok (.aload_n 0, 1) := by decide +kernel
theorem dX3_takeFaces_12 : decode cX3_takeFaces 12 = .ok (.getfield 15, 3) := by decide +kernel
theorem dX3_takeFaces_15 : decode cX3_takeFaces 15 = .ok (.arraylength, 1) := by decide +kernel
theorem dX3_takeFaces_16 : decode cX3_takeFaces 16 = .ok (.if_icmp .ge 16, 3) := by decide +kernel
theorem dX3_takeFaces_19 : decode cX3_takeFaces 19 = .ok (.aload_n 0, 1) := by decide +kernel
theorem dX3_takeFaces_20 : decode cX3_takeFaces 20 = .ok (.getfield 15, 3) := by decide +kernel
theorem dX3_takeFaces_23 : decode cX3_takeFaces 23 = .ok (.iload_n 3, 1) := by decide +kernel
theorem dX3_takeFaces_24 : decode cX3_takeFaces 24 = .ok (.iconst 0, 1) := by decide +kernel
theorem dX3_takeFaces_25 : decode cX3_takeFaces 25 = .ok (.iastore, 1) := by decide +kernel
theorem dX3_takeFaces_26 : decode cX3_takeFaces 26 = .ok (.iinc 3 1, 3) := by decide +kernel
theorem dX3_takeFaces_29 : decode cX3_takeFaces 29 = .ok (.goto (-19), 3) := by decide +kernel
theorem dX3_takeFaces_32 : decode cX3_takeFaces 32 = .ok (.iconst 0, 1) := by decide +kernel
theorem dX3_takeFaces_33 : decode cX3_takeFaces 33 = .ok (.istore_n 3, 1) := by decide +kernel
theorem dX3_takeFaces_34 : decode cX3_takeFaces 34 = .ok (.iload_n 3, 1) := by decide +kernel
theorem dX3_takeFaces_35 : decode cX3_takeFaces 35 = .ok (.aload_n 1, 1) := by decide +kernel
theorem dX3_takeFaces_36 : decode cX3_takeFaces 36 = .ok (.getfield 139, 3) := by decide +kernel
theorem dX3_takeFaces_39 : decode cX3_takeFaces 39 = .ok (.invokevirtual 28, 3) := by decide +kernel
theorem dX3_takeFaces_42 : decode cX3_takeFaces 42 = .ok (.if_icmp .ge 44, 3) := by decide +kernel
theorem dX3_takeFaces_45 : decode cX3_takeFaces 45 = .ok (.aload_n 1, 1) := by decide +kernel
theorem dX3_takeFaces_46 : decode cX3_takeFaces 46 = .ok (.getfield 139, 3) := by decide +kernel
theorem dX3_takeFaces_49 : decode cX3_takeFaces 49 = .ok (.iload_n 3, 1) := by decide +kernel
theorem dX3_takeFaces_50 : decode cX3_takeFaces 50 = .ok (.invokevirtual 34, 3) := by decide +kernel
theorem dX3_takeFaces_53 : decode cX3_takeFaces 53 = .ok (.checkcast 142, 3) := by decide +kernel
theorem dX3_takeFaces_56 : decode cX3_takeFaces 56 = .ok (.astore 4, 2) := by decide +kernel
theorem dX3_takeFaces_58 : decode cX3_takeFaces 58 = .ok (.aload_n 0, 1) := by decide +kernel
theorem dX3_takeFaces_59 : decode cX3_takeFaces 59 = .ok (.aload 4, 2) := by decide +kernel
theorem dX3_takeFaces_61 : decode cX3_takeFaces 61 = .ok (.getfield 144, 3) := by decide +kernel
theorem dX3_takeFaces_64 : decode cX3_takeFaces 64 = .ok (.aload 4, 2) := by decide +kernel
theorem dX3_takeFaces_66 : decode cX3_takeFaces 66 = .ok (.getfield 147, 3) := by decide +kernel
theorem dX3_takeFaces_69 : decode cX3_takeFaces 69 = .ok (.iload_n 2, 1) := by decide +kernel
theorem dX3_takeFaces_70 : decode cX3_takeFaces 70 = .ok (.aload 4, 2) := by decide +kernel
theorem dX3_takeFaces_72 : decode cX3_takeFaces 72 = .ok (.getfield 148, 3) := by decide +kernel
theorem dX3_takeFaces_75 : decode cX3_takeFaces 75 = .ok (.isub, 1) := by decide +kernel
theorem dX3_takeFaces_76 : decode cX3_takeFaces 76 = .ok (.iload_n 2, 1) := by decide +kernel
theorem dX3_takeFaces_77 : decode cX3_takeFaces 77 = .ok (.invokevirtual 132, 3) := by decide +kernel
theorem dX3_takeFaces_80 : decode cX3_takeFaces 80 = .ok (.iinc 3 1, 3) := by decide +kernel
theorem dX3_takeFaces_83 : decode cX3_takeFaces 83 = .ok (.goto (-49), 3) := by decide +kernel
theorem dX3_takeFaces_86 : decode cX3_takeFaces 86 = .ok (.return_, 1) := by decide +kernel
theorem dX3_takenBetween_0 : decode cX3_takenBetween 0 = .ok (.iconst 0, 1) := by decide +kernel
theorem dX3_takenBetween_1 : decode cX3_takenBetween 1 = .ok (.istore_n 3, 1) := by decide +kernel
theorem dX3_takenBetween_2 : decode cX3_takenBetween 2 = .ok (.iload_n 1, 1) := by decide +kernel
theorem dX3_takenBetween_3 : decode cX3_takenBetween 3 = .ok (.iconst 0, 1) := by decide +kernel
theorem dX3_takenBetween_4 : decode cX3_takenBetween 4 = .ok (.invokestatic 69, 3) := by decide +kernel
theorem dX3_takenBetween_7 : decode cX3_takenBetween 7 = .ok (.istore 4, 2) := by decide +kernel
theorem dX3_takenBetween_9 : decode cX3_takenBetween 9 = .ok (.iload 4, 2) := by decide +kernel
theorem dX3_takenBetween_11 : decode cX3_takenBetween 11 = .ok (.iload_n 2, 1) := by decide +kernel
theorem dX3_takenBetween_12 : decode cX3_takenBetween 12 = .ok (.if_icmp .ge 29, 3) := by decide +kernel
theorem dX3_takenBetween_15 : decode cX3_takenBetween 15 = .ok (.iload 4, 2) := by decide +kernel
theorem dX3_takenBetween_17 : decode cX3_takenBetween 17 = .ok (.aload_n 0, 1) := by decide +kernel
theorem dX3_takenBetween_18 : decode cX3_takenBetween 18 = .ok (.getfield 15, 3) := by decide +kernel
theorem dX3_takenBetween_21 : decode cX3_takenBetween 21 = .ok (.arraylength, 1) := by decide +kernel
theorem dX3_takenBetween_22 : decode cX3_takenBetween 22 = .ok (.if_icmp .ge 19, 3) := by decide +kernel
theorem dX3_takenBetween_25 : decode cX3_takenBetween 25 = .ok (.iload_n 3, 1) := by decide +kernel
theorem dX3_takenBetween_26 : decode cX3_takenBetween 26 = .ok (.aload_n 0, 1) := by decide +kernel
theorem dX3_takenBetween_27 : decode cX3_takenBetween 27 = .ok (.getfield 15, 3) := by decide +kernel
theorem dX3_takenBetween_30 : decode cX3_takenBetween 30 = .ok (.iload 4, 2) := by decide +kernel
theorem dX3_takenBetween_32 : decode cX3_takenBetween 32 = .ok (.iaload, 1) := by decide +kernel
theorem dX3_takenBetween_33 : decode cX3_takenBetween 33 = .ok (.ior, 1) := by decide +kernel
theorem dX3_takenBetween_34 : decode cX3_takenBetween 34 = .ok (.istore_n 3, 1) := by decide +kernel
theorem dX3_takenBetween_35 : decode cX3_takenBetween 35 = .ok (.iinc 4 1, 3) := by decide +kernel
theorem dX3_takenBetween_38 : decode cX3_takenBetween 38 = .ok (.goto (-29), 3) := by decide +kernel
theorem dX3_takenBetween_41 : decode cX3_takenBetween 41 = .ok (.iload_n 3, 1) := by decide +kernel
theorem dX3_takenBetween_42 : decode cX3_takenBetween 42 = .ok (.ireturn, 1) := by decide +kernel
theorem dX3_tryPage_0 : decode cX3_tryPage 0 = .ok (.iconst 0, 1) := by decide +kernel
theorem dX3_tryPage_1 : decode cX3_tryPage 1 = .ok (.istore_n 2, 1) := by decide +kernel
theorem dX3_tryPage_2 : decode cX3_tryPage 2 = .ok (.iconst 0, 1) := by decide +kernel
theorem dX3_tryPage_3 : decode cX3_tryPage 3 = .ok (.istore_n 3, 1) := by decide +kernel
theorem dX3_tryPage_4 : decode cX3_tryPage 4 = .ok (.iconst 0, 1) := by decide +kernel
theorem dX3_tryPage_5 : decode cX3_tryPage 5 = .ok (.istore 4, 2) := by decide +kernel
theorem dX3_tryPage_7 : decode cX3_tryPage 7 = .ok (.aload_n 1, 1) := by decide +kernel
theorem dX3_tryPage_8 : decode cX3_tryPage 8 = .ok (.iconst 0, 1) := by decide +kernel
theorem dX3_tryPage_9 : decode cX3_tryPage 9 = .ok (.putfield 18, 3) := by decide +kernel
theorem dX3_tryPage_12 : decode cX3_tryPage 12 = .ok (.iconst 0, 1) := by decide +kernel
theorem dX3_tryPage_13 : decode cX3_tryPage 13 = .ok (.istore 5, 2) := by decide +kernel
theorem dX3_tryPage_15 : decode cX3_tryPage 15 = .ok (.iload 5, 2) := by decide +kernel
theorem dX3_tryPage_17 : decode cX3_tryPage 17 = .ok (.aload_n 1, 1) := by decide +kernel
theorem dX3_tryPage_18 : decode cX3_tryPage 18 = .ok (.getfield 24, 3) := by decide +kernel
theorem dX3_tryPage_21 : decode cX3_tryPage 21 = .ok (.invokevirtual 28, 3) := by decide +kernel
theorem dX3_tryPage_24 : decode cX3_tryPage 24 = .ok (.if_icmp .ge 139, 3) := by decide +kernel
theorem dX3_tryPage_27 : decode cX3_tryPage 27 = .ok (.iload_n 3, 1) := by decide +kernel
theorem dX3_tryPage_28 : decode cX3_tryPage 28 = .ok (.aload_n 1, 1) := by decide +kernel
theorem dX3_tryPage_29 : decode cX3_tryPage 29 = .ok (.getfield 24, 3) := by decide +kernel
theorem dX3_tryPage_32 : decode cX3_tryPage 32 = .ok (.iload 5, 2) := by decide +kernel
theorem dX3_tryPage_34 : decode cX3_tryPage 34 = .ok (.invokevirtual 34, 3) := by decide +kernel
theorem dX3_tryPage_37 : decode cX3_tryPage 37 = .ok (.checkcast 38, 3) := by decide +kernel
theorem dX3_tryPage_40 : decode cX3_tryPage 40 = .ok (.getfield 40, 3) := by decide +kernel
theorem dX3_tryPage_43 : decode cX3_tryPage 43 = .ok (.iadd, 1) := by decide +kernel
theorem dX3_tryPage_44 : decode cX3_tryPage 44 = .ok (.istore_n 3, 1) := by decide +kernel
theorem dX3_tryPage_45 : decode cX3_tryPage 45 = .ok (.iload 5, 2) := by decide +kernel
theorem dX3_tryPage_47 : decode cX3_tryPage 47 = .ok (.iconst 1, 1) := by decide +kernel
theorem dX3_tryPage_48 : decode cX3_tryPage 48 = .ok (.iadd, 1) := by decide +kernel
theorem dX3_tryPage_49 : decode cX3_tryPage 49 = .ok (.aload_n 1, 1) := by decide +kernel
theorem dX3_tryPage_50 : decode cX3_tryPage 50 = .ok (.getfield 24, 3) := by decide +kernel
theorem dX3_tryPage_53 : decode cX3_tryPage 53 = .ok (.invokevirtual 28, 3) := by decide +kernel
theorem dX3_tryPage_56 : decode cX3_tryPage 56 = .ok (.if_icmp .ge 30, 3) := by decide +kernel
theorem dX3_tryPage_59 : decode cX3_tryPage 59 = .ok (.iload_n 3, 1) := by decide +kernel
theorem dX3_tryPage_60 : decode cX3_tryPage 60 = .ok (.aload_n 1, 1) := by decide +kernel
theorem dX3_tryPage_61 : decode cX3_tryPage 61 = .ok (.getfield 24, 3) := by decide +kernel
theorem dX3_tryPage_64 : decode cX3_tryPage 64 = .ok (.iload 5, 2) := by decide +kernel
theorem dX3_tryPage_66 : decode cX3_tryPage 66 = .ok (.iconst 1, 1) := by decide +kernel
theorem dX3_tryPage_67 : decode cX3_tryPage 67 = .ok (.iadd, 1) := by decide +kernel
theorem dX3_tryPage_68 : decode cX3_tryPage 68 = .ok (.invokevirtual 34, 3) := by decide +kernel
theorem dX3_tryPage_71 : decode cX3_tryPage 71 = .ok (.checkcast 38, 3) := by decide +kernel
theorem dX3_tryPage_74 : decode cX3_tryPage 74 = .ok (.getfield 40, 3) := by decide +kernel
theorem dX3_tryPage_77 : decode cX3_tryPage 77 = .ok (.iadd, 1) := by decide +kernel
theorem dX3_tryPage_78 : decode cX3_tryPage 78 = .ok (.bipush 24, 2) := by decide +kernel
theorem dX3_tryPage_80 : decode cX3_tryPage 80 = .ok (.if_icmp .gt 6, 3) := by decide +kernel
theorem dX3_tryPage_83 : decode cX3_tryPage 83 = .ok (.goto 74, 3) := by decide +kernel
theorem dX3_tryPage_86 : decode cX3_tryPage 86 = .ok (.aload_n 1, 1) := by decide +kernel
theorem dX3_tryPage_87 : decode cX3_tryPage 87 = .ok (.iload_n 2, 1) := by decide +kernel
theorem dX3_tryPage_88 : decode cX3_tryPage 88 = .ok (.iload 5, 2) := by decide +kernel
theorem dX3_tryPage_90 : decode cX3_tryPage 90 = .ok (.bipush 24, 2) := by decide +kernel
theorem dX3_tryPage_92 : decode cX3_tryPage 92 = .ok (.iload_n 3, 1) := by decide +kernel
theorem dX3_tryPage_93 : decode cX3_tryPage 93 = .ok (.isub, 1) := by decide +kernel
theorem dX3_tryPage_94 : decode cX3_tryPage 94 = .ok (.invokestatic 43, 3) := by decide +kernel
theorem dX3_tryPage_97 : decode cX3_tryPage 97 = .ok (.aload_n 0, 1) := by decide +kernel
theorem dX3_tryPage_98 : decode cX3_tryPage 98 = .ok (.aload_n 1, 1) := by decide +kernel
theorem dX3_tryPage_99 : decode cX3_tryPage 99 = .ok (.iload_n 2, 1) := by decide +kernel
theorem dX3_tryPage_100 : decode cX3_tryPage 100 = .ok (.iload 5, 2) := by decide +kernel
theorem dX3_tryPage_102 : decode cX3_tryPage 102 = .ok (.invokevirtual 47, 3) := by decide +kernel
theorem dX3_tryPage_105 : decode cX3_tryPage 105 = .ok (.istore 6, 2) := by decide +kernel
theorem dX3_tryPage_107 : decode cX3_tryPage 107 = .ok (.iload 6, 2) := by decide +kernel
theorem dX3_tryPage_109 : decode cX3_tryPage 109 = .ok (.ifCond .eq 13, 3) := by decide +kernel
theorem dX3_tryPage_112 : decode cX3_tryPage 112 = .ok (.iload 4, 2) := by decide +kernel
theorem dX3_tryPage_114 : decode cX3_tryPage 114 = .ok (.iload 6, 2) := by decide +kernel
theorem dX3_tryPage_116 : decode cX3_tryPage 116 = .ok (.iadd, 1) := by decide +kernel
theorem dX3_tryPage_117 : decode cX3_tryPage 117 = .ok (.bipush 50, 2) := by decide +kernel
theorem dX3_tryPage_119 : decode cX3_tryPage 119 = .ok (.if_icmp .le 5, 3) := by decide +kernel
theorem dX3_tryPage_122 : decode cX3_tryPage 122 = .ok (.iconst 0, 1) := by decide +kernel
theorem dX3_tryPage_123 : decode cX3_tryPage 123 = .ok (.ireturn, 1) := by decide +kernel
theorem dX3_tryPage_124 : decode cX3_tryPage 124 = .ok (.aload_n 1, 1) := by decide +kernel
theorem dX3_tryPage_125 : decode cX3_tryPage 125 = .ok (.iload_n 2, 1) := by decide +kernel
theorem dX3_tryPage_126 : decode cX3_tryPage 126 = .ok (.iload 5, 2) := by decide +kernel
theorem dX3_tryPage_128 : decode cX3_tryPage 128 = .ok (.iload 4, 2) := by decide +kernel
theorem dX3_tryPage_130 : decode cX3_tryPage 130 = .ok (.invokestatic 51, 3) := by decide +kernel
theorem dX3_tryPage_133 : decode cX3_tryPage 133 = .ok (.aload_n 1, 1) := by decide +kernel
theorem dX3_tryPage_134 : decode cX3_tryPage 134 = .ok (.dup, 1) := by decide +kernel
theorem dX3_tryPage_135 : decode cX3_tryPage 135 = .ok (.getfield 18, 3) := by decide +kernel
theorem dX3_tryPage_138 : decode cX3_tryPage 138 = .ok (.iconst 1, 1) := by decide +kernel
theorem dX3_tryPage_139 : decode cX3_tryPage 139 = .ok (.iadd, 1) := by decide +kernel
theorem dX3_tryPage_140 : decode cX3_tryPage 140 = .ok (.putfield 18, 3) := by decide +kernel
theorem dX3_tryPage_143 : decode cX3_tryPage 143 = .ok (.iload 4, 2) := by decide +kernel
theorem dX3_tryPage_145 : decode cX3_tryPage 145 = .ok (.iload 6, 2) := by decide +kernel
theorem dX3_tryPage_147 : decode cX3_tryPage 147 = .ok (.iadd, 1) := by decide +kernel
theorem dX3_tryPage_148 : decode cX3_tryPage 148 = .ok (.istore 4, 2) := by decide +kernel
theorem dX3_tryPage_150 : decode cX3_tryPage 150 = .ok (.iload 5, 2) := by decide +kernel
theorem dX3_tryPage_152 : decode cX3_tryPage 152 = .ok (.iconst 1, 1) := by decide +kernel
theorem dX3_tryPage_153 : decode cX3_tryPage 153 = .ok (.iadd, 1) := by decide +kernel
theorem dX3_tryPage_154 : decode cX3_tryPage 154 = .ok (.istore_n 2, 1) := by decide +kernel
theorem dX3_tryPage_155 : decode cX3_tryPage 155 = .ok (.iconst 0, 1) := by decide +kernel
theorem dX3_tryPage_156 : decode cX3_tryPage 156 = .ok (.istore_n 3, 1) := by decide +kernel
theorem dX3_tryPage_157 : decode cX3_tryPage 157 = .ok (.iinc 5 1, 3) := by decide +kernel
theorem dX3_tryPage_160 : decode cX3_tryPage 160 = .ok (.goto (-145), 3) := by decide +kernel
theorem dX3_tryPage_163 : decode cX3_tryPage 163 = .ok (.iconst 1, 1) := by decide +kernel
theorem dX3_tryPage_164 : decode cX3_tryPage 164 = .ok (.ireturn, 1) := by decide +kernel
theorem dX4_indexOf_0 : decode cX4_indexOf 0 = .ok (.iconst 0, 1) := by decide +kernel
theorem dX4_indexOf_1 : decode cX4_indexOf 1 = .ok (.istore_n 2, 1) := by decide +kernel
theorem dX4_indexOf_2 : decode cX4_indexOf 2 = .ok (.iload_n 2, 1) := by decide +kernel
theorem dX4_indexOf_3 : decode cX4_indexOf 3 = .ok (.aload_n 0, 1) := by decide +kernel
theorem dX4_indexOf_4 : decode cX4_indexOf 4 = .ok (.getfield 12, 3) := by decide +kernel
theorem dX4_indexOf_7 : decode cX4_indexOf 7 = .ok (.invokevirtual 25, 3) := by decide +kernel
theorem dX4_indexOf_10 : decode cX4_indexOf 10 = .ok (.if_icmp .ge 23, 3) := by decide +kernel
theorem dX4_indexOf_13 : decode cX4_indexOf 13 = .ok (.aload_n 0, 1) := by decide +kernel
theorem dX4_indexOf_14 : decode cX4_indexOf 14 = .ok (.getfield 12, 3) := by decide +kernel
theorem dX4_indexOf_17 : decode cX4_indexOf 17 = .ok (.iload_n 2, 1) := by decide +kernel
theorem dX4_indexOf_18 : decode cX4_indexOf 18 = .ok (.invokevirtual 29, 3) := by decide +kernel
theorem dX4_indexOf_21 : decode cX4_indexOf 21 = .ok (.aload_n 1, 1) := by decide +kernel
theorem dX4_indexOf_22 : decode cX4_indexOf 22 = .ok (.if_acmp .ne 5, 3) := by decide +kernel
theorem dX4_indexOf_25 : decode cX4_indexOf 25 = .ok (.iload_n 2, 1) := by decide +kernel
theorem dX4_indexOf_26 : decode cX4_indexOf 26 = .ok (.ireturn, 1) := by decide +kernel
theorem dX4_indexOf_27 : decode cX4_indexOf 27 = .ok (.iinc 2 1, 3) := by decide +kernel
theorem dX4_indexOf_30 : decode cX4_indexOf 30 = .ok (.goto (-28), 3) := by decide +kernel
theorem dX4_indexOf_33 : decode cX4_indexOf 33 = .ok (.iconst (-1), 1) := by decide +kernel
theorem dX4_indexOf_34 : decode cX4_indexOf 34 = .ok (.ireturn, 1) := by decide +kernel
theorem dX4_init_0 : decode cX4_init 0 = .ok (.aload_n 0, 1) := by decide +kernel
theorem dX4_init_1 : decode cX4_init 1 = .ok (.invokespecial 3, 3) := by decide +kernel
theorem dX4_init_4 : decode cX4_init 4 = .ok (.aload_n 0, 1) := by decide +kernel
theorem dX4_init_5 : decode cX4_init 5 = .ok (.new 9, 3) := by decide +kernel
theorem dX4_init_8 : decode cX4_init 8 = .ok (.dup, 1) := by decide +kernel
theorem dX4_init_9 : decode cX4_init 9 = .ok (.invokespecial 11, 3) := by decide +kernel
theorem dX4_init_12 : decode cX4_init 12 = .ok (.putfield 12, 3) := by decide +kernel
theorem dX4_init_15 : decode cX4_init 15 = .ok (.aload_n 0, 1) := by decide +kernel
theorem dX4_init_16 : decode cX4_init 16 = .ok (.iload_n 1, 1) := by decide +kernel
theorem dX4_init_17 : decode cX4_init 17 = .ok (.putfield 18, 3) := by decide +kernel
theorem dX4_init_20 : decode cX4_init 20 = .ok (.return_, 1) := by decide +kernel
theorem dX4_isFromRight_0 : decode cX4_isFromRight 0 = .ok (.aload_n 0, 1) := by decide +kernel
theorem dX4_isFromRight_1 : decode cX4_isFromRight 1 = .ok (.getfield 22, 3) := by decide +kernel
theorem dX4_isFromRight_4 : decode cX4_isFromRight 4 = .ok (.iconst 1, 1) := by decide +kernel
theorem dX4_isFromRight_5 : decode cX4_isFromRight 5 = .ok (.if_icmp .ne 7, 3) := by decide +kernel
theorem dX4_isFromRight_8 : decode cX4_isFromRight 8 = .ok (.iconst 1, 1) := by decide +kernel
theorem dX4_isFromRight_9 : decode cX4_isFromRight 9 = .ok (.goto 4, 3) := by decide +kernel
theorem dX4_isFromRight_12 : decode cX4_isFromRight 12 = .ok (.iconst 0, 1) := by decide +kernel
theorem dX4_isFromRight_13 : decode cX4_isFromRight 13 = .ok (.ireturn, 1) := by decide +kernel
theorem dX4_keepTrial_0 : decode cX4_keepTrial 0 = .ok (.iconst 0, 1) := by decide +kernel
theorem dX4_keepTrial_1 : decode cX4_keepTrial 1 = .ok (.istore_n 1, 1) := by decide +kernel
theorem dX4_keepTrial_2 : decode cX4_keepTrial 2 = .ok (.iconst 0, 1) := by decide +kernel
theorem dX4_keepTrial_3 : decode cX4_keepTrial 3 = .ok (.istore_n 2, 1) := by decide +kernel
theorem dX4_keepTrial_4 : decode cX4_keepTrial 4 = .ok (.iload_n 2, 1) := by decide +kernel
theorem dX4_keepTrial_5 : decode cX4_keepTrial 5 = .ok (.aload_n 0, 1) := by decide +kernel
theorem dX4_keepTrial_6 : decode cX4_keepTrial 6 = .ok (.getfield 12, 3) := by decide +kernel
theorem dX4_keepTrial_9 : decode cX4_keepTrial 9 = .ok (.invokevirtual 25, 3) := by decide +kernel
theorem dX4_keepTrial_12 : decode cX4_keepTrial 12 = .ok (.if_icmp .ge 42, 3) := by decide +kernel
theorem dX4_keepTrial_15 : decode cX4_keepTrial 15 = .ok (.aload_n 0, 1) := by decide +kernel
theorem dX4_keepTrial_16 : decode cX4_keepTrial 16 = .ok (.getfield 12, 3) := by decide +kernel
theorem dX4_keepTrial_19 : decode cX4_keepTrial 19 = .ok (.iload_n 2, 1) := by decide +kernel
theorem dX4_keepTrial_20 : decode cX4_keepTrial 20 = .ok (.invokevirtual 29, 3) := by decide +kernel
theorem dX4_keepTrial_23 : decode cX4_keepTrial 23 = .ok (.checkcast 40, 3) := by decide +kernel
theorem dX4_keepTrial_26 : decode cX4_keepTrial 26 = .ok (.astore_n 3, 1) := by decide +kernel
theorem dX4_keepTrial_27 : decode cX4_keepTrial 27 = .ok (.aload_n 3, 1) := by decide +kernel
theorem dX4_keepTrial_28 : decode cX4_keepTrial 28 = .ok (.getfield 42, 3) := by decide +kernel
theorem dX4_keepTrial_31 : decode cX4_keepTrial 31 = .ok (.aload_n 3, 1) := by decide +kernel
theorem dX4_keepTrial_32 : decode cX4_keepTrial 32 = .ok (.getfield 46, 3) := by decide +kernel
theorem dX4_keepTrial_35 : decode cX4_keepTrial 35 = .ok (.invokevirtual 49, 3) := by decide +kernel
theorem dX4_keepTrial_38 : decode cX4_keepTrial 38 = .ok (.ifCond .ne 6, 3) := by decide +kernel
theorem dX4_keepTrial_41 : decode cX4_keepTrial 41 = .ok (.iinc 1 1, 3) := by decide +kernel
theorem dX4_keepTrial_44 : decode cX4_keepTrial 44 = .ok (.aload_n 3, 1) := by decide +kernel
theorem dX4_keepTrial_45 : decode cX4_keepTrial 45 = .ok (.invokevirtual 55, 3) := by decide +kernel
theorem dX4_keepTrial_48 : decode cX4_keepTrial 48 = .ok (.iinc 2 1, 3) := by decide +kernel
theorem dX4_keepTrial_51 : decode cX4_keepTrial 51 = .ok (.goto (-47), 3) := by decide +kernel
theorem dX4_keepTrial_54 : decode cX4_keepTrial 54 = .ok (.aload_n 0, 1) := by decide +kernel
theorem dX4_keepTrial_55 : decode cX4_keepTrial 55 = .ok (.aload_n 0, 1) := by decide +kernel
theorem dX4_keepTrial_56 : decode cX4_keepTrial 56 = .ok (.getfield 58, 3) := by decide +kernel
theorem dX4_keepTrial_59 : decode cX4_keepTrial 59 = .ok (.putfield 61, 3) := by decide +kernel
theorem dX4_keepTrial_62 : decode cX4_keepTrial 62 = .ok (.iload_n 1, 1) := by decide +kernel
theorem dX4_keepTrial_63 : decode cX4_keepTrial 63 = .ok (.ireturn, 1) := by decide +kernel
theorem dX4_putIn_0 : decode cX4_putIn 0 = .ok (.iload_n 1, 1) := by decide +kernel
theorem dX4_putIn_1 : decode cX4_putIn 1 = .ok (.ifCond .lt 23, 3) := by decide +kernel
theorem dX4_putIn_4 : decode cX4_putIn 4 = .ok (.iload_n 1, 1) := by decide +kernel
theorem dX4_putIn_5 : decode cX4_putIn 5 = .ok (.aload_n 0, 1) := by decide +kernel
theorem dX4_putIn_6 : decode cX4_putIn 6 = .ok (.getfield 12, 3) := by decide +kernel
theorem dX4_putIn_9 : decode cX4_putIn 9 = .ok (.invokevirtual 25, 3) := by decide +kernel
theorem dX4_putIn_12 : decode cX4_putIn 12 = .ok (.if_icmp .gt 12, 3) := by decide +kernel
theorem dX4_putIn_15 : decode cX4_putIn 15 = .ok (.aload_n 0, 1) := by decide +kernel
theorem dX4_putIn_16 : decode cX4_putIn 16 = .ok (.getfield 12, 3) := by decide +kernel
theorem dX4_putIn_19 : decode cX4_putIn 19 = .ok (.iload_n 1, 1) := by decide +kernel
theorem dX4_putIn_20 : decode cX4_putIn 20 = .ok (.aload_n 2, 1) := by decide +kernel
theorem dX4_putIn_21 : decode cX4_putIn 21 = .ok (.invokevirtual 36, 3) := by decide +kernel
theorem dX4_putIn_24 : decode cX4_putIn 24 = .ok (.return_, 1) := by decide +kernel
theorem dX4_takeOut_0 : decode cX4_takeOut 0 = .ok (.iload_n 1, 1) := by decide +kernel
theorem dX4_takeOut_1 : decode cX4_takeOut 1 = .ok (.ifCond .lt 23, 3) := by decide +kernel
theorem dX4_takeOut_4 : decode cX4_takeOut 4 = .ok (.iload_n 1, 1) := by decide +kernel
theorem dX4_takeOut_5 : decode cX4_takeOut 5 = .ok (.aload_n 0, 1) := by decide +kernel
theorem dX4_takeOut_6 : decode cX4_takeOut 6 = .ok (.getfield 12, 3) := by decide +kernel
theorem dX4_takeOut_9 : decode cX4_takeOut 9 = .ok (.invokevirtual 25, 3) := by decide +kernel
theorem dX4_takeOut_12 : decode cX4_takeOut 12 = .ok (.if_icmp .ge 12, 3) := by decide +kernel
theorem dX4_takeOut_15 : decode cX4_takeOut 15 = .ok (.aload_n 0, 1) := by decide +kernel
theorem dX4_takeOut_16 : decode cX4_takeOut 16 = .ok (.getfield 12, 3) := by decide +kernel
theorem dX4_takeOut_19 : decode cX4_takeOut 19 = .ok (.iload_n 1, 1) := by decide +kernel
theorem dX4_takeOut_20 : decode cX4_takeOut 20 = .ok (.invokevirtual 33, 3) := by decide +kernel
theorem dX4_takeOut_23 : decode cX4_takeOut 23 = .ok (.pop, 1) := by decide +kernel
theorem dX4_takeOut_24 : decode cX4_takeOut 24 = .ok (.return_, 1) := by decide +kernel
theorem dX5_dropLastFace_0 : decode cX5_dropLastFace 0 = .ok (.aload_n 0, 1) := by decide +kernel
theorem dX5_dropLastFace_1 : decode cX5_dropLastFace 1 = .ok (.getfield 10, 3) := by decide +kernel
theorem dX5_dropLastFace_4 : decode cX5_dropLastFace 4 = .ok (.invokevirtual 46, 3) := by decide +kernel
theorem dX5_dropLastFace_7 : decode cX5_dropLastFace 7 = .ok (.ifCond .le 20, 3) := by decide +kernel
theorem dX5_dropLastFace_10 : decode cX5_dropLastFace 10 = .ok (.aload_n 0, 1) := by decide +kernel
theorem dX5_dropLastFace_11 : decode cX5_dropLastFace 11 = .ok (.getfield 10, 3) := by decide +kernel
theorem dX5_dropLastFace_14 : decode cX5_dropLastFace 14 = .ok (.aload_n 0, 1) := by decide +kernel
theorem dX5_dropLastFace_15 : decode cX5_dropLastFace 15 = .ok (.getfield 10, 3) := by decide +kernel
theorem dX5_dropLastFace_18 : decode cX5_dropLastFace 18 = .ok (.invokevirtual 46, 3) := by decide +kernel
theorem dX5_dropLastFace_21 : decode cX5_dropLastFace 21 = .ok (.iconst 1, 1) := by decide +kernel
theorem dX5_dropLastFace_22 : decode cX5_dropLastFace 22 = .ok (.isub, 1) := by decide +kernel
theorem dX5_dropLastFace_23 : decode cX5_dropLastFace 23 = .ok (.invokevirtual 54, 3) := by decide +kernel
theorem dX5_dropLastFace_26 : decode cX5_dropLastFace 26 = .ok (.pop, 1) := by decide +kernel
theorem dX5_dropLastFace_27 : decode cX5_dropLastFace 27 = .ok (.return_, 1) := by decide +kernel
theorem dX5_hasFaceAt_0 : decode cX5_hasFaceAt 0 = .ok (.iconst 0, 1) := by decide +kernel
theorem dX5_hasFaceAt_1 : decode cX5_hasFaceAt 1 = .ok (.istore_n 3, 1) := by decide +kernel
theorem dX5_hasFaceAt_2 : decode cX5_hasFaceAt 2 = .ok (.iload_n 3, 1) := by decide +kernel
theorem dX5_hasFaceAt_3 : decode cX5_hasFaceAt 3 = .ok (.aload_n 0, 1) := by decide +kernel
theorem dX5_hasFaceAt_4 : decode cX5_hasFaceAt 4 = .ok (.getfield 10, 3) := by decide +kernel
theorem dX5_hasFaceAt_7 : decode cX5_hasFaceAt 7 = .ok (.invokevirtual 46, 3) := by decide +kernel
theorem dX5_hasFaceAt_10 : decode cX5_hasFaceAt 10 = .ok (.if_icmp .ge 65, 3) := by decide +kernel
theorem dX5_hasFaceAt_13 : decode cX5_hasFaceAt 13 = .ok (.aload_n 0, 1) := by decide +kernel
theorem dX5_hasFaceAt_14 : decode cX5_hasFaceAt 14 = .ok (.getfield 10, 3) := by decide +kernel
theorem dX5_hasFaceAt_17 : decode cX5_hasFaceAt 17 = .ok (.iload_n 3, 1) := by decide +kernel
theorem dX5_hasFaceAt_18 : decode cX5_hasFaceAt 18 = .ok (.invokevirtual 50, 3) := by decide +kernel
theorem dX5_hasFaceAt_21 : decode cX5_hasFaceAt 21 = .ok (.checkcast 61, 3) := by decide +kernel
theorem dX5_hasFaceAt_24 : decode cX5_hasFaceAt 24 = .ok (.astore 4, 2) := by decide +kernel
theorem dX5_hasFaceAt_26 : decode cX5_hasFaceAt 26 = .ok (.iload_n 1, 1) := by decide +kernel
theorem dX5_hasFaceAt_27 : decode cX5_hasFaceAt 27 = .ok (.aload 4, 2) := by decide +kernel
theorem dX5_hasFaceAt_29 : decode cX5_hasFaceAt 29 = .ok (.getfield 63, 3) := by decide +kernel
theorem dX5_hasFaceAt_32 : decode cX5_hasFaceAt 32 = .ok (.if_icmp .lt 37, 3) := by decide +kernel
theorem dX5_hasFaceAt_35 : decode cX5_hasFaceAt 35 = .ok (.iload_n 1, 1) := by decide +kernel
theorem dX5_hasFaceAt_36 : decode cX5_hasFaceAt 36 = .ok (.aload 4, 2) := by decide +kernel
theorem dX5_hasFaceAt_38 : decode cX5_hasFaceAt 38 = .ok (.getfield 63, 3) := by decide +kernel
theorem dX5_hasFaceAt_41 : decode cX5_hasFaceAt 41 = .ok (.aload 4, 2) := by decide +kernel
theorem dX5_hasFaceAt_43 : decode cX5_hasFaceAt 43 = .ok (.getfield 66, 3) := by decide +kernel
theorem dX5_hasFaceAt_46 : decode cX5_hasFaceAt 46 = .ok (.iadd, 1) := by decide +kernel
theorem dX5_hasFaceAt_47 : decode cX5_hasFaceAt 47 = .ok (.if_icmp .ge 22, 3) := by decide +kernel
theorem dX5_hasFaceAt_50 : decode cX5_hasFaceAt 50 = .ok (.iload_n 2, 1) := by decide +kernel
theorem dX5_hasFaceAt_51 : decode cX5_hasFaceAt 51 = .ok (.aload_n 0, 1) := by decide +kernel
theorem dX5_hasFaceAt_52 : decode cX5_hasFaceAt 52 = .ok (.getfield 22, 3) := by decide +kernel
theorem dX5_hasFaceAt_55 : decode cX5_hasFaceAt 55 = .ok (.getfield 69, 3) := by decide +kernel
theorem dX5_hasFaceAt_58 : decode cX5_hasFaceAt 58 = .ok (.aload 4, 2) := by decide +kernel
theorem dX5_hasFaceAt_60 : decode cX5_hasFaceAt 60 = .ok (.getfield 72, 3) := by decide +kernel
theorem dX5_hasFaceAt_63 : decode cX5_hasFaceAt 63 = .ok (.isub, 1) := by decide +kernel
theorem dX5_hasFaceAt_64 : decode cX5_hasFaceAt 64 = .ok (.if_icmp .lt 5, 3) := by decide +kernel
theorem dX5_hasFaceAt_67 : decode cX5_hasFaceAt 67 = .ok (.iconst 1, 1) := by decide +kernel
theorem dX5_hasFaceAt_68 : decode cX5_hasFaceAt 68 = .ok (.ireturn, 1) := by decide +kernel
theorem dX5_hasFaceAt_69 : decode cX5_hasFaceAt 69 = .ok (.iinc 3 1, 3) := by decide +kernel
theorem dX5_hasFaceAt_72 : decode cX5_hasFaceAt 72 = .ok (.goto (-70), 3) := by decide +kernel
theorem dX5_hasFaceAt_75 : decode cX5_hasFaceAt 75 = .ok (.iconst 0, 1) := by decide +kernel
theorem dX5_hasFaceAt_76 : decode cX5_hasFaceAt 76 = .ok (.ireturn, 1) := by decide +kernel
theorem dX5_indexOf_0 : decode cX5_indexOf 0 = .ok (.iconst 0, 1) := by decide +kernel
theorem dX5_indexOf_1 : decode cX5_indexOf 1 = .ok (.istore_n 2, 1) := by decide +kernel
theorem dX5_indexOf_2 : decode cX5_indexOf 2 = .ok (.iload_n 2, 1) := by decide +kernel
theorem dX5_indexOf_3 : decode cX5_indexOf 3 = .ok (.aload_n 0, 1) := by decide +kernel
theorem dX5_indexOf_4 : decode cX5_indexOf 4 = .ok (.getfield 16, 3) := by decide +kernel
theorem dX5_indexOf_7 : decode cX5_indexOf 7 = .ok (.invokevirtual 46, 3) := by decide +kernel
theorem dX5_indexOf_10 : decode cX5_indexOf 10 = .ok (.if_icmp .ge 23, 3) := by decide +kernel
theorem dX5_indexOf_13 : decode cX5_indexOf 13 = .ok (.aload_n 0, 1) := by decide +kernel
theorem dX5_indexOf_14 : decode cX5_indexOf 14 = .ok (.getfield 16, 3) := by decide +kernel
theorem dX5_indexOf_17 : decode cX5_indexOf 17 = .ok (.iload_n 2, 1) := by decide +kernel
theorem dX5_indexOf_18 : decode cX5_indexOf 18 = .ok (.invokevirtual 50, 3) := by decide +kernel
theorem dX5_indexOf_21 : decode cX5_indexOf 21 = .ok (.aload_n 1, 1) := by decide +kernel
theorem dX5_indexOf_22 : decode cX5_indexOf 22 = .ok (.if_acmp .ne 5, 3) := by decide +kernel
theorem dX5_indexOf_25 : decode cX5_indexOf 25 = .ok (.iload_n 2, 1) := by decide +kernel
theorem dX5_indexOf_26 : decode cX5_indexOf 26 = .ok (.ireturn, 1) := by decide +kernel
theorem dX5_indexOf_27 : decode cX5_indexOf 27 = .ok (.iinc 2 1, 3) := by decide +kernel
theorem dX5_indexOf_30 : decode cX5_indexOf 30 = .ok (.goto (-28), 3) := by decide +kernel
theorem dX5_indexOf_33 : decode cX5_indexOf 33 = .ok (.iconst (-1), 1) := by decide +kernel
theorem dX5_indexOf_34 : decode cX5_indexOf 34 = .ok (.ireturn, 1) := by decide +kernel
theorem dX5_init_0 : decode cX5_init 0 = .ok (.aload_n 0, 1) := by decide +kernel
theorem dX5_init_1 : decode cX5_init 1 = .ok (.invokespecial 1, 3) := by decide +kernel
theorem dX5_init_4 : decode cX5_init 4 = .ok (.aload_n 0, 1) := by decide +kernel
theorem dX5_init_5 : decode cX5_init 5 = .ok (.new 7, 3) := by decide +kernel
theorem dX5_init_8 : decode cX5_init 8 = .ok (.dup, 1) := by decide +kernel
theorem dX5_init_9 : decode cX5_init 9 = .ok (.invokespecial 9, 3) := by decide +kernel
theorem dX5_init_12 : decode cX5_init 12 = .ok (.putfield 10, 3) := by decide +kernel
theorem dX5_init_15 : decode cX5_init 15 = .ok (.aload_n 0, 1) := by decide +kernel
theorem dX5_init_16 : decode cX5_init 16 = .ok (.new 7, 3) := by decide +kernel
theorem dX5_init_19 : decode cX5_init 19 = .ok (.dup, 1) := by decide +kernel
theorem dX5_init_20 : decode cX5_init 20 = .ok (.invokespecial 9, 3) := by decide +kernel
theorem dX5_init_23 : decode cX5_init 23 = .ok (.putfield 16, 3) := by decide +kernel
theorem dX5_init_26 : decode cX5_init 26 = .ok (.aload_n 0, 1) := by decide +kernel
theorem dX5_init_27 : decode cX5_init 27 = .ok (.new 19, 3) := by decide +kernel
theorem dX5_init_30 : decode cX5_init 30 = .ok (.dup, 1) := by decide +kernel
theorem dX5_init_31 : decode cX5_init 31 = .ok (.invokespecial 21, 3) := by decide +kernel
theorem dX5_init_34 : decode cX5_init 34 = .ok (.putfield 22, 3) := by decide +kernel
theorem dX5_init_37 : decode cX5_init 37 = .ok (.aload_n 0, 1) := by decide +kernel
theorem dX5_init_38 : decode cX5_init 38 = .ok (.new 19, 3) := by decide +kernel
theorem dX5_init_41 : decode cX5_init 41 = .ok (.dup, 1) := by decide +kernel
theorem dX5_init_42 : decode cX5_init 42 = .ok (.invokespecial 21, 3) := by decide +kernel
theorem dX5_init_45 : decode cX5_init 45 = .ok (.putfield 26, 3) := by decide +kernel
theorem dX5_init_48 : decode cX5_init 48 = .ok (.aload_n 0, 1) := by decide +kernel
theorem dX5_init_49 : decode cX5_init 49 = .ok (.iload_n 1, 1) := by decide +kernel
theorem dX5_init_50 : decode cX5_init 50 = .ok (.putfield 29, 3) := by decide +kernel
theorem dX5_init_53 : decode cX5_init 53 = .ok (.aload_n 0, 1) := by decide +kernel
theorem dX5_init_54 : decode cX5_init 54 = .ok (.aload_n 2, 1) := by decide +kernel
theorem dX5_init_55 : decode cX5_init 55 = .ok (.putfield 33, 3) := by decide +kernel
theorem dX5_init_58 : decode cX5_init 58 = .ok (.aload_n 0, 1) := by decide +kernel
theorem dX5_init_59 : decode cX5_init 59 = .ok (.iload_n 3, 1) := by decide +kernel
theorem dX5_init_60 : decode cX5_init 60 = .ok (.putfield 37, 3) := by decide +kernel
theorem dX5_init_63 : decode cX5_init 63 = .ok (.aload_n 0, 1) := by decide +kernel
theorem dX5_init_64 : decode cX5_init 64 = .ok (.iload 4, 2) := by decide +kernel
theorem dX5_init_66 : decode cX5_init 66 = .ok (.putfield 40, 3) := by decide +kernel
theorem dX5_init_69 : decode cX5_init 69 = .ok (.aload_n 0, 1) := by decide +kernel
theorem dX5_init_70 : decode cX5_init 70 = .ok (.iload 5, 2) := by decide +kernel
theorem dX5_init_72 : decode cX5_init 72 = .ok (.putfield 43, 3) := by decide +kernel
theorem dX5_init_75 : decode cX5_init 75 = .ok (.return_, 1) := by decide +kernel
theorem dX5_keepTrial_0 : decode cX5_keepTrial 0 = .ok (.aload_n 0, 1) := by decide +kernel
theorem dX5_keepTrial_1 : decode cX5_keepTrial 1 = .ok (.getfield 22, 3) := by decide +kernel
theorem dX5_keepTrial_4 : decode cX5_keepTrial 4 = .ok (.aload_n 0, 1) := by decide +kernel
theorem dX5_keepTrial_5 : decode cX5_keepTrial 5 = .ok (.getfield 26, 3) := by decide +kernel
theorem dX5_keepTrial_8 : decode cX5_keepTrial 8 = .ok (.invokevirtual 73, 3) := by decide +kernel
theorem dX5_keepTrial_11 : decode cX5_keepTrial 11 = .ok (.aload_n 0, 1) := by decide +kernel
theorem dX5_keepTrial_12 : decode cX5_keepTrial 12 = .ok (.aload_n 0, 1) := by decide +kernel
theorem dX5_keepTrial_13 : decode cX5_keepTrial 13 = .ok (.getfield 77, 3) := by decide +kernel
theorem dX5_keepTrial_16 : decode cX5_keepTrial 16 = .ok (.putfield 80, 3) := by decide +kernel
theorem dX5_keepTrial_19 : decode cX5_keepTrial 19 = .ok (.iconst 0, 1) := by decide +kernel
theorem dX5_keepTrial_20 : decode cX5_keepTrial 20 = .ok (.istore_n 1, 1) := by decide +kernel
theorem dX5_keepTrial_21 : decode cX5_keepTrial 21 = .ok (.iload_n 1, 1) := by decide +kernel
theorem dX5_keepTrial_22 : decode cX5_keepTrial 22 = .ok (.aload_n 0, 1) := by decide +kernel
theorem dX5_keepTrial_23 : decode cX5_keepTrial 23 = .ok (.getfield 16, 3) := by decide +kernel
theorem dX5_keepTrial_26 : decode cX5_keepTrial 26 = .ok (.invokevirtual 46, 3) := by decide +kernel
theorem dX5_keepTrial_29 : decode cX5_keepTrial 29 = .ok (.if_icmp .ge 40, 3) := by decide +kernel
theorem dX5_keepTrial_32 : decode cX5_keepTrial 32 = .ok (.aload_n 0, 1) := by decide +kernel
theorem dX5_keepTrial_33 : decode cX5_keepTrial 33 = .ok (.getfield 16, 3) := by decide +kernel
theorem dX5_keepTrial_36 : decode cX5_keepTrial 36 = .ok (.iload_n 1, 1) := by decide +kernel
theorem dX5_keepTrial_37 : decode cX5_keepTrial 37 = .ok (.invokevirtual 50, 3) := by decide +kernel
theorem dX5_keepTrial_40 : decode cX5_keepTrial 40 = .ok (.checkcast 83, 3) := by decide +kernel
theorem dX5_keepTrial_43 : decode cX5_keepTrial 43 = .ok (.getfield 85, 3) := by decide +kernel
theorem dX5_keepTrial_46 : decode cX5_keepTrial 46 = .ok (.aload_n 0, 1) := by decide +kernel
theorem dX5_keepTrial_47 : decode cX5_keepTrial 47 = .ok (.getfield 16, 3) := by decide +kernel
theorem dX5_keepTrial_50 : decode cX5_keepTrial 50 = .ok (.iload_n 1, 1) := by decide +kernel
theorem dX5_keepTrial_51 : decode cX5_keepTrial 51 = .ok (.invokevirtual 50, 3) := by decide +kernel
theorem dX5_keepTrial_54 : decode cX5_keepTrial 54 = .ok (.checkcast 83, 3) := by decide +kernel
theorem dX5_keepTrial_57 : decode cX5_keepTrial 57 = .ok (.getfield 86, 3) := by decide +kernel
theorem dX5_keepTrial_60 : decode cX5_keepTrial 60 = .ok (.invokevirtual 73, 3) := by decide +kernel
theorem dX5_keepTrial_63 : decode cX5_keepTrial 63 = .ok (.iinc 1 1, 3) := by decide +kernel
theorem dX5_keepTrial_66 : decode cX5_keepTrial 66 = .ok (.goto (-45), 3) := by decide +kernel
theorem dX5_keepTrial_69 : decode cX5_keepTrial 69 = .ok (.return_, 1) := by decide +kernel
theorem dX5_leave_0 : decode cX5_leave 0 = .ok (.aload_n 0, 1) := by decide +kernel
theorem dX5_leave_1 : decode cX5_leave 1 = .ok (.iconst 1, 1) := by decide +kernel
theorem dX5_leave_2 : decode cX5_leave 2 = .ok (.putfield 87, 3) := by decide +kernel
theorem dX5_leave_5 : decode cX5_leave 5 = .ok (.iconst 0, 1) := by decide +kernel
theorem dX5_leave_6 : decode cX5_leave 6 = .ok (.istore_n 1, 1) := by decide +kernel
theorem dX5_leave_7 : decode cX5_leave 7 = .ok (.iload_n 1, 1) := by decide +kernel
theorem dX5_leave_8 : decode cX5_leave 8 = .ok (.aload_n 0, 1) := by decide +kernel
theorem dX5_leave_9 : decode cX5_leave 9 = .ok (.getfield 16, 3) := by decide +kernel
theorem dX5_leave_12 : decode cX5_leave 12 = .ok (.invokevirtual 46, 3) := by decide +kernel
theorem dX5_leave_15 : decode cX5_leave 15 = .ok (.if_icmp .ge 24, 3) := by decide +kernel
theorem dX5_leave_18 : decode cX5_leave 18 = .ok (.aload_n 0, 1) := by decide +kernel
theorem dX5_leave_19 : decode cX5_leave 19 = .ok (.getfield 16, 3) := by decide +kernel
theorem dX5_leave_22 : decode cX5_leave 22 = .ok (.iload_n 1, 1) := by decide +kernel
theorem dX5_leave_23 : decode cX5_leave 23 = .ok (.invokevirtual 50, 3) := by decide +kernel
theorem dX5_leave_26 : decode cX5_leave 26 = .ok (.checkcast 83, 3) := by decide +kernel
theorem dX5_leave_29 : decode cX5_leave 29 = .ok (.iconst 1, 1) := by decide +kernel
theorem dX5_leave_30 : decode cX5_leave 30 = .ok (.putfield 91, 3) := by decide +kernel
theorem dX5_leave_33 : decode cX5_leave 33 = .ok (.iinc 1 1, 3) := by decide +kernel
theorem dX5_leave_36 : decode cX5_leave 36 = .ok (.goto (-29), 3) := by decide +kernel
theorem dX5_leave_39 : decode cX5_leave 39 = .ok (.return_, 1) := by decide +kernel
theorem dX5_putIn_0 : decode cX5_putIn 0 = .ok (.iload_n 1, 1) := by decide +kernel
theorem dX5_putIn_1 : decode cX5_putIn 1 = .ok (.ifCond .lt 23, 3) := by decide +kernel
theorem dX5_putIn_4 : decode cX5_putIn 4 = .ok (.iload_n 1, 1) := by decide +kernel
theorem dX5_putIn_5 : decode cX5_putIn 5 = .ok (.aload_n 0, 1) := by decide +kernel
theorem dX5_putIn_6 : decode cX5_putIn 6 = .ok (.getfield 16, 3) := by decide +kernel
theorem dX5_putIn_9 : decode cX5_putIn 9 = .ok (.invokevirtual 46, 3) := by decide +kernel
theorem dX5_putIn_12 : decode cX5_putIn 12 = .ok (.if_icmp .gt 12, 3) := by decide +kernel
theorem dX5_putIn_15 : decode cX5_putIn 15 = .ok (.aload_n 0, 1) := by decide +kernel
theorem dX5_putIn_16 : decode cX5_putIn 16 = .ok (.getfield 16, 3) := by decide +kernel
theorem dX5_putIn_19 : decode cX5_putIn 19 = .ok (.iload_n 1, 1) := by decide +kernel
theorem dX5_putIn_20 : decode cX5_putIn 20 = .ok (.aload_n 2, 1) := by decide +kernel
theorem dX5_putIn_21 : decode cX5_putIn 21 = .ok (.invokevirtual 57, 3) := by decide +kernel
theorem dX5_putIn_24 : decode cX5_putIn 24 = .ok (.return_, 1) := by decide +kernel
theorem dX5_takeOut_0 : decode cX5_takeOut 0 = .ok (.iload_n 1, 1) := by decide +kernel
theorem dX5_takeOut_1 : decode cX5_takeOut 1 = .ok (.ifCond .lt 23, 3) := by decide +kernel
theorem dX5_takeOut_4 : decode cX5_takeOut 4 = .ok (.iload_n 1, 1) := by decide +kernel
theorem dX5_takeOut_5 : decode cX5_takeOut 5 = .ok (.aload_n 0, 1) := by decide +kernel
theorem dX5_takeOut_6 : decode cX5_takeOut 6 = .ok (.getfield 16, 3) := by decide +kernel
theorem dX5_takeOut_9 : decode cX5_takeOut 9 = .ok (.invokevirtual 46, 3) := by decide +kernel
theorem dX5_takeOut_12 : decode cX5_takeOut 12 = .ok (.if_icmp .ge 12, 3) := by decide +kernel
theorem dX5_takeOut_15 : decode cX5_takeOut 15 = .ok (.aload_n 0, 1) := by decide +kernel
theorem dX5_takeOut_16 : decode cX5_takeOut 16 = .ok (.getfield 16, 3) := by decide +kernel
theorem dX5_takeOut_19 : decode cX5_takeOut 19 = .ok (.iload_n 1, 1) := by decide +kernel
theorem dX5_takeOut_20 : decode cX5_takeOut 20 = .ok (.invokevirtual 54, 3) := by decide +kernel
theorem dX5_takeOut_23 : decode cX5_takeOut 23 = .ok (.pop, 1) := by decide +kernel
theorem dX5_takeOut_24 : decode cX5_takeOut 24 = .ok (.return_, 1) := by decide +kernel
theorem dX6_beginAt_0 : decode cX6_beginAt 0 = .ok (.aload_n 0, 1) := by decide +kernel
theorem dX6_beginAt_1 : decode cX6_beginAt 1 = .ok (.aload_n 1, 1) := by decide +kernel
theorem dX6_beginAt_2 : decode cX6_beginAt 2 = .ok (.putfield 17, 3) := by decide +kernel
theorem dX6_beginAt_5 : decode cX6_beginAt 5 = .ok (.aload_n 0, 1) := by decide +kernel
theorem dX6_beginAt_6 : decode cX6_beginAt 6 = .ok (.iconst 0, 1) := by decide +kernel
theorem dX6_beginAt_7 : decode cX6_beginAt 7 = .ok (.putfield 21, 3) := by decide +kernel
theorem dX6_beginAt_10 : decode cX6_beginAt 10 = .ok (.return_, 1) := by decide +kernel
theorem dX6_forget_0 : decode cX6_forget 0 = .ok (.iconst 0, 1) := by decide +kernel
theorem dX6_forget_1 : decode cX6_forget 1 = .ok (.istore_n 3, 1) := by decide +kernel
theorem dX6_forget_2 : decode cX6_forget 2 = .ok (.iconst 0, 1) := by decide +kernel
theorem dX6_forget_3 : decode cX6_forget 3 = .ok (.istore 4, 2) := by decide +kernel
theorem dX6_forget_5 : decode cX6_forget 5 = .ok (.iload 4, 2) := by decide +kernel
theorem dX6_forget_7 : decode cX6_forget 7 = .ok (.aload_n 0, 1) := by decide +kernel
theorem dX6_forget_8 : decode cX6_forget 8 = .ok (.getfield 21, 3) := by decide +kernel
theorem dX6_forget_11 : decode cX6_forget 11 = .ok (.if_icmp .ge 46, 3) := by decide +kernel
theorem dX6_forget_14 : decode cX6_forget 14 = .ok (.iload 4, 2) := by decide +kernel
theorem dX6_forget_16 : decode cX6_forget 16 = .ok (.aload_n 0, 1) := by decide +kernel
theorem dX6_forget_17 : decode cX6_forget 17 = .ok (.getfield 11, 3) := by decide +kernel
theorem dX6_forget_20 : decode cX6_forget 20 = .ok (.arraylength, 1) := by decide +kernel
theorem dX6_forget_21 : decode cX6_forget 21 = .ok (.if_icmp .ge 36, 3) := by decide +kernel
theorem dX6_forget_24 : decode cX6_forget 24 = .ok (.aload_n 0, 1) := by decide +kernel
theorem dX6_forget_25 : decode cX6_forget 25 = .ok (.getfield 11, 3) := by decide +kernel
theorem dX6_forget_28 : decode cX6_forget 28 = .ok (.iload 4, 2) := by decide +kernel
theorem dX6_forget_30 : decode cX6_forget 30 = .ok (.aaload, 1) := by decide +kernel
theorem dX6_forget_31 : decode cX6_forget 31 = .ok (.aload_n 1, 1) := by decide +kernel
theorem dX6_forget_32 : decode cX6_forget 32 = .ok (.if_acmp .eq 19, 3) := by decide +kernel
theorem dX6_forget_35 : decode cX6_forget 35 = .ok (.aload_n 0, 1) := by decide +kernel
theorem dX6_forget_36 : decode cX6_forget 36 = .ok (.getfield 11, 3) := by decide +kernel
theorem dX6_forget_39 : decode cX6_forget 39 = .ok (.iload_n 3, 1) := by decide +kernel
theorem dX6_forget_40 : decode cX6_forget 40 = .ok (.aload_n 0, 1) := by decide +kernel
theorem dX6_forget_41 : decode cX6_forget 41 = .ok (.getfield 11, 3) := by decide +kernel
theorem dX6_forget_44 : decode cX6_forget 44 = .ok (.iload 4, 2) := by decide +kernel
theorem dX6_forget_46 : decode cX6_forget 46 = .ok (.aaload, 1) := by decide +kernel
theorem dX6_forget_47 : decode cX6_forget 47 = .ok (.aastore, 1) := by decide +kernel
theorem dX6_forget_48 : decode cX6_forget 48 = .ok (.iinc 3 1, 3) := by decide +kernel
theorem dX6_forget_51 : decode cX6_forget 51 = .ok (.iinc 4 1, 3) := by decide +kernel
theorem dX6_forget_54 : decode cX6_forget 54 = .ok (.goto (-49), 3) := by decide +kernel
theorem dX6_forget_57 : decode cX6_forget 57 = .ok (.aload_n 0, 1) := by decide +kernel
theorem dX6_forget_58 : decode cX6_forget 58 = .ok (.iload_n 3, 1) := by decide +kernel
theorem dX6_forget_59 : decode cX6_forget 59 = .ok (.putfield 21, 3) := by decide +kernel
theorem dX6_forget_62 : decode cX6_forget 62 = .ok (.aload_n 0, 1) := by decide +kernel
theorem dX6_forget_63 : decode cX6_forget 63 = .ok (.getfield 17, 3) := by decide +kernel
theorem dX6_forget_66 : decode cX6_forget 66 = .ok (.aload_n 1, 1) := by decide +kernel
theorem dX6_forget_67 : decode cX6_forget 67 = .ok (.if_acmp .ne 8, 3) := by decide +kernel
theorem dX6_forget_70 : decode cX6_forget 70 = .ok (.aload_n 0, 1) := by decide +kernel
theorem dX6_forget_71 : decode cX6_forget 71 = .ok (.aload_n 2, 1) := by decide +kernel
theorem dX6_forget_72 : decode cX6_forget 72 = .ok (.putfield 17, 3) := by decide +kernel
theorem dX6_forget_75 : decode cX6_forget 75 = .ok (.return_, 1) := by decide +kernel
theorem dX6_goBack_0 : decode cX6_goBack 0 = .ok (.aload_n 0, 1) := by decide +kernel
theorem dX6_goBack_1 : decode cX6_goBack 1 = .ok (.getfield 21, 3) := by decide +kernel
theorem dX6_goBack_4 : decode cX6_goBack 4 = .ok (.ifCond .le 15, 3) := by decide +kernel
theorem dX6_goBack_7 : decode cX6_goBack 7 = .ok (.aload_n 0, 1) := by decide +kernel
theorem dX6_goBack_8 : decode cX6_goBack 8 = .ok (.getfield 21, 3) := by decide +kernel
theorem dX6_goBack_11 : decode cX6_goBack 11 = .ok (.aload_n 0, 1) := by decide +kernel
theorem dX6_goBack_12 : decode cX6_goBack 12 = .ok (.getfield 11, 3) := by decide +kernel
theorem dX6_goBack_15 : decode cX6_goBack 15 = .ok (.arraylength, 1) := by decide +kernel
theorem dX6_goBack_16 : decode cX6_goBack 16 = .ok (.if_icmp .le 5, 3) := by decide +kernel
theorem dX6_goBack_19 : decode cX6_goBack 19 = .ok (.iconst 0, 1) := by decide +kernel
theorem dX6_goBack_20 : decode cX6_goBack 20 = .ok (.ireturn, 1) := by decide +kernel
theorem dX6_goBack_21 : decode cX6_goBack 21 = .ok (.aload_n 0, 1) := by decide +kernel
theorem dX6_goBack_22 : decode cX6_goBack 22 = .ok (.dup, 1) := by decide +kernel
theorem dX6_goBack_23 : decode cX6_goBack 23 = .ok (.getfield 21, 3) := by decide +kernel
theorem dX6_goBack_26 : decode cX6_goBack 26 = .ok (.iconst 1, 1) := by decide +kernel
theorem dX6_goBack_27 : decode cX6_goBack 27 = .ok (.isub, 1) := by decide +kernel
theorem dX6_goBack_28 : decode cX6_goBack 28 = .ok (.putfield 21, 3) := by decide +kernel
theorem dX6_goBack_31 : decode cX6_goBack 31 = .ok (.aload_n 0, 1) := by decide +kernel
theorem dX6_goBack_32 : decode cX6_goBack 32 = .ok (.aload_n 0, 1) := by decide +kernel
theorem dX6_goBack_33 : decode cX6_goBack 33 = .ok (.getfield 11, 3) := by decide +kernel
theorem dX6_goBack_36 : decode cX6_goBack 36 = .ok (.aload_n 0, 1) := by decide +kernel
theorem dX6_goBack_37 : decode cX6_goBack 37 = .ok (.getfield 21, 3) := by decide +kernel
theorem dX6_goBack_40 : decode cX6_goBack 40 = .ok (.aaload, 1) := by decide +kernel
theorem dX6_goBack_41 : decode cX6_goBack 41 = .ok (.putfield 17, 3) := by decide +kernel
theorem dX6_goBack_44 : decode cX6_goBack 44 = .ok (.iconst 1, 1) := by decide +kernel
theorem dX6_goBack_45 : decode cX6_goBack 45 = .ok (.ireturn, 1) := by decide +kernel
theorem dX6_goTo_0 : decode cX6_goTo 0 = .ok (.aload_n 0, 1) := by decide +kernel
theorem dX6_goTo_1 : decode cX6_goTo 1 = .ok (.getfield 17, 3) := by decide +kernel
theorem dX6_goTo_4 : decode cX6_goTo 4 = .ok (.ifnull 45, 3) := by decide +kernel
theorem dX6_goTo_7 : decode cX6_goTo 7 = .ok (.aload_n 0, 1) := by decide +kernel
theorem dX6_goTo_8 : decode cX6_goTo 8 = .ok (.getfield 21, 3) := by decide +kernel
theorem dX6_goTo_11 : decode cX6_goTo 11 = .ok (.ifCond .lt 38, 3) := by decide +kernel
theorem dX6_goTo_14 : decode cX6_goTo 14 = .ok (.aload_n 0, 1) := by decide +kernel
theorem dX6_goTo_15 : decode cX6_goTo 15 = .ok (.getfield 21, 3) := by decide +kernel
theorem dX6_goTo_18 : decode cX6_goTo 18 = .ok (.aload_n 0, 1) := by decide +kernel
theorem dX6_goTo_19 : decode cX6_goTo 19 = .ok (.getfield 11, 3) := by decide +kernel
theorem dX6_goTo_22 : decode cX6_goTo 22 = .ok (.arraylength, 1) := by decide +kernel
theorem dX6_goTo_23 : decode cX6_goTo 23 = .ok (.if_icmp .ge 26, 3) := by decide +kernel
theorem dX6_goTo_26 : decode cX6_goTo 26 = .ok (.aload_n 0, 1) := by decide +kernel
theorem dX6_goTo_27 : decode cX6_goTo 27 = .ok (.getfield 11, 3) := by decide +kernel
theorem dX6_goTo_30 : decode cX6_goTo 30 = .ok (.aload_n 0, 1) := by decide +kernel
theorem dX6_goTo_31 : decode cX6_goTo 31 = .ok (.getfield 21, 3) := by decide +kernel
theorem dX6_goTo_34 : decode cX6_goTo 34 = .ok (.aload_n 0, 1) := by decide +kernel
theorem dX6_goTo_35 : decode cX6_goTo 35 = .ok (.getfield 17, 3) := by decide +kernel
theorem dX6_goTo_38 : decode cX6_goTo 38 = .ok (.aastore, 1) := by decide +kernel
theorem dX6_goTo_39 : decode cX6_goTo 39 = .ok (.aload_n 0, 1) := by decide +kernel
theorem dX6_goTo_40 : decode cX6_goTo 40 = .ok (.dup, 1) := by decide +kernel
theorem dX6_goTo_41 : decode cX6_goTo 41 = .ok (.getfield 21, 3) := by decide +kernel
theorem dX6_goTo_44 : decode cX6_goTo 44 = .ok (.iconst 1, 1) := by decide +kernel
theorem dX6_goTo_45 : decode cX6_goTo 45 = .ok (.iadd, 1) := by decide +kernel
theorem dX6_goTo_46 : decode cX6_goTo 46 = .ok (.putfield 21, 3) := by decide +kernel
theorem dX6_goTo_49 : decode cX6_goTo 49 = .ok (.aload_n 0, 1) := by decide +kernel
theorem dX6_goTo_50 : decode cX6_goTo 50 = .ok (.aload_n 1, 1) := by decide +kernel
theorem dX6_goTo_51 : decode cX6_goTo 51 = .ok (.putfield 17, 3) := by decide +kernel
theorem dX6_goTo_54 : decode cX6_goTo 54 = .ok (.return_, 1) := by decide +kernel
theorem dX6_init_0 : decode cX6_init 0 = .ok (.aload_n 0, 1) := by decide +kernel
theorem dX6_init_1 : decode cX6_init 1 = .ok (.invokespecial 3, 3) := by decide +kernel
theorem dX6_init_4 : decode cX6_init 4 = .ok (.aload_n 0, 1) := by decide +kernel
theorem dX6_init_5 : decode cX6_init 5 = .ok (.sipush 512, 3) := by decide +kernel
theorem dX6_init_8 : decode cX6_init 8 = .ok (.anewarray 9, 3) := by decide +kernel
theorem dX6_init_11 : decode cX6_init 11 = .ok (.putfield 11, 3) := by decide +kernel
theorem dX6_init_14 : decode cX6_init 14 = .ok (.return_, 1) := by decide +kernel
theorem dX7_answer_0 : decode cX7_answer 0 = .ok (.aload_n 0, 1) := by decide +kernel
theorem dX7_answer_1 : decode cX7_answer 1 = .ok (.iload_n 1, 1) := by decide +kernel
theorem dX7_answer_2 : decode cX7_answer 2 = .ok (.invokevirtual 171, 3) := by decide +kernel
theorem dX7_answer_5 : decode cX7_answer 5 = .ok (.astore_n 3, 1) := by decide +kernel
theorem dX7_answer_6 : decode cX7_answer 6 = .ok (.iload_n 2, 1) := by decide +kernel
theorem dX7_answer_7 : decode cX7_answer 7 = .ok (.iconst (-1), 1) := by decide +kernel
theorem dX7_answer_8 : decode cX7_answer 8 = .ok (.if_icmp .ne 7, 3) := by decide +kernel
theorem dX7_answer_11 : decode cX7_answer 11 = .ok (.aconst_null, 1) := by decide +kernel
theorem dX7_answer_12 : decode cX7_answer 12 = .ok (.goto 8, 3) := by decide +kernel
theorem dX7_answer_15 : decode cX7_answer 15 = .ok (.aload_n 0, 1) := by decide +kernel
theorem dX7_answer_16 : decode cX7_answer 16 = .ok (.iload_n 2, 1) := by decide +kernel
theorem dX7_answer_17 : decode cX7_answer 17 = .ok (.invokevirtual 171, 3) := by decide +kernel
theorem dX7_answer_20 : decode cX7_answer 20 = .ok (.astore 4, 2) := by decide +kernel
theorem dX7_answer_22 : decode cX7_answer 22 = .ok (.aload 4, 2) := by decide +kernel
theorem dX7_answer_24 : decode cX7_answer 24 = .ok (.ifnull 25, 3) := by decide +kernel
theorem dX7_answer_27 : decode cX7_answer 27 = .ok (.aload 4, 2) := by decide +kernel
theorem dX7_answer_29 : decode cX7_answer 29 = .ok (.invokevirtual 199, 3) := by decide +kernel
theorem dX7_answer_32 : decode cX7_answer 32 = .ok (.aload_n 3, 1) := by decide +kernel
theorem dX7_answer_33 : decode cX7_answer 33 = .ok (.invokevirtual 199, 3) := by decide +kernel
theorem dX7_answer_36 : decode cX7_answer 36 = .ok (.if_icmp .lt 13, 3) := by decide +kernel
theorem dX7_answer_39 : decode cX7_answer 39 = .ok (.new 40, 3) := by decide +kernel
theorem dX7_answer_42 : decode cX7_answer 42 = .ok (.dup, 1) := by decide +kernel
theorem dX7_answer_43 : decode cX7_answer 43 = .ok (.ldc 202, 2) := by decide +kernel
theorem dX7_answer_45 : decode cX7_answer 45 = .ok (.invokespecial 44, 3) := by decide +kernel
theorem dX7_answer_48 : decode cX7_answer 48 = .ok (.athrow, 1) := by decide +kernel
theorem dX7_answer_49 : decode cX7_answer 49 = .ok (.aload_n 3, 1) := by decide +kernel
theorem dX7_answer_50 : decode cX7_answer 50 = .ok (.getfield 204, 3) := by decide +kernel
theorem dX7_answer_53 : decode cX7_answer 53 = .ok (.astore 5, 2) := by decide +kernel
theorem dX7_answer_55 : decode cX7_answer 55 = .ok (.aload_n 3, 1) := by decide +kernel
theorem dX7_answer_56 : decode cX7_answer 56 = .ok (.aload 4, 2) := by decide +kernel
theorem dX7_answer_58 : decode cX7_answer 58 = .ok (.putfield 204, 3) := by decide +kernel
theorem dX7_answer_61 : decode cX7_answer 61 = .ok (.aload 5, 2) := by decide +kernel
theorem dX7_answer_63 : decode cX7_answer 63 = .ok (.ifnonnull 7, 3) := by decide +kernel
theorem dX7_answer_66 : decode cX7_answer 66 = .ok (.iconst (-1), 1) := by decide +kernel
theorem dX7_answer_67 : decode cX7_answer 67 = .ok (.goto 8, 3) := by decide +kernel
theorem dX7_answer_70 : decode cX7_answer 70 = .ok (.aload 5, 2) := by decide +kernel
theorem dX7_answer_72 : decode cX7_answer 72 = .ok (.getfield 170, 3) := by decide +kernel
theorem dX7_answer_75 : decode cX7_answer 75 = .ok (.ireturn, 1) := by decide +kernel
theorem dX7_answersComeLater_0 : decode cX7_answersComeLater 0 = .ok (.iconst 0, 1) := by decide +kernel
theorem dX7_answersComeLater_1 : decode cX7_answersComeLater 1 = .ok (.istore_n 1, 1) := by decide +kernel
theorem dX7_answersComeLater_2 : decode cX7_answersComeLater 2 = .ok (.iload_n 1, 1) := by decide +kernel
theorem dX7_answersComeLater_3 : decode cX7_answersComeLater 3 = .ok (.aload_n 0, 1) := by decide +kernel
theorem dX7_answersComeLater_4 : decode cX7_answersComeLater 4 = .ok (.getfield 19, 3) := by decide +kernel
theorem dX7_answersComeLater_7 : decode cX7_answersComeLater 7 = .ok (.invokevirtual 36, 3) := by decide +kernel
theorem dX7_answersComeLater_10 : decode cX7_answersComeLater 10 = .ok (.if_icmp .ge 51, 3) := by decide +kernel
theorem dX7_answersComeLater_13 : decode cX7_answersComeLater 13 = .ok (.aload_n 0, 1) := by decide +kernel
theorem dX7_answersComeLater_14 : decode cX7_answersComeLater 14 = .ok (.getfield 19, 3) := by decide +kernel
theorem dX7_answersComeLater_17 : decode cX7_answersComeLater 17 = .ok (.iload_n 1, 1) := by decide +kernel
theorem dX7_answersComeLater_18 : decode cX7_answersComeLater 18 = .ok (.invokevirtual 215, 3) := by decide +kernel
theorem dX7_answersComeLater_21 : decode cX7_answersComeLater 21 = .ok (.checkcast 161, 3) := by decide +kernel
theorem dX7_answersComeLater_24 : decode cX7_answersComeLater 24 = .ok (.astore_n 2, 1) := by decide +kernel
theorem dX7_answersComeLater_25 : decode cX7_answersComeLater 25 = .ok (.aload_n 2, 1) := by decide +kernel
theorem dX7_answersComeLater_26 : decode cX7_answersComeLater 26 = .ok (.getfield 195, 3) := by decide +kernel
theorem dX7_answersComeLater_29 : decode cX7_answersComeLater 29 = .ok (.ifCond .ne 26, 3) := by decide +kernel
theorem dX7_answersComeLater_32 : decode cX7_answersComeLater 32 = .ok (.aload_n 2, 1) := by decide +kernel
theorem dX7_answersComeLater_33 : decode cX7_answersComeLater 33 = .ok (.getfield 204, 3) := by decide +kernel
theorem dX7_answersComeLater_36 : decode cX7_answersComeLater 36 = .ok (.ifnull 19, 3) := by decide +kernel
theorem dX7_answersComeLater_39 : decode cX7_answersComeLater 39 = .ok (.aload_n 2, 1) := by decide +kernel
theorem dX7_answersComeLater_40 : decode cX7_answersComeLater 40 = .ok (.getfield 204, 3) := by decide +kernel
theorem dX7_answersComeLater_43 : decode cX7_answersComeLater 43 = .ok (.invokevirtual 199, 3) := by decide +kernel
theorem dX7_answersComeLater_46 : decode cX7_answersComeLater 46 = .ok (.aload_n 2, 1) := by decide +kernel
theorem dX7_answersComeLater_47 : decode cX7_answersComeLater 47 = .ok (.invokevirtual 199, 3) := by decide +kernel
theorem dX7_answersComeLater_50 : decode cX7_answersComeLater 50 = .ok (.if_icmp .lt 5, 3) := by decide +kernel
theorem dX7_answersComeLater_53 : decode cX7_answersComeLater 53 = .ok (.iconst 0, 1) := by decide +kernel
theorem dX7_answersComeLater_54 : decode cX7_answersComeLater 54 = .ok (.ireturn, 1) := by decide +kernel
theorem dX7_answersComeLater_55 : decode cX7_answersComeLater 55 = .ok (.iinc 1 1, 3) := by decide +kernel
theorem dX7_answersComeLater_58 : decode cX7_answersComeLater 58 = .ok (.goto (-56), 3) := by decide +kernel
theorem dX7_answersComeLater_61 : decode cX7_answersComeLater 61 = .ok (.iconst 1, 1) := by decide +kernel
theorem dX7_answersComeLater_62 : decode cX7_answersComeLater 62 = .ok (.ireturn, 1) := by decide +kernel
theorem dX7_back_0 : decode cX7_back 0 = .ok (.aload_n 0, 1) := by decide +kernel
theorem dX7_back_1 : decode cX7_back 1 = .ok (.getfield 32, 3) := by decide +kernel
theorem dX7_back_4 : decode cX7_back 4 = .ok (.invokevirtual 298, 3) := by decide +kernel
theorem dX7_back_7 : decode cX7_back 7 = .ok (.ifCond .eq 16, 3) := by decide +kernel
theorem dX7_back_10 : decode cX7_back 10 = .ok (.aload_n 0, 1) := by decide +kernel
theorem dX7_back_11 : decode cX7_back 11 = .ok (.getfield 32, 3) := by decide +kernel
theorem dX7_back_14 : decode cX7_back 14 = .ok (.getfield 287, 3) := by decide +kernel
theorem dX7_back_17 : decode cX7_back 17 = .ok (.invokestatic 290, 3) := by decide +kernel
theorem dX7_back_20 : decode cX7_back 20 = .ok (.goto 4, 3) := by decide +kernel
theorem dX7_back_23 : decode cX7_back 23 = .ok (.iconst (-1), 1) := by decide +kernel
theorem dX7_back_24 : decode cX7_back 24 = .ok (.ireturn, 1) := by decide +kernel
theorem dX7_balloon_0 : decode cX7_balloon 0 = .ok (.aload_n 0, 1) := by decide +kernel
theorem dX7_balloon_1 : decode cX7_balloon 1 = .ok (.iload_n 1, 1) := by decide +kernel
theorem dX7_balloon_2 : decode cX7_balloon 2 = .ok (.invokevirtual 99, 3) := by decide +kernel
theorem dX7_balloon_5 : decode cX7_balloon 5 = .ok (.astore 4, 2) := by decide +kernel
theorem dX7_balloon_7 : decode cX7_balloon 7 = .ok (.iload_n 2, 1) := by decide +kernel
theorem dX7_balloon_8 : decode cX7_balloon 8 = .ok (.aload 4, 2) := by decide +kernel
theorem dX7_balloon_10 : decode cX7_balloon 10 = .ok (.getfield 137, 3) := by decide +kernel
theorem dX7_balloon_13 : decode cX7_balloon 13 = .ok (.invokevirtual 36, 3) := by decide +kernel
theorem dX7_balloon_16 : decode cX7_balloon 16 = .ok (.invokestatic 67, 3) := by decide +kernel
theorem dX7_balloon_19 : decode cX7_balloon 19 = .ok (.iload_n 3, 1) := by decide +kernel
theorem dX7_balloon_20 : decode cX7_balloon 20 = .ok (.iconst 1, 1) := by decide +kernel
theorem dX7_balloon_21 : decode cX7_balloon 21 = .ok (.bipush 60, 2) := by decide +kernel
theorem dX7_balloon_23 : decode cX7_balloon 23 = .ok (.invokestatic 71, 3) := by decide +kernel
theorem dX7_balloon_26 : decode cX7_balloon 26 = .ok (.aload 4, 2) := by decide +kernel
theorem dX7_balloon_28 : decode cX7_balloon 28 = .ok (.getfield 137, 3) := by decide +kernel
theorem dX7_balloon_31 : decode cX7_balloon 31 = .ok (.invokevirtual 36, 3) := by decide +kernel
theorem dX7_balloon_34 : decode cX7_balloon 34 = .ok (.iconst 4, 1) := by decide +kernel
theorem dX7_balloon_35 : decode cX7_balloon 35 = .ok (.if_icmp .ge 15, 3) := by decide +kernel
theorem dX7_balloon_38 : decode cX7_balloon 38 = .ok (.aload_n 0, 1) := by decide +kernel
theorem dX7_balloon_39 : decode cX7_balloon 39 = .ok (.getfield 19, 3) := by decide +kernel
theorem dX7_balloon_42 : decode cX7_balloon 42 = .ok (.invokevirtual 36, 3) := by decide +kernel
theorem dX7_balloon_45 : decode cX7_balloon 45 = .ok (.bipush 80, 2) := by decide +kernel
theorem dX7_balloon_47 : decode cX7_balloon 47 = .ok (.if_icmp .lt 13, 3) := by decide +kernel
theorem dX7_balloon_50 : decode cX7_balloon 50 = .ok (.new 40, 3) := by decide +kernel
theorem dX7_balloon_53 : decode cX7_balloon 53 = .ok (.dup, 1) := by decide +kernel
theorem dX7_balloon_54 : decode cX7_balloon 54 = .ok (.ldc 159, 2) := by decide +kernel
theorem dX7_balloon_56 : decode cX7_balloon 56 = .ok (.invokespecial 44, 3) := by decide +kernel
theorem dX7_balloon_59 : decode cX7_balloon 59 = .ok (.athrow, 1) := by decide +kernel
theorem dX7_balloon_60 : decode cX7_balloon 60 = .ok (.new 161, 3) := by decide +kernel
theorem dX7_balloon_63 : decode cX7_balloon 63 = .ok (.dup, 1) := by decide +kernel
theorem dX7_balloon_64 : decode cX7_balloon 64 = .ok (.aload_n 0, 1) := by decide +kernel
theorem dX7_balloon_65 : decode cX7_balloon 65 = .ok (.getfield 19, 3) := by decide +kernel
theorem dX7_balloon_68 : decode cX7_balloon 68 = .ok (.invokevirtual 36, 3) := by decide +kernel
theorem dX7_balloon_71 : decode cX7_balloon 71 = .ok (.aload 4, 2) := by decide +kernel
theorem dX7_balloon_73 : decode cX7_balloon 73 = .ok (.iload_n 3, 1) := by decide +kernel
theorem dX7_balloon_74 : decode cX7_balloon 74 = .ok (.invokespecial 163, 3) := by decide +kernel
theorem dX7_balloon_77 : decode cX7_balloon 77 = .ok (.astore 5, 2) := by decide +kernel
theorem dX7_balloon_79 : decode cX7_balloon 79 = .ok (.aload 4, 2) := by decide +kernel
theorem dX7_balloon_81 : decode cX7_balloon 81 = .ok (.iload_n 2, 1) := by decide +kernel
theorem dX7_balloon_82 : decode cX7_balloon 82 = .ok (.aload 5, 2) := by decide +kernel
theorem dX7_balloon_84 : decode cX7_balloon 84 = .ok (.invokevirtual 166, 3) := by decide +kernel
theorem dX7_balloon_87 : decode cX7_balloon 87 = .ok (.aload_n 0, 1) := by decide +kernel
theorem dX7_balloon_88 : decode cX7_balloon 88 = .ok (.getfield 25, 3) := by decide +kernel
theorem dX7_balloon_91 : decode cX7_balloon 91 = .ok (.aload 4, 2) := by decide +kernel
theorem dX7_balloon_93 : decode cX7_balloon 93 = .ok (.getfield 103, 3) := by decide +kernel
theorem dX7_balloon_96 : decode cX7_balloon 96 = .ok (.invokevirtual 86, 3) := by decide +kernel
theorem dX7_balloon_99 : decode cX7_balloon 99 = .ok (.ifCond .ne 19, 3) := by decide +kernel
theorem dX7_balloon_102 : decode cX7_balloon 102 = .ok (.aload 4, 2) := by decide +kernel
theorem dX7_balloon_104 : decode cX7_balloon 104 = .ok (.iload_n 2, 1) := by decide +kernel
theorem dX7_balloon_105 : decode cX7_balloon 105 = .ok (.invokevirtual 169, 3) := by decide +kernel
theorem dX7_balloon_108 : decode cX7_balloon 108 = .ok (.new 40, 3) := by decide +kernel
theorem dX7_balloon_111 : decode cX7_balloon 111 = .ok (.dup, 1) := by decide +kernel
theorem dX7_balloon_112 : decode cX7_balloon 112 = .ok (.ldc 93, 2) := by decide +kernel
theorem dX7_balloon_114 : decode cX7_balloon 114 = .ok (.invokespecial 44, 3) := by decide +kernel
theorem dX7_balloon_117 : decode cX7_balloon 117 = .ok (.athrow, 1) := by decide +kernel
theorem dX7_balloon_118 : decode cX7_balloon 118 = .ok (.aload_n 0, 1) := by decide +kernel
theorem dX7_balloon_119 : decode cX7_balloon 119 = .ok (.getfield 19, 3) := by decide +kernel
theorem dX7_balloon_122 : decode cX7_balloon 122 = .ok (.aload 5, 2) := by decide +kernel
theorem dX7_balloon_124 : decode cX7_balloon 124 = .ok (.invokevirtual 52, 3) := by decide +kernel
theorem dX7_balloon_127 : decode cX7_balloon 127 = .ok (.pop, 1) := by decide +kernel
theorem dX7_balloon_128 : decode cX7_balloon 128 = .ok (.aload 4, 2) := by decide +kernel
theorem dX7_balloon_130 : decode cX7_balloon 130 = .ok (.getfield 103, 3) := by decide +kernel
theorem dX7_balloon_133 : decode cX7_balloon 133 = .ok (.invokevirtual 95, 3) := by decide +kernel
theorem dX7_balloon_136 : decode cX7_balloon 136 = .ok (.pop, 1) := by decide +kernel
theorem dX7_balloon_137 : decode cX7_balloon 137 = .ok (.aload 5, 2) := by decide +kernel
theorem dX7_balloon_139 : decode cX7_balloon 139 = .ok (.getfield 170, 3) := by decide +kernel
theorem dX7_balloon_142 : decode cX7_balloon 142 = .ok (.ireturn, 1) := by decide +kernel
theorem dX7_balloonReadAt_0 : decode cX7_balloonReadAt 0 = .ok (.iload_n 1, 1) := by decide +kernel
theorem dX7_balloonReadAt_1 : decode cX7_balloonReadAt 1 = .ok (.istore_n 2, 1) := by decide +kernel
theorem dX7_balloonReadAt_2 : decode cX7_balloonReadAt 2 = .ok (.iconst 0, 1) := by decide +kernel
theorem dX7_balloonReadAt_3 : decode cX7_balloonReadAt 3 = .ok (.istore_n 3, 1) := by decide +kernel
theorem dX7_balloonReadAt_4 : decode cX7_balloonReadAt 4 = .ok (.iload_n 3, 1) := by decide +kernel
theorem dX7_balloonReadAt_5 : decode cX7_balloonReadAt 5 = .ok (.aload_n 0, 1) := by decide +kernel
theorem dX7_balloonReadAt_6 : decode cX7_balloonReadAt 6 = .ok (.getfield 10, 3) := by decide +kernel
theorem dX7_balloonReadAt_9 : decode cX7_balloonReadAt 9 = .ok (.invokevirtual 36, 3) := by decide +kernel
theorem dX7_balloonReadAt_12 : decode cX7_balloonReadAt 12 = .ok (.if_icmp .ge 99, 3) := by decide +kernel
theorem dX7_balloonReadAt_15 : decode cX7_balloonReadAt 15 = .ok (.aload_n 0, 1) := by decide +kernel
theorem dX7_balloonReadAt_16 : decode cX7_balloonReadAt 16 = .ok (.getfield 10, 3) := by decide +kernel
theorem dX7_balloonReadAt_19 : decode cX7_balloonReadAt 19 = .ok (.iload_n 3, 1) := by decide +kernel
theorem dX7_balloonReadAt_20 : decode cX7_balloonReadAt 20 = .ok (.invokevirtual 215, 3) := by decide +kernel
theorem dX7_balloonReadAt_23 : decode cX7_balloonReadAt 23 = .ok (.checkcast 47, 3) := by decide +kernel
theorem dX7_balloonReadAt_26 : decode cX7_balloonReadAt 26 = .ok (.astore 4, 2) := by decide +kernel
theorem dX7_balloonReadAt_28 : decode cX7_balloonReadAt 28 = .ok (.iconst 0, 1) := by decide +kernel
theorem dX7_balloonReadAt_29 : decode cX7_balloonReadAt 29 = .ok (.istore 5, 2) := by decide +kernel
theorem dX7_balloonReadAt_31 : decode cX7_balloonReadAt 31 = .ok (.iload 5, 2) := by decide +kernel
theorem dX7_balloonReadAt_33 : decode cX7_balloonReadAt 33 = .ok (.aload 4, 2) := by decide +kernel
theorem dX7_balloonReadAt_35 : decode cX7_balloonReadAt 35 = .ok (.getfield 64, 3) := by decide +kernel
theorem dX7_balloonReadAt_38 : decode cX7_balloonReadAt 38 = .ok (.invokevirtual 36, 3) := by decide +kernel
theorem dX7_balloonReadAt_41 : decode cX7_balloonReadAt 41 = .ok (.if_icmp .ge 64, 3) := by decide +kernel
theorem dX7_balloonReadAt_44 : decode cX7_balloonReadAt 44 = .ok (.aload 4, 2) := by decide +kernel
theorem dX7_balloonReadAt_46 : decode cX7_balloonReadAt 46 = .ok (.getfield 64, 3) := by decide +kernel
theorem dX7_balloonReadAt_49 : decode cX7_balloonReadAt 49 = .ok (.iload 5, 2) := by decide +kernel
theorem dX7_balloonReadAt_51 : decode cX7_balloonReadAt 51 = .ok (.invokevirtual 215, 3) := by decide +kernel
theorem dX7_balloonReadAt_54 : decode cX7_balloonReadAt 54 = .ok (.checkcast 77, 3) := by decide +kernel
theorem dX7_balloonReadAt_57 : decode cX7_balloonReadAt 57 = .ok (.astore 6, 2) := by decide +kernel
theorem dX7_balloonReadAt_59 : decode cX7_balloonReadAt 59 = .ok (.iload_n 2, 1) := by decide +kernel
theorem dX7_balloonReadAt_60 : decode cX7_balloonReadAt 60 = .ok (.ifCond .lt 28, 3) := by decide +kernel
theorem dX7_balloonReadAt_63 : decode cX7_balloonReadAt 63 = .ok (.iload_n 2, 1) := by decide +kernel
theorem dX7_balloonReadAt_64 : decode cX7_balloonReadAt 64 = .ok (.aload 6, 2) := by decide +kernel
theorem dX7_balloonReadAt_66 : decode cX7_balloonReadAt 66 = .ok (.getfield 137, 3) := by decide +kernel
theorem dX7_balloonReadAt_69 : decode cX7_balloonReadAt 69 = .ok (.invokevirtual 36, 3) := by decide +kernel
theorem dX7_balloonReadAt_72 : decode cX7_balloonReadAt 72 = .ok (.if_icmp .ge 16, 3) := by decide +kernel
theorem dX7_balloonReadAt_75 : decode cX7_balloonReadAt 75 = .ok (.aload 6, 2) := by decide +kernel
theorem dX7_balloonReadAt_77 : decode cX7_balloonReadAt 77 = .ok (.getfield 137, 3) := by decide +kernel
theorem dX7_balloonReadAt_80 : decode cX7_balloonReadAt 80 = .ok (.iload_n 2, 1) := by decide +kernel
theorem dX7_balloonReadAt_81 : decode cX7_balloonReadAt 81 = .ok (.invokevirtual 215, 3) := by decide +kernel
theorem dX7_balloonReadAt_84 : decode cX7_balloonReadAt 84 = .ok (.checkcast 161, 3) := by decide +kernel
theorem dX7_balloonReadAt_87 : decode cX7_balloonReadAt 87 = .ok (.areturn, 1) := by decide +kernel
theorem dX7_balloonReadAt_88 : decode cX7_balloonReadAt 88 = .ok (.iload_n 2, 1) := by decide +kernel
theorem dX7_balloonReadAt_89 : decode cX7_balloonReadAt 89 = .ok (.aload 6, 2) := by decide +kernel
theorem dX7_balloonReadAt_91 : decode cX7_balloonReadAt 91 = .ok (.getfield 137, 3) := by decide +kernel
theorem dX7_balloonReadAt_94 : decode cX7_balloonReadAt 94 = .ok (.invokevirtual 36, 3) := by decide +kernel
theorem dX7_balloonReadAt_97 : decode cX7_balloonReadAt 97 = .ok (.isub, 1) := by decide +kernel
theorem dX7_balloonReadAt_98 : decode cX7_balloonReadAt 98 = .ok (.istore_n 2, 1) := by decide +kernel
theorem dX7_balloonReadAt_99 : decode cX7_balloonReadAt 99 = .ok (.iinc 5 1, 3) := by decide +kernel
theorem dX7_balloonReadAt_102 : decode cX7_balloonReadAt 102 = .ok (.goto (-71), 3) := by decide +kernel
theorem dX7_balloonReadAt_105 : decode cX7_balloonReadAt 105 = .ok (.iinc 3 1, 3) := by decide +kernel
theorem dX7_balloonReadAt_108 : decode cX7_balloonReadAt 108 = .ok (.goto (-104), 3) := by decide +kernel
theorem dX7_balloonReadAt_111 : decode cX7_balloonReadAt 111 = .ok (.aconst_null, 1) := by decide +kernel
theorem dX7_balloonReadAt_112 : decode cX7_balloonReadAt 112 = .ok (.areturn, 1) := by decide +kernel
theorem dX7_balloons_0 : decode cX7_balloons 0 = .ok (.iconst 0, 1) := by decide +kernel
theorem dX7_balloons_1 : decode cX7_balloons 1 = .ok (.istore_n 1, 1) := by decide +kernel
theorem dX7_balloons_2 : decode cX7_balloons 2 = .ok (.iconst 0, 1) := by decide +kernel
theorem dX7_balloons_3 : decode cX7_balloons 3 = .ok (.istore_n 2, 1) := by decide +kernel
theorem dX7_balloons_4 : decode cX7_balloons 4 = .ok (.iload_n 2, 1) := by decide +kernel
theorem dX7_balloons_5 : decode cX7_balloons 5 = .ok (.aload_n 0, 1) := by decide +kernel
theorem dX7_balloons_6 : decode cX7_balloons 6 = .ok (.getfield 19, 3) := by decide +kernel
theorem dX7_balloons_9 : decode cX7_balloons 9 = .ok (.invokevirtual 36, 3) := by decide +kernel
theorem dX7_balloons_12 : decode cX7_balloons 12 = .ok (.if_icmp .ge 29, 3) := by decide +kernel
theorem dX7_balloons_15 : decode cX7_balloons 15 = .ok (.aload_n 0, 1) := by decide +kernel
theorem dX7_balloons_16 : decode cX7_balloons 16 = .ok (.getfield 19, 3) := by decide +kernel
theorem dX7_balloons_19 : decode cX7_balloons 19 = .ok (.iload_n 2, 1) := by decide +kernel
theorem dX7_balloons_20 : decode cX7_balloons 20 = .ok (.invokevirtual 215, 3) := by decide +kernel
theorem dX7_balloons_23 : decode cX7_balloons 23 = .ok (.checkcast 161, 3) := by decide +kernel
theorem dX7_balloons_26 : decode cX7_balloons 26 = .ok (.getfield 195, 3) := by decide +kernel
theorem dX7_balloons_29 : decode cX7_balloons 29 = .ok (.ifCond .ne 6, 3) := by decide +kernel
theorem dX7_balloons_32 : decode cX7_balloons 32 = .ok (.iinc 1 1, 3) := by decide +kernel
theorem dX7_balloons_35 : decode cX7_balloons 35 = .ok (.iinc 2 1, 3) := by decide +kernel
theorem dX7_balloons_38 : decode cX7_balloons 38 = .ok (.goto (-34), 3) := by decide +kernel
theorem dX7_balloons_41 : decode cX7_balloons 41 = .ok (.iload_n 1, 1) := by decide +kernel
theorem dX7_balloons_42 : decode cX7_balloons 42 = .ok (.ireturn, 1) := by decide +kernel
theorem dX7_cell_0 : decode cX7_cell 0 = .ok (.aload_n 0, 1) := by decide +kernel
theorem dX7_cell_1 : decode cX7_cell 1 = .ok (.iload_n 1, 1) := by decide +kernel
theorem dX7_cell_2 : decode cX7_cell 2 = .ok (.invokevirtual 99, 3) := by decide +kernel
theorem dX7_cell_5 : decode cX7_cell 5 = .ok (.astore 4, 2) := by decide +kernel
theorem dX7_cell_7 : decode cX7_cell 7 = .ok (.iload_n 2, 1) := by decide +kernel
theorem dX7_cell_8 : decode cX7_cell 8 = .ok (.aload 4, 2) := by decide +kernel
theorem dX7_cell_10 : decode cX7_cell 10 = .ok (.getfield 150, 3) := by decide +kernel
theorem dX7_cell_13 : decode cX7_cell 13 = .ok (.getfield 232, 3) := by decide +kernel
theorem dX7_cell_16 : decode cX7_cell 16 = .ok (.iconst 1, 1) := by decide +kernel
theorem dX7_cell_17 : decode cX7_cell 17 = .ok (.isub, 1) := by decide +kernel
theorem dX7_cell_18 : decode cX7_cell 18 = .ok (.invokestatic 67, 3) := by decide +kernel
theorem dX7_cell_21 : decode cX7_cell 21 = .ok (.iload_n 3, 1) := by decide +kernel
theorem dX7_cell_22 : decode cX7_cell 22 = .ok (.aload 4, 2) := by decide +kernel
theorem dX7_cell_24 : decode cX7_cell 24 = .ok (.getfield 150, 3) := by decide +kernel
theorem dX7_cell_27 : decode cX7_cell 27 = .ok (.getfield 154, 3) := by decide +kernel
theorem dX7_cell_30 : decode cX7_cell 30 = .ok (.iconst 1, 1) := by decide +kernel
theorem dX7_cell_31 : decode cX7_cell 31 = .ok (.isub, 1) := by decide +kernel
theorem dX7_cell_32 : decode cX7_cell 32 = .ok (.invokestatic 67, 3) := by decide +kernel
theorem dX7_cell_35 : decode cX7_cell 35 = .ok (.iconst 0, 1) := by decide +kernel
theorem dX7_cell_36 : decode cX7_cell 36 = .ok (.istore 5, 2) := by decide +kernel
theorem dX7_cell_38 : decode cX7_cell 38 = .ok (.iload 5, 2) := by decide +kernel
theorem dX7_cell_40 : decode cX7_cell 40 = .ok (.aload 4, 2) := by decide +kernel
theorem dX7_cell_42 : decode cX7_cell 42 = .ok (.getfield 137, 3) := by decide +kernel
theorem dX7_cell_45 : decode cX7_cell 45 = .ok (.invokevirtual 36, 3) := by decide +kernel
theorem dX7_cell_48 : decode cX7_cell 48 = .ok (.if_icmp .ge 50, 3) := by decide +kernel
theorem dX7_cell_51 : decode cX7_cell 51 = .ok (.aload 4, 2) := by decide +kernel
theorem dX7_cell_53 : decode cX7_cell 53 = .ok (.getfield 137, 3) := by decide +kernel
theorem dX7_cell_56 : decode cX7_cell 56 = .ok (.iload 5, 2) := by decide +kernel
theorem dX7_cell_58 : decode cX7_cell 58 = .ok (.invokevirtual 215, 3) := by decide +kernel
theorem dX7_cell_61 : decode cX7_cell 61 = .ok (.checkcast 161, 3) := by decide +kernel
theorem dX7_cell_64 : decode cX7_cell 64 = .ok (.getfield 231, 3) := by decide +kernel
theorem dX7_cell_67 : decode cX7_cell 67 = .ok (.iload_n 2, 1) := by decide +kernel
theorem dX7_cell_68 : decode cX7_cell 68 = .ok (.iload_n 3, 1) := by decide +kernel
theorem dX7_cell_69 : decode cX7_cell 69 = .ok (.invokevirtual 235, 3) := by decide +kernel
theorem dX7_cell_72 : decode cX7_cell 72 = .ok (.ifCond .eq 20, 3) := by decide +kernel
theorem dX7_cell_75 : decode cX7_cell 75 = .ok (.aload 4, 2) := by decide +kernel
theorem dX7_cell_77 : decode cX7_cell 77 = .ok (.getfield 137, 3) := by decide +kernel
theorem dX7_cell_80 : decode cX7_cell 80 = .ok (.iload 5, 2) := by decide +kernel
theorem dX7_cell_82 : decode cX7_cell 82 = .ok (.invokevirtual 215, 3) := by decide +kernel
theorem dX7_cell_85 : decode cX7_cell 85 = .ok (.checkcast 161, 3) := by decide +kernel
theorem dX7_cell_88 : decode cX7_cell 88 = .ok (.getfield 170, 3) := by decide +kernel
theorem dX7_cell_91 : decode cX7_cell 91 = .ok (.ireturn, 1) := by decide +kernel
theorem dX7_cell_92 : decode cX7_cell 92 = .ok (.iinc 5 1, 3) := by decide +kernel
theorem dX7_cell_95 : decode cX7_cell 95 = .ok (.goto (-57), 3) := by decide +kernel
theorem dX7_cell_98 : decode cX7_cell 98 = .ok (.aload 4, 2) := by decide +kernel
theorem dX7_cell_100 : decode cX7_cell 100 = .ok (.iload_n 2, 1) := by decide +kernel
theorem dX7_cell_101 : decode cX7_cell 101 = .ok (.iload_n 3, 1) := by decide +kernel
theorem dX7_cell_102 : decode cX7_cell 102 = .ok (.invokevirtual 239, 3) := by decide +kernel
theorem dX7_cell_105 : decode cX7_cell 105 = .ok (.ifCond .eq 8, 3) := by decide +kernel
theorem dX7_cell_108 : decode cX7_cell 108 = .ok (.bipush (-2), 2) := by decide +kernel
theorem dX7_cell_110 : decode cX7_cell 110 = .ok (.goto 4, 3) := by decide +kernel
theorem dX7_cell_113 : decode cX7_cell 113 = .ok (.iconst (-1), 1) := by decide +kernel
theorem dX7_cell_114 : decode cX7_cell 114 = .ok (.ireturn, 1) := by decide +kernel
theorem dX7_countReadBefore_0 : decode cX7_countReadBefore 0 = .ok (.aload_n 1, 1) := by decide +kernel
theorem dX7_countReadBefore_1 : decode cX7_countReadBefore 1 = .ok (.invokevirtual 199, 3) := by decide +kernel
theorem dX7_countReadBefore_4 : decode cX7_countReadBefore 4 = .ok (.istore_n 2, 1) := by decide +kernel
theorem dX7_countReadBefore_5 : decode cX7_countReadBefore 5 = .ok (.iconst 0, 1) := by decide +kernel
theorem dX7_countReadBefore_6 : decode cX7_countReadBefore 6 = .ok (.istore_n 3, 1) := by decide +kernel
theorem dX7_countReadBefore_7 : decode cX7_countReadBefore 7 = .ok (.iconst 0, 1) := by decide +kernel
theorem dX7_countReadBefore_8 : decode cX7_countReadBefore 8 = .ok (.istore 4, 2) := by decide +kernel
theorem dX7_countReadBefore_10 : decode cX7_countReadBefore 10 = .ok (.iload 4, 2) := by decide +kernel
theorem dX7_countReadBefore_12 : decode cX7_countReadBefore 12 = .ok (.aload_n 0, 1) := by decide +kernel
theorem dX7_countReadBefore_13 : decode cX7_countReadBefore 13 = .ok (.getfield 19, 3) := by decide +kernel
theorem dX7_countReadBefore_16 : decode cX7_countReadBefore 16 = .ok (.invokevirtual 36, 3) := by decide +kernel
theorem dX7_countReadBefore_19 : decode cX7_countReadBefore 19 = .ok (.if_icmp .ge 43, 3) := by decide +kernel
theorem dX7_countReadBefore_22 : decode cX7_countReadBefore 22 = .ok (.aload_n 0, 1) := by decide +kernel
theorem dX7_countReadBefore_23 : decode cX7_countReadBefore 23 = .ok (.getfield 19, 3) := by decide +kernel
theorem dX7_countReadBefore_26 : decode cX7_countReadBefore 26 = .ok (.iload 4, 2) := by decide +kernel
theorem dX7_countReadBefore_28 : decode cX7_countReadBefore 28 = .ok (.invokevirtual 215, 3) := by decide +kernel
theorem dX7_countReadBefore_31 : decode cX7_countReadBefore 31 = .ok (.checkcast 161, 3) := by decide +kernel
theorem dX7_countReadBefore_34 : decode cX7_countReadBefore 34 = .ok (.astore 5, 2) := by decide +kernel
theorem dX7_countReadBefore_36 : decode cX7_countReadBefore 36 = .ok (.aload 5, 2) := by decide +kernel
theorem dX7_countReadBefore_38 : decode cX7_countReadBefore 38 = .ok (.getfield 195, 3) := by decide +kernel
theorem dX7_countReadBefore_41 : decode cX7_countReadBefore 41 = .ok (.ifCond .ne 15, 3) := by decide +kernel
theorem dX7_countReadBefore_44 : decode cX7_countReadBefore 44 = .ok (.aload 5, 2) := by decide +kernel
theorem dX7_countReadBefore_46 : decode cX7_countReadBefore 46 = .ok (.invokevirtual 199, 3) := by decide +kernel
theorem dX7_countReadBefore_49 : decode cX7_countReadBefore 49 = .ok (.iload_n 2, 1) := by decide +kernel
theorem dX7_countReadBefore_50 : decode cX7_countReadBefore 50 = .ok (.if_icmp .ge 6, 3) := by decide +kernel
theorem dX7_countReadBefore_53 : decode cX7_countReadBefore 53 = .ok (.iinc 3 1, 3) := by decide +kernel
theorem dX7_countReadBefore_56 : decode cX7_countReadBefore 56 = .ok (.iinc 4 1, 3) := by decide +kernel
theorem dX7_countReadBefore_59 : decode cX7_countReadBefore 59 = .ok (.goto (-49), 3) := by decide +kernel
theorem dX7_countReadBefore_62 : decode cX7_countReadBefore 62 = .ok (.iload_n 3, 1) := by decide +kernel
theorem dX7_countReadBefore_63 : decode cX7_countReadBefore 63 = .ok (.ireturn, 1) := by decide +kernel
theorem dX7_cutBalloon_0 : decode cX7_cutBalloon 0 = .ok (.aload_n 0, 1) := by decide +kernel
theorem dX7_cutBalloon_1 : decode cX7_cutBalloon 1 = .ok (.iload_n 1, 1) := by decide +kernel
theorem dX7_cutBalloon_2 : decode cX7_cutBalloon 2 = .ok (.invokevirtual 171, 3) := by decide +kernel
theorem dX7_cutBalloon_5 : decode cX7_cutBalloon 5 = .ok (.astore_n 2, 1) := by decide +kernel
theorem dX7_cutBalloon_6 : decode cX7_cutBalloon 6 = .ok (.aload_n 2, 1) := by decide +kernel
theorem dX7_cutBalloon_7 : decode cX7_cutBalloon 7 = .ok (.getfield 175, 3) := by decide +kernel
theorem dX7_cutBalloon_10 : decode cX7_cutBalloon 10 = .ok (.astore_n 3, 1) := by decide +kernel
theorem dX7_cutBalloon_11 : decode cX7_cutBalloon 11 = .ok (.aload_n 0, 1) := by decide +kernel
theorem dX7_cutBalloon_12 : decode cX7_cutBalloon 12 = .ok (.aload_n 2, 1) := by decide +kernel
theorem dX7_cutBalloon_13 : decode cX7_cutBalloon 13 = .ok (.invokevirtual 189, 3) := by decide +kernel
theorem dX7_cutBalloon_16 : decode cX7_cutBalloon 16 = .ok (.ifCond .eq 13, 3) := by decide +kernel
theorem dX7_cutBalloon_19 : decode cX7_cutBalloon 19 = .ok (.new 40, 3) := by decide +kernel
theorem dX7_cutBalloon_22 : decode cX7_cutBalloon 22 = .ok (.dup, 1) := by decide +kernel
theorem dX7_cutBalloon_23 : decode cX7_cutBalloon 23 = .ok (.ldc 193, 2) := by decide +kernel
theorem dX7_cutBalloon_25 : decode cX7_cutBalloon 25 = .ok (.invokespecial 44, 3) := by decide +kernel
theorem dX7_cutBalloon_28 : decode cX7_cutBalloon 28 = .ok (.athrow, 1) := by decide +kernel
theorem dX7_cutBalloon_29 : decode cX7_cutBalloon 29 = .ok (.aload_n 3, 1) := by decide +kernel
theorem dX7_cutBalloon_30 : decode cX7_cutBalloon 30 = .ok (.aload_n 2, 1) := by decide +kernel
theorem dX7_cutBalloon_31 : decode cX7_cutBalloon 31 = .ok (.invokevirtual 180, 3) := by decide +kernel
theorem dX7_cutBalloon_34 : decode cX7_cutBalloon 34 = .ok (.istore 4, 2) := by decide +kernel
theorem dX7_cutBalloon_36 : decode cX7_cutBalloon 36 = .ok (.aload_n 3, 1) := by decide +kernel
theorem dX7_cutBalloon_37 : decode cX7_cutBalloon 37 = .ok (.iload 4, 2) := by decide +kernel
theorem dX7_cutBalloon_39 : decode cX7_cutBalloon 39 = .ok (.invokevirtual 169, 3) := by decide +kernel
theorem dX7_cutBalloon_42 : decode cX7_cutBalloon 42 = .ok (.aload_n 0, 1) := by decide +kernel
theorem dX7_cutBalloon_43 : decode cX7_cutBalloon 43 = .ok (.getfield 25, 3) := by decide +kernel
theorem dX7_cutBalloon_46 : decode cX7_cutBalloon 46 = .ok (.aload_n 3, 1) := by decide +kernel
theorem dX7_cutBalloon_47 : decode cX7_cutBalloon 47 = .ok (.getfield 103, 3) := by decide +kernel
theorem dX7_cutBalloon_50 : decode cX7_cutBalloon 50 = .ok (.invokevirtual 86, 3) := by decide +kernel
theorem dX7_cutBalloon_53 : decode cX7_cutBalloon 53 = .ok (.ifCond .ne 20, 3) := by decide +kernel
theorem dX7_cutBalloon_56 : decode cX7_cutBalloon 56 = .ok (.aload_n 3, 1) := by decide +kernel
theorem dX7_cutBalloon_57 : decode cX7_cutBalloon 57 = .ok (.iload 4, 2) := by decide +kernel
theorem dX7_cutBalloon_59 : decode cX7_cutBalloon 59 = .ok (.aload_n 2, 1) := by decide +kernel
theorem dX7_cutBalloon_60 : decode cX7_cutBalloon 60 = .ok (.invokevirtual 166, 3) := by decide +kernel
theorem dX7_cutBalloon_63 : decode cX7_cutBalloon 63 = .ok (.new 40, 3) := by decide +kernel
theorem dX7_cutBalloon_66 : decode cX7_cutBalloon 66 = .ok (.dup, 1) := by decide +kernel
theorem dX7_cutBalloon_67 : decode cX7_cutBalloon 67 = .ok (.ldc 93, 2) := by decide +kernel
theorem dX7_cutBalloon_69 : decode cX7_cutBalloon 69 = .ok (.invokespecial 44, 3) := by decide +kernel
theorem dX7_cutBalloon_72 : decode cX7_cutBalloon 72 = .ok (.athrow, 1) := by decide +kernel
theorem dX7_cutBalloon_73 : decode cX7_cutBalloon 73 = .ok (.aload_n 3, 1) := by decide +kernel
theorem dX7_cutBalloon_74 : decode cX7_cutBalloon 74 = .ok (.getfield 103, 3) := by decide +kernel
theorem dX7_cutBalloon_77 : decode cX7_cutBalloon 77 = .ok (.invokevirtual 95, 3) := by decide +kernel
theorem dX7_cutBalloon_80 : decode cX7_cutBalloon 80 = .ok (.pop, 1) := by decide +kernel
theorem dX7_cutBalloon_81 : decode cX7_cutBalloon 81 = .ok (.aload_n 2, 1) := by decide +kernel
theorem dX7_cutBalloon_82 : decode cX7_cutBalloon 82 = .ok (.iconst 1, 1) := by decide +kernel
theorem dX7_cutBalloon_83 : decode cX7_cutBalloon 83 = .ok (.putfield 195, 3) := by decide +kernel
theorem dX7_cutBalloon_86 : decode cX7_cutBalloon 86 = .ok (.aload_n 3, 1) := by decide +kernel
theorem dX7_cutBalloon_87 : decode cX7_cutBalloon 87 = .ok (.getfield 98, 3) := by decide +kernel
theorem dX7_cutBalloon_90 : decode cX7_cutBalloon 90 = .ok (.ireturn, 1) := by decide +kernel
theorem dX7_cutPanel_0 : decode cX7_cutPanel 0 = .ok (.aload_n 0, 1) := by decide +kernel
theorem dX7_cutPanel_1 : decode cX7_cutPanel 1 = .ok (.iload_n 1, 1) := by decide +kernel
theorem dX7_cutPanel_2 : decode cX7_cutPanel 2 = .ok (.invokevirtual 99, 3) := by decide +kernel
theorem dX7_cutPanel_5 : decode cX7_cutPanel 5 = .ok (.astore_n 2, 1) := by decide +kernel
theorem dX7_cutPanel_6 : decode cX7_cutPanel 6 = .ok (.aload_n 2, 1) := by decide +kernel
theorem dX7_cutPanel_7 : decode cX7_cutPanel 7 = .ok (.getfield 103, 3) := by decide +kernel
theorem dX7_cutPanel_10 : decode cX7_cutPanel 10 = .ok (.astore_n 3, 1) := by decide +kernel
theorem dX7_cutPanel_11 : decode cX7_cutPanel 11 = .ok (.aload_n 0, 1) := by decide +kernel
theorem dX7_cutPanel_12 : decode cX7_cutPanel 12 = .ok (.aload_n 2, 1) := by decide +kernel
theorem dX7_cutPanel_13 : decode cX7_cutPanel 13 = .ok (.invokevirtual 117, 3) := by decide +kernel
theorem dX7_cutPanel_16 : decode cX7_cutPanel 16 = .ok (.ifCond .eq 13, 3) := by decide +kernel
theorem dX7_cutPanel_19 : decode cX7_cutPanel 19 = .ok (.new 40, 3) := by decide +kernel
theorem dX7_cutPanel_22 : decode cX7_cutPanel 22 = .ok (.dup, 1) := by decide +kernel
theorem dX7_cutPanel_23 : decode cX7_cutPanel 23 = .ok (.ldc 121, 2) := by decide +kernel
theorem dX7_cutPanel_25 : decode cX7_cutPanel 25 = .ok (.invokespecial 44, 3) := by decide +kernel
theorem dX7_cutPanel_28 : decode cX7_cutPanel 28 = .ok (.athrow, 1) := by decide +kernel
theorem dX7_cutPanel_29 : decode cX7_cutPanel 29 = .ok (.aload_n 0, 1) := by decide +kernel
theorem dX7_cutPanel_30 : decode cX7_cutPanel 30 = .ok (.aload_n 2, 1) := by decide +kernel
theorem dX7_cutPanel_31 : decode cX7_cutPanel 31 = .ok (.invokevirtual 123, 3) := by decide +kernel
theorem dX7_cutPanel_34 : decode cX7_cutPanel 34 = .ok (.astore 4, 2) := by decide +kernel
theorem dX7_cutPanel_36 : decode cX7_cutPanel 36 = .ok (.aload 4, 2) := by decide +kernel
theorem dX7_cutPanel_38 : decode cX7_cutPanel 38 = .ok (.ifnonnull 10, 3) := by decide +kernel
theorem dX7_cutPanel_41 : decode cX7_cutPanel 41 = .ok (.aload_n 0, 1) := by decide +kernel
theorem dX7_cutPanel_42 : decode cX7_cutPanel 42 = .ok (.aload_n 2, 1) := by decide +kernel
theorem dX7_cutPanel_43 : decode cX7_cutPanel 43 = .ok (.invokevirtual 127, 3) := by decide +kernel
theorem dX7_cutPanel_46 : decode cX7_cutPanel 46 = .ok (.astore 4, 2) := by decide +kernel
theorem dX7_cutPanel_48 : decode cX7_cutPanel 48 = .ok (.aload_n 3, 1) := by decide +kernel
theorem dX7_cutPanel_49 : decode cX7_cutPanel 49 = .ok (.aload_n 2, 1) := by decide +kernel
theorem dX7_cutPanel_50 : decode cX7_cutPanel 50 = .ok (.invokevirtual 107, 3) := by decide +kernel
theorem dX7_cutPanel_53 : decode cX7_cutPanel 53 = .ok (.istore 5, 2) := by decide +kernel
theorem dX7_cutPanel_55 : decode cX7_cutPanel 55 = .ok (.aload_n 3, 1) := by decide +kernel
theorem dX7_cutPanel_56 : decode cX7_cutPanel 56 = .ok (.iload 5, 2) := by decide +kernel
theorem dX7_cutPanel_58 : decode cX7_cutPanel 58 = .ok (.invokevirtual 90, 3) := by decide +kernel
theorem dX7_cutPanel_61 : decode cX7_cutPanel 61 = .ok (.aload_n 0, 1) := by decide +kernel
theorem dX7_cutPanel_62 : decode cX7_cutPanel 62 = .ok (.getfield 25, 3) := by decide +kernel
theorem dX7_cutPanel_65 : decode cX7_cutPanel 65 = .ok (.aload_n 3, 1) := by decide +kernel
theorem dX7_cutPanel_66 : decode cX7_cutPanel 66 = .ok (.invokevirtual 86, 3) := by decide +kernel
theorem dX7_cutPanel_69 : decode cX7_cutPanel 69 = .ok (.ifCond .ne 20, 3) := by decide +kernel
theorem dX7_cutPanel_72 : decode cX7_cutPanel 72 = .ok (.aload_n 3, 1) := by decide +kernel
theorem dX7_cutPanel_73 : decode cX7_cutPanel 73 = .ok (.iload 5, 2) := by decide +kernel
theorem dX7_cutPanel_75 : decode cX7_cutPanel 75 = .ok (.aload_n 2, 1) := by decide +kernel
theorem dX7_cutPanel_76 : decode cX7_cutPanel 76 = .ok (.invokevirtual 82, 3) := by decide +kernel
theorem dX7_cutPanel_79 : decode cX7_cutPanel 79 = .ok (.new 40, 3) := by decide +kernel
theorem dX7_cutPanel_82 : decode cX7_cutPanel 82 = .ok (.dup, 1) := by decide +kernel
theorem dX7_cutPanel_83 : decode cX7_cutPanel 83 = .ok (.ldc 93, 2) := by decide +kernel
theorem dX7_cutPanel_85 : decode cX7_cutPanel 85 = .ok (.invokespecial 44, 3) := by decide +kernel
theorem dX7_cutPanel_88 : decode cX7_cutPanel 88 = .ok (.athrow, 1) := by decide +kernel
theorem dX7_cutPanel_89 : decode cX7_cutPanel 89 = .ok (.aload_n 3, 1) := by decide +kernel
theorem dX7_cutPanel_90 : decode cX7_cutPanel 90 = .ok (.invokevirtual 95, 3) := by decide +kernel
theorem dX7_cutPanel_93 : decode cX7_cutPanel 93 = .ok (.pop, 1) := by decide +kernel
theorem dX7_cutPanel_94 : decode cX7_cutPanel 94 = .ok (.aload_n 2, 1) := by decide +kernel
theorem dX7_cutPanel_95 : decode cX7_cutPanel 95 = .ok (.invokevirtual 130, 3) := by decide +kernel
theorem dX7_cutPanel_98 : decode cX7_cutPanel 98 = .ok (.aload_n 0, 1) := by decide +kernel
theorem dX7_cutPanel_99 : decode cX7_cutPanel 99 = .ok (.getfield 32, 3) := by decide +kernel
theorem dX7_cutPanel_102 : decode cX7_cutPanel 102 = .ok (.aload_n 2, 1) := by decide +kernel
theorem dX7_cutPanel_103 : decode cX7_cutPanel 103 = .ok (.aload 4, 2) := by decide +kernel
theorem dX7_cutPanel_105 : decode cX7_cutPanel 105 = .ok (.invokevirtual 133, 3) := by decide +kernel
theorem dX7_cutPanel_108 : decode cX7_cutPanel 108 = .ok (.aload_n 2, 1) := by decide +kernel
theorem dX7_cutPanel_109 : decode cX7_cutPanel 109 = .ok (.getfield 137, 3) := by decide +kernel
theorem dX7_cutPanel_112 : decode cX7_cutPanel 112 = .ok (.invokevirtual 36, 3) := by decide +kernel
theorem dX7_cutPanel_115 : decode cX7_cutPanel 115 = .ok (.ireturn, 1) := by decide +kernel
theorem dX7_depth_0 : decode cX7_depth 0 = .ok (.aload_n 0, 1) := by decide +kernel
theorem dX7_depth_1 : decode cX7_depth 1 = .ok (.iload_n 1, 1) := by decide +kernel
theorem dX7_depth_2 : decode cX7_depth 2 = .ok (.invokevirtual 171, 3) := by decide +kernel
theorem dX7_depth_5 : decode cX7_depth 5 = .ok (.astore_n 2, 1) := by decide +kernel
theorem dX7_depth_6 : decode cX7_depth 6 = .ok (.iconst 0, 1) := by decide +kernel
theorem dX7_depth_7 : decode cX7_depth 7 = .ok (.istore_n 3, 1) := by decide +kernel
theorem dX7_depth_8 : decode cX7_depth 8 = .ok (.aload_n 2, 1) := by decide +kernel
theorem dX7_depth_9 : decode cX7_depth 9 = .ok (.getfield 204, 3) := by decide +kernel
theorem dX7_depth_12 : decode cX7_depth 12 = .ok (.astore 4, 2) := by decide +kernel
theorem dX7_depth_14 : decode cX7_depth 14 = .ok (.aload 4, 2) := by decide +kernel
theorem dX7_depth_16 : decode cX7_depth 16 = .ok (.ifnull 22, 3) := by decide +kernel
theorem dX7_depth_19 : decode cX7_depth 19 = .ok (.iload_n 3, 1) := by decide +kernel
theorem dX7_depth_20 : decode cX7_depth 20 = .ok (.bipush 80, 2) := by decide +kernel
theorem dX7_depth_22 : decode cX7_depth 22 = .ok (.if_icmp .ge 16, 3) := by decide +kernel
theorem dX7_depth_25 : decode cX7_depth 25 = .ok (.iinc 3 1, 3) := by decide +kernel
theorem dX7_depth_28 : decode cX7_depth 28 = .ok (.aload 4, 2) := by decide +kernel
theorem dX7_depth_30 : decode cX7_depth 30 = .ok (.getfield 204, 3) := by decide +kernel
theorem dX7_depth_33 : decode cX7_depth 33 = .ok (.astore 4, 2) := by decide +kernel
theorem dX7_depth_35 : decode cX7_depth 35 = .ok (.goto (-21), 3) := by decide +kernel
theorem dX7_depth_38 : decode cX7_depth 38 = .ok (.iload_n 3, 1) := by decide +kernel
theorem dX7_depth_39 : decode cX7_depth 39 = .ok (.ireturn, 1) := by decide +kernel
theorem dX7_face_0 : decode cX7_face 0 = .ok (.aload_n 0, 1) := by decide +kernel
theorem dX7_face_1 : decode cX7_face 1 = .ok (.iload_n 1, 1) := by decide +kernel
theorem dX7_face_2 : decode cX7_face 2 = .ok (.invokevirtual 99, 3) := by decide +kernel
theorem dX7_face_5 : decode cX7_face 5 = .ok (.astore 5, 2) := by decide +kernel
theorem dX7_face_7 : decode cX7_face 7 = .ok (.iload_n 2, 1) := by decide +kernel
theorem dX7_face_8 : decode cX7_face 8 = .ok (.iconst 0, 1) := by decide +kernel
theorem dX7_face_9 : decode cX7_face 9 = .ok (.bipush 23, 2) := by decide +kernel
theorem dX7_face_11 : decode cX7_face 11 = .ok (.invokestatic 71, 3) := by decide +kernel
theorem dX7_face_14 : decode cX7_face 14 = .ok (.iload_n 3, 1) := by decide +kernel
theorem dX7_face_15 : decode cX7_face 15 = .ok (.iconst 1, 1) := by decide +kernel
theorem dX7_face_16 : decode cX7_face 16 = .ok (.bipush 24, 2) := by decide +kernel
theorem dX7_face_18 : decode cX7_face 18 = .ok (.invokestatic 71, 3) := by decide +kernel
theorem dX7_face_21 : decode cX7_face 21 = .ok (.iload 4, 2) := by decide +kernel
theorem dX7_face_23 : decode cX7_face 23 = .ok (.iconst 1, 1) := by decide +kernel
theorem dX7_face_24 : decode cX7_face 24 = .ok (.bipush 8, 2) := by decide +kernel
theorem dX7_face_26 : decode cX7_face 26 = .ok (.invokestatic 71, 3) := by decide +kernel
theorem dX7_face_29 : decode cX7_face 29 = .ok (.aload 5, 2) := by decide +kernel
theorem dX7_face_31 : decode cX7_face 31 = .ok (.getfield 138, 3) := by decide +kernel
theorem dX7_face_34 : decode cX7_face 34 = .ok (.invokevirtual 36, 3) := by decide +kernel
theorem dX7_face_37 : decode cX7_face 37 = .ok (.iconst 2, 1) := by decide +kernel
theorem dX7_face_38 : decode cX7_face 38 = .ok (.if_icmp .lt 13, 3) := by decide +kernel
theorem dX7_face_41 : decode cX7_face 41 = .ok (.new 40, 3) := by decide +kernel
theorem dX7_face_44 : decode cX7_face 44 = .ok (.dup, 1) := by decide +kernel
theorem dX7_face_45 : decode cX7_face 45 = .ok (.ldc 141, 2) := by decide +kernel
theorem dX7_face_47 : decode cX7_face 47 = .ok (.invokespecial 44, 3) := by decide +kernel
theorem dX7_face_50 : decode cX7_face 50 = .ok (.athrow, 1) := by decide +kernel
theorem dX7_face_51 : decode cX7_face 51 = .ok (.aload 5, 2) := by decide +kernel
theorem dX7_face_53 : decode cX7_face 53 = .ok (.getfield 138, 3) := by decide +kernel
theorem dX7_face_56 : decode cX7_face 56 = .ok (.new 143, 3) := by decide +kernel
theorem dX7_face_59 : decode cX7_face 59 = .ok (.dup, 1) := by decide +kernel
theorem dX7_face_60 : decode cX7_face 60 = .ok (.iload_n 2, 1) := by decide +kernel
theorem dX7_face_61 : decode cX7_face 61 = .ok (.iload_n 3, 1) := by decide +kernel
theorem dX7_face_62 : decode cX7_face 62 = .ok (.iload 4, 2) := by decide +kernel
theorem dX7_face_64 : decode cX7_face 64 = .ok (.invokespecial 145, 3) := by decide +kernel
theorem dX7_face_67 : decode cX7_face 67 = .ok (.invokevirtual 52, 3) := by decide +kernel
theorem dX7_face_70 : decode cX7_face 70 = .ok (.pop, 1) := by decide +kernel
theorem dX7_face_71 : decode cX7_face 71 = .ok (.aload_n 0, 1) := by decide +kernel
theorem dX7_face_72 : decode cX7_face 72 = .ok (.getfield 25, 3) := by decide +kernel
theorem dX7_face_75 : decode cX7_face 75 = .ok (.aload 5, 2) := by decide +kernel
theorem dX7_face_77 : decode cX7_face 77 = .ok (.getfield 103, 3) := by decide +kernel
theorem dX7_face_80 : decode cX7_face 80 = .ok (.invokevirtual 86, 3) := by decide +kernel
theorem dX7_face_83 : decode cX7_face 83 = .ok (.ifCond .ne 18, 3) := by decide +kernel
theorem dX7_face_86 : decode cX7_face 86 = .ok (.aload 5, 2) := by decide +kernel
theorem dX7_face_88 : decode cX7_face 88 = .ok (.invokevirtual 147, 3) := by decide +kernel
theorem dX7_face_91 : decode cX7_face 91 = .ok (.new 40, 3) := by decide +kernel
theorem dX7_face_94 : decode cX7_face 94 = .ok (.dup, 1) := by decide +kernel
theorem dX7_face_95 : decode cX7_face 95 = .ok (.ldc 93, 2) := by decide +kernel
theorem dX7_face_97 : decode cX7_face 97 = .ok (.invokespecial 44, 3) := by decide +kernel
theorem dX7_face_100 : decode cX7_face 100 = .ok (.athrow, 1) := by decide +kernel
theorem dX7_face_101 : decode cX7_face 101 = .ok (.aload 5, 2) := by decide +kernel
theorem dX7_face_103 : decode cX7_face 103 = .ok (.getfield 103, 3) := by decide +kernel
theorem dX7_face_106 : decode cX7_face 106 = .ok (.invokevirtual 95, 3) := by decide +kernel
theorem dX7_face_109 : decode cX7_face 109 = .ok (.pop, 1) := by decide +kernel
theorem dX7_face_110 : decode cX7_face 110 = .ok (.aload 5, 2) := by decide +kernel
theorem dX7_face_112 : decode cX7_face 112 = .ok (.getfield 150, 3) := by decide +kernel
theorem dX7_face_115 : decode cX7_face 115 = .ok (.getfield 154, 3) := by decide +kernel
theorem dX7_face_118 : decode cX7_face 118 = .ok (.ireturn, 1) := by decide +kernel
theorem dX7_floats_0 : decode cX7_floats 0 = .ok (.aload_n 0, 1) := by decide +kernel
theorem dX7_floats_1 : decode cX7_floats 1 = .ok (.iload_n 1, 1) := by decide +kernel
theorem dX7_floats_2 : decode cX7_floats 2 = .ok (.invokevirtual 171, 3) := by decide +kernel
theorem dX7_floats_5 : decode cX7_floats 5 = .ok (.astore_n 3, 1) := by decide +kernel
theorem dX7_floats_6 : decode cX7_floats 6 = .ok (.iload_n 2, 1) := by decide +kernel
theorem dX7_floats_7 : decode cX7_floats 7 = .ok (.iconst 0, 1) := by decide +kernel
theorem dX7_floats_8 : decode cX7_floats 8 = .ok (.iconst 4, 1) := by decide +kernel
theorem dX7_floats_9 : decode cX7_floats 9 = .ok (.invokestatic 71, 3) := by decide +kernel
theorem dX7_floats_12 : decode cX7_floats 12 = .ok (.iload_n 2, 1) := by decide +kernel
theorem dX7_floats_13 : decode cX7_floats 13 = .ok (.ifCond .ne 13, 3) := by decide +kernel
theorem dX7_floats_16 : decode cX7_floats 16 = .ok (.aload_n 3, 1) := by decide +kernel
theorem dX7_floats_17 : decode cX7_floats 17 = .ok (.getfield 175, 3) := by decide +kernel
theorem dX7_floats_20 : decode cX7_floats 20 = .ok (.getfield 98, 3) := by decide +kernel
theorem dX7_floats_23 : decode cX7_floats 23 = .ok (.goto 11, 3) := by decide +kernel
theorem dX7_floats_26 : decode cX7_floats 26 = .ok (.aload_n 3, 1) := by decide +kernel
theorem dX7_floats_27 : decode cX7_floats 27 = .ok (.getfield 231, 3) := by decide +kernel
theorem dX7_floats_30 : decode cX7_floats 30 = .ok (.iload_n 2, 1) := by decide +kernel
theorem dX7_floats_31 : decode cX7_floats 31 = .ok (.invokevirtual 227, 3) := by decide +kernel
theorem dX7_floats_34 : decode cX7_floats 34 = .ok (.ireturn, 1) := by decide +kernel
theorem dX7_forth_0 : decode cX7_forth 0 = .ok (.aload_n 0, 1) := by decide +kernel
theorem dX7_forth_1 : decode cX7_forth 1 = .ok (.getfield 32, 3) := by decide +kernel
