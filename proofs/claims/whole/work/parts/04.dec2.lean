theorem dX7_writeString_47 : decode cX7_writeString 47 = .ok (.iload_n 2, 1) := by decide +kernel
theorem dX7_writeString_48 : decode cX7_writeString 48 = .ok (.iload_n 1, 1) := by decide +kernel
theorem dX7_writeString_49 : decode cX7_writeString 49 = .ok (.iconst 1, 1) := by decide +kernel
theorem dX7_writeString_50 : decode cX7_writeString 50 = .ok (.isub, 1) := by decide +kernel
theorem dX7_writeString_51 : decode cX7_writeString 51 = .ok (.if_icmp .ge 31, 3) := by decide +kernel
theorem dX7_writeString_54 : decode cX7_writeString 54 = .ok (.aload_n 0, 1) := by decide +kernel
theorem dX7_writeString_55 : decode cX7_writeString 55 = .ok (.aload_n 0, 1) := by decide +kernel
theorem dX7_writeString_56 : decode cX7_writeString 56 = .ok (.getfield 10, 3) := by decide +kernel
theorem dX7_writeString_59 : decode cX7_writeString 59 = .ok (.getfield 159, 3) := by decide +kernel
theorem dX7_writeString_62 : decode cX7_writeString 62 = .ok (.getfield 163, 3) := by decide +kernel
theorem dX7_writeString_65 : decode cX7_writeString 65 = .ok (.iload_n 2, 1) := by decide +kernel
theorem dX7_writeString_66 : decode cX7_writeString 66 = .ok (.invokestatic 215, 3) := by decide +kernel
theorem dX7_writeString_69 : decode cX7_writeString 69 = .ok (.ifCond .eq 8, 3) := by decide +kernel
theorem dX7_writeString_72 : decode cX7_writeString 72 = .ok (.bipush 32, 2) := by decide +kernel
theorem dX7_writeString_74 : decode cX7_writeString 74 = .ok (.goto 5, 3) := by decide +kernel
theorem dX7_writeString_77 : decode cX7_writeString 77 = .ok (.bipush 45, 2) := by decide +kernel
theorem dX7_writeString_79 : decode cX7_writeString 79 = .ok (.invokevirtual 393, 3) := by decide +kernel
theorem dX7_writeString_82 : decode cX7_writeString 82 = .ok (.iinc 2 1, 3) := by decide +kernel
theorem dX7_writeString_85 : decode cX7_writeString 85 = .ok (.goto (-67), 3) := by decide +kernel
theorem dX7_writeString_88 : decode cX7_writeString 88 = .ok (.aload_n 0, 1) := by decide +kernel
theorem dX7_writeString_89 : decode cX7_writeString 89 = .ok (.getfield 73, 3) := by decide +kernel
theorem dX7_writeString_92 : decode cX7_writeString 92 = .ok (.ireturn, 1) := by decide +kernel
theorem dX7_writeHours_0 : decode cX7_writeHours 0 = .ok (.aload_n 0, 1) := by decide +kernel
theorem dX7_writeHours_1 : decode cX7_writeHours 1 = .ok (.iconst 0, 1) := by decide +kernel
theorem dX7_writeHours_2 : decode cX7_writeHours 2 = .ok (.putfield 73, 3) := by decide +kernel
theorem dX7_writeHours_5 : decode cX7_writeHours 5 = .ok (.aload_n 0, 1) := by decide +kernel
theorem dX7_writeHours_6 : decode cX7_writeHours 6 = .ok (.getfield 10, 3) := by decide +kernel
theorem dX7_writeHours_9 : decode cX7_writeHours 9 = .ok (.invokevirtual 147, 3) := by decide +kernel
theorem dX7_writeHours_12 : decode cX7_writeHours 12 = .ok (.istore_n 1, 1) := by decide +kernel
theorem dX7_writeHours_13 : decode cX7_writeHours 13 = .ok (.iload_n 1, 1) := by decide +kernel
theorem dX7_writeHours_14 : decode cX7_writeHours 14 = .ok (.aload_n 0, 1) := by decide +kernel
theorem dX7_writeHours_15 : decode cX7_writeHours 15 = .ok (.getfield 10, 3) := by decide +kernel
theorem dX7_writeHours_18 : decode cX7_writeHours 18 = .ok (.getfield 144, 3) := by decide +kernel
theorem dX7_writeHours_21 : decode cX7_writeHours 21 = .ok (.if_icmp .ge 83, 3) := by decide +kernel
theorem dX7_writeHours_24 : decode cX7_writeHours 24 = .ok (.aload_n 0, 1) := by decide +kernel
theorem dX7_writeHours_25 : decode cX7_writeHours 25 = .ok (.getfield 10, 3) := by decide +kernel
theorem dX7_writeHours_28 : decode cX7_writeHours 28 = .ok (.iload_n 1, 1) := by decide +kernel
theorem dX7_writeHours_29 : decode cX7_writeHours 29 = .ok (.invokevirtual 281, 3) := by decide +kernel
theorem dX7_writeHours_32 : decode cX7_writeHours 32 = .ok (.istore_n 2, 1) := by decide +kernel
theorem dX7_writeHours_33 : decode cX7_writeHours 33 = .ok (.aload_n 0, 1) := by decide +kernel
theorem dX7_writeHours_34 : decode cX7_writeHours 34 = .ok (.getfield 73, 3) := by decide +kernel
theorem dX7_writeHours_37 : decode cX7_writeHours 37 = .ok (.ifCond .le 9, 3) := by decide +kernel
theorem dX7_writeHours_40 : decode cX7_writeHours 40 = .ok (.aload_n 0, 1) := by decide +kernel
theorem dX7_writeHours_41 : decode cX7_writeHours 41 = .ok (.bipush 32, 2) := by decide +kernel
theorem dX7_writeHours_43 : decode cX7_writeHours 43 = .ok (.invokevirtual 393, 3) := by decide +kernel
theorem dX7_writeHours_46 : decode cX7_writeHours 46 = .ok (.aload_n 0, 1) := by decide +kernel
theorem dX7_writeHours_47 : decode cX7_writeHours 47 = .ok (.iload_n 1, 1) := by decide +kernel
theorem dX7_writeHours_48 : decode cX7_writeHours 48 = .ok (.invokevirtual 386, 3) := by decide +kernel
theorem dX7_writeHours_51 : decode cX7_writeHours 51 = .ok (.aload_n 0, 1) := by decide +kernel
theorem dX7_writeHours_52 : decode cX7_writeHours 52 = .ok (.getfield 10, 3) := by decide +kernel
theorem dX7_writeHours_55 : decode cX7_writeHours 55 = .ok (.getfield 237, 3) := by decide +kernel
theorem dX7_writeHours_58 : decode cX7_writeHours 58 = .ok (.getfield 249, 3) := by decide +kernel
theorem dX7_writeHours_61 : decode cX7_writeHours 61 = .ok (.iload_n 2, 1) := by decide +kernel
theorem dX7_writeHours_62 : decode cX7_writeHours 62 = .ok (.iaload, 1) := by decide +kernel
theorem dX7_writeHours_63 : decode cX7_writeHours 63 = .ok (.iconst 1, 1) := by decide +kernel
theorem dX7_writeHours_64 : decode cX7_writeHours 64 = .ok (.if_icmp .ne 28, 3) := by decide +kernel
theorem dX7_writeHours_67 : decode cX7_writeHours 67 = .ok (.aload_n 0, 1) := by decide +kernel
theorem dX7_writeHours_68 : decode cX7_writeHours 68 = .ok (.bipush 61, 2) := by decide +kernel
theorem dX7_writeHours_70 : decode cX7_writeHours 70 = .ok (.invokevirtual 393, 3) := by decide +kernel
theorem dX7_writeHours_73 : decode cX7_writeHours 73 = .ok (.aload_n 0, 1) := by decide +kernel
theorem dX7_writeHours_74 : decode cX7_writeHours 74 = .ok (.aload_n 0, 1) := by decide +kernel
theorem dX7_writeHours_75 : decode cX7_writeHours 75 = .ok (.getfield 10, 3) := by decide +kernel
theorem dX7_writeHours_78 : decode cX7_writeHours 78 = .ok (.getfield 237, 3) := by decide +kernel
theorem dX7_writeHours_81 : decode cX7_writeHours 81 = .ok (.getfield 262, 3) := by decide +kernel
theorem dX7_writeHours_84 : decode cX7_writeHours 84 = .ok (.iload_n 2, 1) := by decide +kernel
theorem dX7_writeHours_85 : decode cX7_writeHours 85 = .ok (.iaload, 1) := by decide +kernel
theorem dX7_writeHours_86 : decode cX7_writeHours 86 = .ok (.invokevirtual 386, 3) := by decide +kernel
theorem dX7_writeHours_89 : decode cX7_writeHours 89 = .ok (.goto 9, 3) := by decide +kernel
theorem dX7_writeHours_92 : decode cX7_writeHours 92 = .ok (.aload_n 0, 1) := by decide +kernel
theorem dX7_writeHours_93 : decode cX7_writeHours 93 = .ok (.bipush 63, 2) := by decide +kernel
theorem dX7_writeHours_95 : decode cX7_writeHours 95 = .ok (.invokevirtual 393, 3) := by decide +kernel
theorem dX7_writeHours_98 : decode cX7_writeHours 98 = .ok (.iinc 1 1, 3) := by decide +kernel
theorem dX7_writeHours_101 : decode cX7_writeHours 101 = .ok (.goto (-88), 3) := by decide +kernel
theorem dX7_writeHours_104 : decode cX7_writeHours 104 = .ok (.aload_n 0, 1) := by decide +kernel
theorem dX7_writeHours_105 : decode cX7_writeHours 105 = .ok (.getfield 73, 3) := by decide +kernel
theorem dX7_writeHours_108 : decode cX7_writeHours 108 = .ok (.ireturn, 1) := by decide +kernel
theorem dX7_output_0 : decode cX7_output 0 = .ok (.iload_n 1, 1) := by decide +kernel
theorem dX7_output_1 : decode cX7_output 1 = .ok (.ifCond .lt 11, 3) := by decide +kernel
theorem dX7_output_4 : decode cX7_output 4 = .ok (.iload_n 1, 1) := by decide +kernel
theorem dX7_output_5 : decode cX7_output 5 = .ok (.aload_n 0, 1) := by decide +kernel
theorem dX7_output_6 : decode cX7_output 6 = .ok (.getfield 73, 3) := by decide +kernel
theorem dX7_output_9 : decode cX7_output 9 = .ok (.if_icmp .lt 14, 3) := by decide +kernel
theorem dX7_output_12 : decode cX7_output 12 = .ok (.new 396, 3) := by decide +kernel
theorem dX7_output_15 : decode cX7_output 15 = .ok (.dup, 1) := by decide +kernel
theorem dX7_output_16 : decode cX7_output 16 = .ok (.ldc_w 398, 3) := by decide +kernel
theorem dX7_output_19 : decode cX7_output 19 = .ok (.invokespecial 400, 3) := by decide +kernel
theorem dX7_output_22 : decode cX7_output 22 = .ok (.athrow, 1) := by decide +kernel
theorem dX7_output_23 : decode cX7_output 23 = .ok (.aload_n 0, 1) := by decide +kernel
theorem dX7_output_24 : decode cX7_output 24 = .ok (.getfield 70, 3) := by decide +kernel
theorem dX7_output_27 : decode cX7_output 27 = .ok (.iload_n 1, 1) := by decide +kernel
theorem dX7_output_28 : decode cX7_output 28 = .ok (.iaload, 1) := by decide +kernel
theorem dX7_output_29 : decode cX7_output 29 = .ok (.ireturn, 1) := by decide +kernel
theorem dX7_undo_0 : decode cX7_undo 0 = .ok (.aload_n 0, 1) := by decide +kernel
theorem dX7_undo_1 : decode cX7_undo 1 = .ok (.getfield 23, 3) := by decide +kernel
theorem dX7_undo_4 : decode cX7_undo 4 = .ok (.ifCond .ne 14, 3) := by decide +kernel
theorem dX7_undo_7 : decode cX7_undo 7 = .ok (.new 105, 3) := by decide +kernel
theorem dX7_undo_10 : decode cX7_undo 10 = .ok (.dup, 1) := by decide +kernel
theorem dX7_undo_11 : decode cX7_undo 11 = .ok (.ldc_w 401, 3) := by decide +kernel
theorem dX7_undo_14 : decode cX7_undo 14 = .ok (.invokespecial 109, 3) := by decide +kernel
theorem dX7_undo_17 : decode cX7_undo 17 = .ok (.athrow, 1) := by decide +kernel
theorem dX7_undo_18 : decode cX7_undo 18 = .ok (.aload_n 0, 1) := by decide +kernel
theorem dX7_undo_19 : decode cX7_undo 19 = .ok (.aload_n 0, 1) := by decide +kernel
theorem dX7_undo_20 : decode cX7_undo 20 = .ok (.getfield 27, 3) := by decide +kernel
theorem dX7_undo_23 : decode cX7_undo 23 = .ok (.iconst 1, 1) := by decide +kernel
theorem dX7_undo_24 : decode cX7_undo 24 = .ok (.isub, 1) := by decide +kernel
theorem dX7_undo_25 : decode cX7_undo 25 = .ok (.bipush 8, 2) := by decide +kernel
theorem dX7_undo_27 : decode cX7_undo 27 = .ok (.invokestatic 403, 3) := by decide +kernel
theorem dX7_undo_30 : decode cX7_undo 30 = .ok (.putfield 27, 3) := by decide +kernel
theorem dX7_undo_33 : decode cX7_undo 33 = .ok (.aload_n 0, 1) := by decide +kernel
theorem dX7_undo_34 : decode cX7_undo 34 = .ok (.dup, 1) := by decide +kernel
theorem dX7_undo_35 : decode cX7_undo 35 = .ok (.getfield 23, 3) := by decide +kernel
theorem dX7_undo_38 : decode cX7_undo 38 = .ok (.iconst 1, 1) := by decide +kernel
theorem dX7_undo_39 : decode cX7_undo 39 = .ok (.isub, 1) := by decide +kernel
theorem dX7_undo_40 : decode cX7_undo 40 = .ok (.putfield 23, 3) := by decide +kernel
theorem dX7_undo_43 : decode cX7_undo 43 = .ok (.aload_n 0, 1) := by decide +kernel
theorem dX7_undo_44 : decode cX7_undo 44 = .ok (.getfield 10, 3) := by decide +kernel
theorem dX7_undo_47 : decode cX7_undo 47 = .ok (.aload_n 0, 1) := by decide +kernel
theorem dX7_undo_48 : decode cX7_undo 48 = .ok (.getfield 19, 3) := by decide +kernel
theorem dX7_undo_51 : decode cX7_undo 51 = .ok (.aload_n 0, 1) := by decide +kernel
theorem dX7_undo_52 : decode cX7_undo 52 = .ok (.getfield 27, 3) := by decide +kernel
theorem dX7_undo_55 : decode cX7_undo 55 = .ok (.aaload, 1) := by decide +kernel
theorem dX7_undo_56 : decode cX7_undo 56 = .ok (.invokevirtual 129, 3) := by decide +kernel
theorem dX7_undo_59 : decode cX7_undo 59 = .ok (.aload_n 0, 1) := by decide +kernel
theorem dX7_undo_60 : decode cX7_undo 60 = .ok (.getfield 23, 3) := by decide +kernel
theorem dX7_undo_63 : decode cX7_undo 63 = .ok (.ireturn, 1) := by decide +kernel
theorem dX7_save_0 : decode cX7_save 0 = .ok (.aload_n 0, 1) := by decide +kernel
theorem dX7_save_1 : decode cX7_save 1 = .ok (.iload_n 1, 1) := by decide +kernel
theorem dX7_save_2 : decode cX7_save 2 = .ok (.invokevirtual 408, 3) := by decide +kernel
theorem dX7_save_5 : decode cX7_save 5 = .ok (.aload_n 0, 1) := by decide +kernel
theorem dX7_save_6 : decode cX7_save 6 = .ok (.getfield 30, 3) := by decide +kernel
theorem dX7_save_9 : decode cX7_save 9 = .ok (.iload_n 1, 1) := by decide +kernel
theorem dX7_save_10 : decode cX7_save 10 = .ok (.aaload, 1) := by decide +kernel
theorem dX7_save_11 : decode cX7_save 11 = .ok (.aload_n 0, 1) := by decide +kernel
theorem dX7_save_12 : decode cX7_save 12 = .ok (.getfield 10, 3) := by decide +kernel
theorem dX7_save_15 : decode cX7_save 15 = .ok (.invokevirtual 129, 3) := by decide +kernel
theorem dX7_save_18 : decode cX7_save 18 = .ok (.aload_n 0, 1) := by decide +kernel
theorem dX7_save_19 : decode cX7_save 19 = .ok (.dup, 1) := by decide +kernel
theorem dX7_save_20 : decode cX7_save 20 = .ok (.getfield 33, 3) := by decide +kernel
theorem dX7_save_23 : decode cX7_save 23 = .ok (.iconst 1, 1) := by decide +kernel
theorem dX7_save_24 : decode cX7_save 24 = .ok (.iload_n 1, 1) := by decide +kernel
theorem dX7_save_25 : decode cX7_save 25 = .ok (.ishl, 1) := by decide +kernel
theorem dX7_save_26 : decode cX7_save 26 = .ok (.ior, 1) := by decide +kernel
theorem dX7_save_27 : decode cX7_save 27 = .ok (.putfield 33, 3) := by decide +kernel
theorem dX7_save_30 : decode cX7_save 30 = .ok (.aload_n 0, 1) := by decide +kernel
theorem dX7_save_31 : decode cX7_save 31 = .ok (.getfield 10, 3) := by decide +kernel
theorem dX7_save_34 : decode cX7_save 34 = .ok (.getfield 144, 3) := by decide +kernel
theorem dX7_save_37 : decode cX7_save 37 = .ok (.ireturn, 1) := by decide +kernel
theorem dX7_restore_0 : decode cX7_restore 0 = .ok (.aload_n 0, 1) := by decide +kernel
theorem dX7_restore_1 : decode cX7_restore 1 = .ok (.iload_n 1, 1) := by decide +kernel
theorem dX7_restore_2 : decode cX7_restore 2 = .ok (.invokevirtual 408, 3) := by decide +kernel
theorem dX7_restore_5 : decode cX7_restore 5 = .ok (.aload_n 0, 1) := by decide +kernel
theorem dX7_restore_6 : decode cX7_restore 6 = .ok (.getfield 33, 3) := by decide +kernel
theorem dX7_restore_9 : decode cX7_restore 9 = .ok (.iload_n 1, 1) := by decide +kernel
theorem dX7_restore_10 : decode cX7_restore 10 = .ok (.invokestatic 215, 3) := by decide +kernel
theorem dX7_restore_13 : decode cX7_restore 13 = .ok (.ifCond .ne 14, 3) := by decide +kernel
theorem dX7_restore_16 : decode cX7_restore 16 = .ok (.new 105, 3) := by decide +kernel
theorem dX7_restore_19 : decode cX7_restore 19 = .ok (.dup, 1) := by decide +kernel
theorem dX7_restore_20 : decode cX7_restore 20 = .ok (.ldc_w 411, 3) := by decide +kernel
theorem dX7_restore_23 : decode cX7_restore 23 = .ok (.invokespecial 109, 3) := by decide +kernel
theorem dX7_restore_26 : decode cX7_restore 26 = .ok (.athrow, 1) := by decide +kernel
theorem dX7_restore_27 : decode cX7_restore 27 = .ok (.aload_n 0, 1) := by decide +kernel
theorem dX7_restore_28 : decode cX7_restore 28 = .ok (.getfield 10, 3) := by decide +kernel
theorem dX7_restore_31 : decode cX7_restore 31 = .ok (.aload_n 0, 1) := by decide +kernel
theorem dX7_restore_32 : decode cX7_restore 32 = .ok (.getfield 30, 3) := by decide +kernel
theorem dX7_restore_35 : decode cX7_restore 35 = .ok (.iload_n 1, 1) := by decide +kernel
theorem dX7_restore_36 : decode cX7_restore 36 = .ok (.aaload, 1) := by decide +kernel
theorem dX7_restore_37 : decode cX7_restore 37 = .ok (.invokevirtual 129, 3) := by decide +kernel
theorem dX7_restore_40 : decode cX7_restore 40 = .ok (.aload_n 0, 1) := by decide +kernel
theorem dX7_restore_41 : decode cX7_restore 41 = .ok (.iconst 0, 1) := by decide +kernel
theorem dX7_restore_42 : decode cX7_restore 42 = .ok (.putfield 23, 3) := by decide +kernel
theorem dX7_restore_45 : decode cX7_restore 45 = .ok (.aload_n 0, 1) := by decide +kernel
theorem dX7_restore_46 : decode cX7_restore 46 = .ok (.getfield 10, 3) := by decide +kernel
theorem dX7_restore_49 : decode cX7_restore 49 = .ok (.getfield 88, 3) := by decide +kernel
theorem dX7_restore_52 : decode cX7_restore 52 = .ok (.getfield 133, 3) := by decide +kernel
theorem dX7_restore_55 : decode cX7_restore 55 = .ok (.ireturn, 1) := by decide +kernel
theorem dX7_has_0 : decode cX7_has 0 = .ok (.iload_n 0, 1) := by decide +kernel
theorem dX7_has_1 : decode cX7_has 1 = .ok (.iload_n 1, 1) := by decide +kernel
theorem dX7_has_2 : decode cX7_has 2 = .ok (.ishr, 1) := by decide +kernel
theorem dX7_has_3 : decode cX7_has 3 = .ok (.iconst 1, 1) := by decide +kernel
theorem dX7_has_4 : decode cX7_has 4 = .ok (.iand, 1) := by decide +kernel
theorem dX7_has_5 : decode cX7_has 5 = .ok (.iconst 1, 1) := by decide +kernel
theorem dX7_has_6 : decode cX7_has 6 = .ok (.if_icmp .ne 7, 3) := by decide +kernel
theorem dX7_has_9 : decode cX7_has 9 = .ok (.iconst 1, 1) := by decide +kernel
theorem dX7_has_10 : decode cX7_has 10 = .ok (.goto 4, 3) := by decide +kernel
theorem dX7_has_13 : decode cX7_has 13 = .ok (.iconst 0, 1) := by decide +kernel
theorem dX7_has_14 : decode cX7_has 14 = .ok (.ireturn, 1) := by decide +kernel
theorem dX7_checkBuoy_0 : decode cX7_checkBuoy 0 = .ok (.iload_n 1, 1) := by decide +kernel
theorem dX7_checkBuoy_1 : decode cX7_checkBuoy 1 = .ok (.ifCond .lt 17, 3) := by decide +kernel
theorem dX7_checkBuoy_4 : decode cX7_checkBuoy 4 = .ok (.iload_n 1, 1) := by decide +kernel
theorem dX7_checkBuoy_5 : decode cX7_checkBuoy 5 = .ok (.aload_n 0, 1) := by decide +kernel
theorem dX7_checkBuoy_6 : decode cX7_checkBuoy 6 = .ok (.getfield 10, 3) := by decide +kernel
theorem dX7_checkBuoy_9 : decode cX7_checkBuoy 9 = .ok (.getfield 88, 3) := by decide +kernel
theorem dX7_checkBuoy_12 : decode cX7_checkBuoy 12 = .ok (.getfield 133, 3) := by decide +kernel
theorem dX7_checkBuoy_15 : decode cX7_checkBuoy 15 = .ok (.if_icmp .lt 14, 3) := by decide +kernel
theorem dX7_checkBuoy_18 : decode cX7_checkBuoy 18 = .ok (.new 396, 3) := by decide +kernel
theorem dX7_checkBuoy_21 : decode cX7_checkBuoy 21 = .ok (.dup, 1) := by decide +kernel
theorem dX7_checkBuoy_22 : decode cX7_checkBuoy 22 = .ok (.ldc_w 413, 3) := by decide +kernel
theorem dX7_checkBuoy_25 : decode cX7_checkBuoy 25 = .ok (.invokespecial 400, 3) := by decide +kernel
theorem dX7_checkBuoy_28 : decode cX7_checkBuoy 28 = .ok (.athrow, 1) := by decide +kernel
theorem dX7_checkBuoy_29 : decode cX7_checkBuoy 29 = .ok (.return_, 1) := by decide +kernel
theorem dX7_checkRope_0 : decode cX7_checkRope 0 = .ok (.iload_n 1, 1) := by decide +kernel
theorem dX7_checkRope_1 : decode cX7_checkRope 1 = .ok (.ifCond .lt 19, 3) := by decide +kernel
theorem dX7_checkRope_4 : decode cX7_checkRope 4 = .ok (.iload_n 1, 1) := by decide +kernel
theorem dX7_checkRope_5 : decode cX7_checkRope 5 = .ok (.aload_n 0, 1) := by decide +kernel
theorem dX7_checkRope_6 : decode cX7_checkRope 6 = .ok (.getfield 10, 3) := by decide +kernel
theorem dX7_checkRope_9 : decode cX7_checkRope 9 = .ok (.getfield 88, 3) := by decide +kernel
theorem dX7_checkRope_12 : decode cX7_checkRope 12 = .ok (.getfield 133, 3) := by decide +kernel
theorem dX7_checkRope_15 : decode cX7_checkRope 15 = .ok (.iconst 1, 1) := by decide +kernel
theorem dX7_checkRope_16 : decode cX7_checkRope 16 = .ok (.isub, 1) := by decide +kernel
theorem dX7_checkRope_17 : decode cX7_checkRope 17 = .ok (.if_icmp .lt 14, 3) := by decide +kernel
theorem dX7_checkRope_20 : decode cX7_checkRope 20 = .ok (.new 396, 3) := by decide +kernel
theorem dX7_checkRope_23 : decode cX7_checkRope 23 = .ok (.dup, 1) := by decide +kernel
theorem dX7_checkRope_24 : decode cX7_checkRope 24 = .ok (.ldc_w 415, 3) := by decide +kernel
theorem dX7_checkRope_27 : decode cX7_checkRope 27 = .ok (.invokespecial 400, 3) := by decide +kernel
theorem dX7_checkRope_30 : decode cX7_checkRope 30 = .ok (.athrow, 1) := by decide +kernel
theorem dX7_checkRope_31 : decode cX7_checkRope 31 = .ok (.return_, 1) := by decide +kernel
theorem dX7_checkSlot_0 : decode cX7_checkSlot 0 = .ok (.iload_n 1, 1) := by decide +kernel
theorem dX7_checkSlot_1 : decode cX7_checkSlot 1 = .ok (.ifCond .lt 8, 3) := by decide +kernel
theorem dX7_checkSlot_4 : decode cX7_checkSlot 4 = .ok (.iload_n 1, 1) := by decide +kernel
theorem dX7_checkSlot_5 : decode cX7_checkSlot 5 = .ok (.iconst 2, 1) := by decide +kernel
theorem dX7_checkSlot_6 : decode cX7_checkSlot 6 = .ok (.if_icmp .lt 14, 3) := by decide +kernel
theorem dX7_checkSlot_9 : decode cX7_checkSlot 9 = .ok (.new 396, 3) := by decide +kernel
theorem dX7_checkSlot_12 : decode cX7_checkSlot 12 = .ok (.dup, 1) := by decide +kernel
theorem dX7_checkSlot_13 : decode cX7_checkSlot 13 = .ok (.ldc_w 417, 3) := by decide +kernel
theorem dX7_checkSlot_16 : decode cX7_checkSlot 16 = .ok (.invokespecial 400, 3) := by decide +kernel
theorem dX7_checkSlot_19 : decode cX7_checkSlot 19 = .ok (.athrow, 1) := by decide +kernel
theorem dX7_checkSlot_20 : decode cX7_checkSlot 20 = .ok (.return_, 1) := by decide +kernel
theorem dX7_checkForce_0 : decode cX7_checkForce 0 = .ok (.iload_n 1, 1) := by decide +kernel
theorem dX7_checkForce_1 : decode cX7_checkForce 1 = .ok (.iconst 1, 1) := by decide +kernel
theorem dX7_checkForce_2 : decode cX7_checkForce 2 = .ok (.if_icmp .lt 9, 3) := by decide +kernel
theorem dX7_checkForce_5 : decode cX7_checkForce 5 = .ok (.iload_n 1, 1) := by decide +kernel
theorem dX7_checkForce_6 : decode cX7_checkForce 6 = .ok (.bipush 99, 2) := by decide +kernel
theorem dX7_checkForce_8 : decode cX7_checkForce 8 = .ok (.if_icmp .le 14, 3) := by decide +kernel
theorem dX7_checkForce_11 : decode cX7_checkForce 11 = .ok (.new 180, 3) := by decide +kernel
theorem dX7_checkForce_14 : decode cX7_checkForce 14 = .ok (.dup, 1) := by decide +kernel
theorem dX7_checkForce_15 : decode cX7_checkForce 15 = .ok (.ldc_w 419, 3) := by decide +kernel
theorem dX7_checkForce_18 : decode cX7_checkForce 18 = .ok (.invokespecial 184, 3) := by decide +kernel
theorem dX7_checkForce_21 : decode cX7_checkForce 21 = .ok (.athrow, 1) := by decide +kernel
theorem dX7_checkForce_22 : decode cX7_checkForce 22 = .ok (.return_, 1) := by decide +kernel
theorem dX7_checkStorm_0 : decode cX7_checkStorm 0 = .ok (.aload_n 0, 1) := by decide +kernel
theorem dX7_checkStorm_1 : decode cX7_checkStorm 1 = .ok (.iload_n 2, 1) := by decide +kernel
theorem dX7_checkStorm_2 : decode cX7_checkStorm 2 = .ok (.invokevirtual 185, 3) := by decide +kernel
theorem dX7_checkStorm_5 : decode cX7_checkStorm 5 = .ok (.aload_n 0, 1) := by decide +kernel
theorem dX7_checkStorm_6 : decode cX7_checkStorm 6 = .ok (.iload_n 3, 1) := by decide +kernel
theorem dX7_checkStorm_7 : decode cX7_checkStorm 7 = .ok (.invokevirtual 185, 3) := by decide +kernel
theorem dX7_checkStorm_10 : decode cX7_checkStorm 10 = .ok (.aload_n 0, 1) := by decide +kernel
theorem dX7_checkStorm_11 : decode cX7_checkStorm 11 = .ok (.iload_n 1, 1) := by decide +kernel
theorem dX7_checkStorm_12 : decode cX7_checkStorm 12 = .ok (.invokevirtual 322, 3) := by decide +kernel
theorem dX7_checkStorm_15 : decode cX7_checkStorm 15 = .ok (.iload_n 3, 1) := by decide +kernel
theorem dX7_checkStorm_16 : decode cX7_checkStorm 16 = .ok (.iload_n 2, 1) := by decide +kernel
theorem dX7_checkStorm_17 : decode cX7_checkStorm 17 = .ok (.if_icmp .ge 14, 3) := by decide +kernel
theorem dX7_checkStorm_20 : decode cX7_checkStorm 20 = .ok (.new 180, 3) := by decide +kernel
theorem dX7_checkStorm_23 : decode cX7_checkStorm 23 = .ok (.dup, 1) := by decide +kernel
theorem dX7_checkStorm_24 : decode cX7_checkStorm 24 = .ok (.ldc_w 421, 3) := by decide +kernel
theorem dX7_checkStorm_27 : decode cX7_checkStorm 27 = .ok (.invokespecial 184, 3) := by decide +kernel
theorem dX7_checkStorm_30 : decode cX7_checkStorm 30 = .ok (.athrow, 1) := by decide +kernel
theorem dX7_checkStorm_31 : decode cX7_checkStorm 31 = .ok (.return_, 1) := by decide +kernel
theorem dX7_rowOfKept_0 : decode cX7_rowOfKept 0 = .ok (.iload_n 1, 1) := by decide +kernel
theorem dX7_rowOfKept_1 : decode cX7_rowOfKept 1 = .ok (.aload_n 0, 1) := by decide +kernel
theorem dX7_rowOfKept_2 : decode cX7_rowOfKept 2 = .ok (.getfield 10, 3) := by decide +kernel
theorem dX7_rowOfKept_5 : decode cX7_rowOfKept 5 = .ok (.invokevirtual 147, 3) := by decide +kernel
theorem dX7_rowOfKept_8 : decode cX7_rowOfKept 8 = .ok (.if_icmp .lt 14, 3) := by decide +kernel
theorem dX7_rowOfKept_11 : decode cX7_rowOfKept 11 = .ok (.iload_n 1, 1) := by decide +kernel
theorem dX7_rowOfKept_12 : decode cX7_rowOfKept 12 = .ok (.aload_n 0, 1) := by decide +kernel
theorem dX7_rowOfKept_13 : decode cX7_rowOfKept 13 = .ok (.getfield 10, 3) := by decide +kernel
theorem dX7_rowOfKept_16 : decode cX7_rowOfKept 16 = .ok (.getfield 144, 3) := by decide +kernel
theorem dX7_rowOfKept_19 : decode cX7_rowOfKept 19 = .ok (.if_icmp .lt 14, 3) := by decide +kernel
theorem dX7_rowOfKept_22 : decode cX7_rowOfKept 22 = .ok (.new 396, 3) := by decide +kernel
theorem dX7_rowOfKept_25 : decode cX7_rowOfKept 25 = .ok (.dup, 1) := by decide +kernel
theorem dX7_rowOfKept_26 : decode cX7_rowOfKept 26 = .ok (.ldc_w 423, 3) := by decide +kernel
theorem dX7_rowOfKept_29 : decode cX7_rowOfKept 29 = .ok (.invokespecial 400, 3) := by decide +kernel
theorem dX7_rowOfKept_32 : decode cX7_rowOfKept 32 = .ok (.athrow, 1) := by decide +kernel
theorem dX7_rowOfKept_33 : decode cX7_rowOfKept 33 = .ok (.aload_n 0, 1) := by decide +kernel
theorem dX7_rowOfKept_34 : decode cX7_rowOfKept 34 = .ok (.getfield 10, 3) := by decide +kernel
theorem dX7_rowOfKept_37 : decode cX7_rowOfKept 37 = .ok (.iload_n 1, 1) := by decide +kernel
theorem dX7_rowOfKept_38 : decode cX7_rowOfKept 38 = .ok (.invokevirtual 281, 3) := by decide +kernel
theorem dX7_rowOfKept_41 : decode cX7_rowOfKept 41 = .ok (.ireturn, 1) := by decide +kernel
theorem dX7_rowWithLevelAhead_0 : decode cX7_rowWithLevelAhead 0 = .ok (.iload_n 1, 1) := by decide +kernel
theorem dX7_rowWithLevelAhead_1 : decode cX7_rowWithLevelAhead 1 = .ok (.iconst 1, 1) := by decide +kernel
theorem dX7_rowWithLevelAhead_2 : decode cX7_rowWithLevelAhead 2 = .ok (.isub, 1) := by decide +kernel
theorem dX7_rowWithLevelAhead_3 : decode cX7_rowWithLevelAhead 3 = .ok (.istore_n 2, 1) := by decide +kernel
theorem dX7_rowWithLevelAhead_4 : decode cX7_rowWithLevelAhead 4 = .ok (.iload_n 2, 1) := by decide +kernel
theorem dX7_rowWithLevelAhead_5 : decode cX7_rowWithLevelAhead 5 = .ok (.aload_n 0, 1) := by decide +kernel
theorem dX7_rowWithLevelAhead_6 : decode cX7_rowWithLevelAhead 6 = .ok (.getfield 10, 3) := by decide +kernel
theorem dX7_rowWithLevelAhead_9 : decode cX7_rowWithLevelAhead 9 = .ok (.invokevirtual 147, 3) := by decide +kernel
theorem dX7_rowWithLevelAhead_12 : decode cX7_rowWithLevelAhead 12 = .ok (.if_icmp .lt 36, 3) := by decide +kernel
theorem dX7_rowWithLevelAhead_15 : decode cX7_rowWithLevelAhead 15 = .ok (.aload_n 0, 1) := by decide +kernel
theorem dX7_rowWithLevelAhead_16 : decode cX7_rowWithLevelAhead 16 = .ok (.getfield 10, 3) := by decide +kernel
theorem dX7_rowWithLevelAhead_19 : decode cX7_rowWithLevelAhead 19 = .ok (.iload_n 2, 1) := by decide +kernel
theorem dX7_rowWithLevelAhead_20 : decode cX7_rowWithLevelAhead 20 = .ok (.invokevirtual 281, 3) := by decide +kernel
theorem dX7_rowWithLevelAhead_23 : decode cX7_rowWithLevelAhead 23 = .ok (.istore_n 3, 1) := by decide +kernel
theorem dX7_rowWithLevelAhead_24 : decode cX7_rowWithLevelAhead 24 = .ok (.aload_n 0, 1) := by decide +kernel
theorem dX7_rowWithLevelAhead_25 : decode cX7_rowWithLevelAhead 25 = .ok (.getfield 10, 3) := by decide +kernel
theorem dX7_rowWithLevelAhead_28 : decode cX7_rowWithLevelAhead 28 = .ok (.getfield 237, 3) := by decide +kernel
theorem dX7_rowWithLevelAhead_31 : decode cX7_rowWithLevelAhead 31 = .ok (.getfield 249, 3) := by decide +kernel
theorem dX7_rowWithLevelAhead_34 : decode cX7_rowWithLevelAhead 34 = .ok (.iload_n 3, 1) := by decide +kernel
theorem dX7_rowWithLevelAhead_35 : decode cX7_rowWithLevelAhead 35 = .ok (.iaload, 1) := by decide +kernel
theorem dX7_rowWithLevelAhead_36 : decode cX7_rowWithLevelAhead 36 = .ok (.iconst 1, 1) := by decide +kernel
theorem dX7_rowWithLevelAhead_37 : decode cX7_rowWithLevelAhead 37 = .ok (.if_icmp .ne 5, 3) := by decide +kernel
theorem dX7_rowWithLevelAhead_40 : decode cX7_rowWithLevelAhead 40 = .ok (.iload_n 3, 1) := by decide +kernel
theorem dX7_rowWithLevelAhead_41 : decode cX7_rowWithLevelAhead 41 = .ok (.ireturn, 1) := by decide +kernel
theorem dX7_rowWithLevelAhead_42 : decode cX7_rowWithLevelAhead 42 = .ok (.iinc 2 (-1), 3) := by decide +kernel
theorem dX7_rowWithLevelAhead_45 : decode cX7_rowWithLevelAhead 45 = .ok (.goto (-41), 3) := by decide +kernel
theorem dX7_rowWithLevelAhead_48 : decode cX7_rowWithLevelAhead 48 = .ok (.iconst (-1), 1) := by decide +kernel
theorem dX7_rowWithLevelAhead_49 : decode cX7_rowWithLevelAhead 49 = .ok (.ireturn, 1) := by decide +kernel
theorem dX7_hoursWithLevel_0 : decode cX7_hoursWithLevel 0 = .ok (.iconst 0, 1) := by decide +kernel
theorem dX7_hoursWithLevel_1 : decode cX7_hoursWithLevel 1 = .ok (.istore_n 1, 1) := by decide +kernel
theorem dX7_hoursWithLevel_2 : decode cX7_hoursWithLevel 2 = .ok (.aload_n 0, 1) := by decide +kernel
theorem dX7_hoursWithLevel_3 : decode cX7_hoursWithLevel 3 = .ok (.getfield 10, 3) := by decide +kernel
theorem dX7_hoursWithLevel_6 : decode cX7_hoursWithLevel 6 = .ok (.invokevirtual 147, 3) := by decide +kernel
theorem dX7_hoursWithLevel_9 : decode cX7_hoursWithLevel 9 = .ok (.istore_n 2, 1) := by decide +kernel
theorem dX7_hoursWithLevel_10 : decode cX7_hoursWithLevel 10 = .ok (.iload_n 2, 1) := by decide +kernel
theorem dX7_hoursWithLevel_11 : decode cX7_hoursWithLevel 11 = .ok (.aload_n 0, 1) := by decide +kernel
theorem dX7_hoursWithLevel_12 : decode cX7_hoursWithLevel 12 = .ok (.getfield 10, 3) := by decide +kernel
theorem dX7_hoursWithLevel_15 : decode cX7_hoursWithLevel 15 = .ok (.getfield 144, 3) := by decide +kernel
theorem dX7_hoursWithLevel_18 : decode cX7_hoursWithLevel 18 = .ok (.if_icmp .ge 31, 3) := by decide +kernel
theorem dX7_hoursWithLevel_21 : decode cX7_hoursWithLevel 21 = .ok (.iload_n 1, 1) := by decide +kernel
theorem dX7_hoursWithLevel_22 : decode cX7_hoursWithLevel 22 = .ok (.aload_n 0, 1) := by decide +kernel
theorem dX7_hoursWithLevel_23 : decode cX7_hoursWithLevel 23 = .ok (.getfield 10, 3) := by decide +kernel
theorem dX7_hoursWithLevel_26 : decode cX7_hoursWithLevel 26 = .ok (.getfield 237, 3) := by decide +kernel
theorem dX7_hoursWithLevel_29 : decode cX7_hoursWithLevel 29 = .ok (.getfield 249, 3) := by decide +kernel
theorem dX7_hoursWithLevel_32 : decode cX7_hoursWithLevel 32 = .ok (.aload_n 0, 1) := by decide +kernel
theorem dX7_hoursWithLevel_33 : decode cX7_hoursWithLevel 33 = .ok (.getfield 10, 3) := by decide +kernel
theorem dX7_hoursWithLevel_36 : decode cX7_hoursWithLevel 36 = .ok (.iload_n 2, 1) := by decide +kernel
theorem dX7_hoursWithLevel_37 : decode cX7_hoursWithLevel 37 = .ok (.invokevirtual 281, 3) := by decide +kernel
theorem dX7_hoursWithLevel_40 : decode cX7_hoursWithLevel 40 = .ok (.iaload, 1) := by decide +kernel
theorem dX7_hoursWithLevel_41 : decode cX7_hoursWithLevel 41 = .ok (.iadd, 1) := by decide +kernel
theorem dX7_hoursWithLevel_42 : decode cX7_hoursWithLevel 42 = .ok (.istore_n 1, 1) := by decide +kernel
theorem dX7_hoursWithLevel_43 : decode cX7_hoursWithLevel 43 = .ok (.iinc 2 1, 3) := by decide +kernel
theorem dX7_hoursWithLevel_46 : decode cX7_hoursWithLevel 46 = .ok (.goto (-36), 3) := by decide +kernel
theorem dX7_hoursWithLevel_49 : decode cX7_hoursWithLevel 49 = .ok (.iload_n 1, 1) := by decide +kernel
theorem dX7_hoursWithLevel_50 : decode cX7_hoursWithLevel 50 = .ok (.ireturn, 1) := by decide +kernel
theorem dX7_beginAct_0 : decode cX7_beginAct 0 = .ok (.aload_n 0, 1) := by decide +kernel
theorem dX7_beginAct_1 : decode cX7_beginAct 1 = .ok (.getfield 19, 3) := by decide +kernel
theorem dX7_beginAct_4 : decode cX7_beginAct 4 = .ok (.aload_n 0, 1) := by decide +kernel
theorem dX7_beginAct_5 : decode cX7_beginAct 5 = .ok (.getfield 27, 3) := by decide +kernel
theorem dX7_beginAct_8 : decode cX7_beginAct 8 = .ok (.aaload, 1) := by decide +kernel
theorem dX7_beginAct_9 : decode cX7_beginAct 9 = .ok (.aload_n 0, 1) := by decide +kernel
theorem dX7_beginAct_10 : decode cX7_beginAct 10 = .ok (.getfield 10, 3) := by decide +kernel
theorem dX7_beginAct_13 : decode cX7_beginAct 13 = .ok (.invokevirtual 129, 3) := by decide +kernel
theorem dX7_beginAct_16 : decode cX7_beginAct 16 = .ok (.aload_n 0, 1) := by decide +kernel
theorem dX7_beginAct_17 : decode cX7_beginAct 17 = .ok (.aload_n 0, 1) := by decide +kernel
theorem dX7_beginAct_18 : decode cX7_beginAct 18 = .ok (.getfield 27, 3) := by decide +kernel
theorem dX7_beginAct_21 : decode cX7_beginAct 21 = .ok (.iconst 1, 1) := by decide +kernel
theorem dX7_beginAct_22 : decode cX7_beginAct 22 = .ok (.iadd, 1) := by decide +kernel
theorem dX7_beginAct_23 : decode cX7_beginAct 23 = .ok (.bipush 8, 2) := by decide +kernel
theorem dX7_beginAct_25 : decode cX7_beginAct 25 = .ok (.irem, 1) := by decide +kernel
theorem dX7_beginAct_26 : decode cX7_beginAct 26 = .ok (.putfield 27, 3) := by decide +kernel
theorem dX7_beginAct_29 : decode cX7_beginAct 29 = .ok (.aload_n 0, 1) := by decide +kernel
theorem dX7_beginAct_30 : decode cX7_beginAct 30 = .ok (.aload_n 0, 1) := by decide +kernel
theorem dX7_beginAct_31 : decode cX7_beginAct 31 = .ok (.getfield 23, 3) := by decide +kernel
theorem dX7_beginAct_34 : decode cX7_beginAct 34 = .ok (.iconst 1, 1) := by decide +kernel
theorem dX7_beginAct_35 : decode cX7_beginAct 35 = .ok (.iadd, 1) := by decide +kernel
theorem dX7_beginAct_36 : decode cX7_beginAct 36 = .ok (.bipush 8, 2) := by decide +kernel
theorem dX7_beginAct_38 : decode cX7_beginAct 38 = .ok (.invokestatic 425, 3) := by decide +kernel
theorem dX7_beginAct_41 : decode cX7_beginAct 41 = .ok (.putfield 23, 3) := by decide +kernel
theorem dX7_beginAct_44 : decode cX7_beginAct 44 = .ok (.aload_n 0, 1) := by decide +kernel
theorem dX7_beginAct_45 : decode cX7_beginAct 45 = .ok (.getfield 36, 3) := by decide +kernel
theorem dX7_beginAct_48 : decode cX7_beginAct 48 = .ok (.iconst 0, 1) := by decide +kernel
theorem dX7_beginAct_49 : decode cX7_beginAct 49 = .ok (.dup2, 1) := by decide +kernel
theorem dX7_beginAct_50 : decode cX7_beginAct 50 = .ok (.iaload, 1) := by decide +kernel
theorem dX7_beginAct_51 : decode cX7_beginAct 51 = .ok (.iconst 1, 1) := by decide +kernel
theorem dX7_beginAct_52 : decode cX7_beginAct 52 = .ok (.iadd, 1) := by decide +kernel
theorem dX7_beginAct_53 : decode cX7_beginAct 53 = .ok (.iastore, 1) := by decide +kernel
theorem dX7_beginAct_54 : decode cX7_beginAct 54 = .ok (.return_, 1) := by decide +kernel
theorem dX7_refuse_0 : decode cX7_refuse 0 = .ok (.iload_n 1, 1) := by decide +kernel
theorem dX7_refuse_1 : decode cX7_refuse 1 = .ok (.ifCond .le 22, 3) := by decide +kernel
theorem dX7_refuse_4 : decode cX7_refuse 4 = .ok (.iload_n 1, 1) := by decide +kernel
theorem dX7_refuse_5 : decode cX7_refuse 5 = .ok (.aload_n 0, 1) := by decide +kernel
theorem dX7_refuse_6 : decode cX7_refuse 6 = .ok (.getfield 36, 3) := by decide +kernel
theorem dX7_refuse_9 : decode cX7_refuse 9 = .ok (.arraylength, 1) := by decide +kernel
theorem dX7_refuse_10 : decode cX7_refuse 10 = .ok (.if_icmp .ge 13, 3) := by decide +kernel
theorem dX7_refuse_13 : decode cX7_refuse 13 = .ok (.aload_n 0, 1) := by decide +kernel
theorem dX7_refuse_14 : decode cX7_refuse 14 = .ok (.getfield 36, 3) := by decide +kernel
theorem dX7_refuse_17 : decode cX7_refuse 17 = .ok (.iload_n 1, 1) := by decide +kernel
theorem dX7_refuse_18 : decode cX7_refuse 18 = .ok (.dup2, 1) := by decide +kernel
theorem dX7_refuse_19 : decode cX7_refuse 19 = .ok (.iaload, 1) := by decide +kernel
theorem dX7_refuse_20 : decode cX7_refuse 20 = .ok (.iconst 1, 1) := by decide +kernel
theorem dX7_refuse_21 : decode cX7_refuse 21 = .ok (.iadd, 1) := by decide +kernel
theorem dX7_refuse_22 : decode cX7_refuse 22 = .ok (.iastore, 1) := by decide +kernel
theorem dX7_refuse_23 : decode cX7_refuse 23 = .ok (.iload_n 1, 1) := by decide +kernel
theorem dX7_refuse_24 : decode cX7_refuse 24 = .ok (.ineg, 1) := by decide +kernel
theorem dX7_refuse_25 : decode cX7_refuse 25 = .ok (.ireturn, 1) := by decide +kernel
theorem dX7_letterOf_0 : decode cX7_letterOf 0 = .ok (.iload_n 0, 1) := by decide +kernel
theorem dX7_letterOf_1 : decode cX7_letterOf 1 = .ok (.ifCond .ne 8, 3) := by decide +kernel
theorem dX7_letterOf_4 : decode cX7_letterOf 4 = .ok (.bipush 84, 2) := by decide +kernel
theorem dX7_letterOf_6 : decode cX7_letterOf 6 = .ok (.goto 15, 3) := by decide +kernel
theorem dX7_letterOf_9 : decode cX7_letterOf 9 = .ok (.iload_n 0, 1) := by decide +kernel
theorem dX7_letterOf_10 : decode cX7_letterOf 10 = .ok (.iconst 1, 1) := by decide +kernel
theorem dX7_letterOf_11 : decode cX7_letterOf 11 = .ok (.if_icmp .ne 8, 3) := by decide +kernel
theorem dX7_letterOf_14 : decode cX7_letterOf 14 = .ok (.bipush 83, 2) := by decide +kernel
theorem dX7_letterOf_16 : decode cX7_letterOf 16 = .ok (.goto 5, 3) := by decide +kernel
theorem dX7_letterOf_19 : decode cX7_letterOf 19 = .ok (.bipush 68, 2) := by decide +kernel
theorem dX7_letterOf_21 : decode cX7_letterOf 21 = .ok (.ireturn, 1) := by decide +kernel
theorem dX7_put_0 : decode cX7_put 0 = .ok (.aload_n 0, 1) := by decide +kernel
theorem dX7_put_1 : decode cX7_put 1 = .ok (.getfield 73, 3) := by decide +kernel
theorem dX7_put_4 : decode cX7_put 4 = .ok (.aload_n 0, 1) := by decide +kernel
theorem dX7_put_5 : decode cX7_put 5 = .ok (.getfield 70, 3) := by decide +kernel
theorem dX7_put_8 : decode cX7_put 8 = .ok (.arraylength, 1) := by decide +kernel
theorem dX7_put_9 : decode cX7_put 9 = .ok (.if_icmp .ge 23, 3) := by decide +kernel
theorem dX7_put_12 : decode cX7_put 12 = .ok (.aload_n 0, 1) := by decide +kernel
theorem dX7_put_13 : decode cX7_put 13 = .ok (.getfield 70, 3) := by decide +kernel
theorem dX7_put_16 : decode cX7_put 16 = .ok (.aload_n 0, 1) := by decide +kernel
theorem dX7_put_17 : decode cX7_put 17 = .ok (.getfield 73, 3) := by decide +kernel
theorem dX7_put_20 : decode cX7_put 20 = .ok (.iload_n 1, 1) := by decide +kernel
theorem dX7_put_21 : decode cX7_put 21 = .ok (.iastore, 1) := by decide +kernel
theorem dX7_put_22 : decode cX7_put 22 = .ok (.aload_n 0, 1) := by decide +kernel
theorem dX7_put_23 : decode cX7_put 23 = .ok (.dup, 1) := by decide +kernel
theorem dX7_put_24 : decode cX7_put 24 = .ok (.getfield 73, 3) := by decide +kernel
theorem dX7_put_27 : decode cX7_put 27 = .ok (.iconst 1, 1) := by decide +kernel
theorem dX7_put_28 : decode cX7_put 28 = .ok (.iadd, 1) := by decide +kernel
theorem dX7_put_29 : decode cX7_put 29 = .ok (.putfield 73, 3) := by decide +kernel
theorem dX7_put_32 : decode cX7_put 32 = .ok (.return_, 1) := by decide +kernel
theorem dX7_putNumber_0 : decode cX7_putNumber 0 = .ok (.iload_n 1, 1) := by decide +kernel
theorem dX7_putNumber_1 : decode cX7_putNumber 1 = .ok (.istore_n 2, 1) := by decide +kernel
theorem dX7_putNumber_2 : decode cX7_putNumber 2 = .ok (.iload_n 2, 1) := by decide +kernel
theorem dX7_putNumber_3 : decode cX7_putNumber 3 = .ok (.ifCond .ge 12, 3) := by decide +kernel
theorem dX7_putNumber_6 : decode cX7_putNumber 6 = .ok (.aload_n 0, 1) := by decide +kernel
theorem dX7_putNumber_7 : decode cX7_putNumber 7 = .ok (.bipush 45, 2) := by decide +kernel
theorem dX7_putNumber_9 : decode cX7_putNumber 9 = .ok (.invokevirtual 393, 3) := by decide +kernel
theorem dX7_putNumber_12 : decode cX7_putNumber 12 = .ok (.iload_n 2, 1) := by decide +kernel
theorem dX7_putNumber_13 : decode cX7_putNumber 13 = .ok (.ineg, 1) := by decide +kernel
theorem dX7_putNumber_14 : decode cX7_putNumber 14 = .ok (.istore_n 2, 1) := by decide +kernel
theorem dX7_putNumber_15 : decode cX7_putNumber 15 = .ok (.iconst 0, 1) := by decide +kernel
theorem dX7_putNumber_16 : decode cX7_putNumber 16 = .ok (.istore_n 3, 1) := by decide +kernel
theorem dX7_putNumber_17 : decode cX7_putNumber 17 = .ok (.ldc_w 428, 3) := by decide +kernel
theorem dX7_putNumber_20 : decode cX7_putNumber 20 = .ok (.istore 4, 2) := by decide +kernel
theorem dX7_putNumber_22 : decode cX7_putNumber 22 = .ok (.iload 4, 2) := by decide +kernel
theorem dX7_putNumber_24 : decode cX7_putNumber 24 = .ok (.iconst 1, 1) := by decide +kernel
theorem dX7_putNumber_25 : decode cX7_putNumber 25 = .ok (.if_icmp .lt 56, 3) := by decide +kernel
theorem dX7_putNumber_28 : decode cX7_putNumber 28 = .ok (.iload_n 2, 1) := by decide +kernel
theorem dX7_putNumber_29 : decode cX7_putNumber 29 = .ok (.iload 4, 2) := by decide +kernel
theorem dX7_putNumber_31 : decode cX7_putNumber 31 = .ok (.idiv, 1) := by decide +kernel
theorem dX7_putNumber_32 : decode cX7_putNumber 32 = .ok (.bipush 10, 2) := by decide +kernel
theorem dX7_putNumber_34 : decode cX7_putNumber 34 = .ok (.irem, 1) := by decide +kernel
theorem dX7_putNumber_35 : decode cX7_putNumber 35 = .ok (.istore 5, 2) := by decide +kernel
theorem dX7_putNumber_37 : decode cX7_putNumber 37 = .ok (.iload_n 3, 1) := by decide +kernel
theorem dX7_putNumber_38 : decode cX7_putNumber 38 = .ok (.ifCond .ne 14, 3) := by decide +kernel
theorem dX7_putNumber_41 : decode cX7_putNumber 41 = .ok (.iload 5, 2) := by decide +kernel
theorem dX7_putNumber_43 : decode cX7_putNumber 43 = .ok (.ifCond .gt 9, 3) := by decide +kernel
theorem dX7_putNumber_46 : decode cX7_putNumber 46 = .ok (.iload 4, 2) := by decide +kernel
theorem dX7_putNumber_48 : decode cX7_putNumber 48 = .ok (.iconst 1, 1) := by decide +kernel
theorem dX7_putNumber_49 : decode cX7_putNumber 49 = .ok (.if_icmp .ne 7, 3) := by decide +kernel
theorem dX7_putNumber_52 : decode cX7_putNumber 52 = .ok (.iconst 1, 1) := by decide +kernel
theorem dX7_putNumber_53 : decode cX7_putNumber 53 = .ok (.goto 4, 3) := by decide +kernel
theorem dX7_putNumber_56 : decode cX7_putNumber 56 = .ok (.iconst 0, 1) := by decide +kernel
theorem dX7_putNumber_57 : decode cX7_putNumber 57 = .ok (.istore_n 3, 1) := by decide +kernel
theorem dX7_putNumber_58 : decode cX7_putNumber 58 = .ok (.iload_n 3, 1) := by decide +kernel
theorem dX7_putNumber_59 : decode cX7_putNumber 59 = .ok (.ifCond .eq 12, 3) := by decide +kernel
theorem dX7_putNumber_62 : decode cX7_putNumber 62 = .ok (.aload_n 0, 1) := by decide +kernel
theorem dX7_putNumber_63 : decode cX7_putNumber 63 = .ok (.bipush 48, 2) := by decide +kernel
theorem dX7_putNumber_65 : decode cX7_putNumber 65 = .ok (.iload 5, 2) := by decide +kernel
theorem dX7_putNumber_67 : decode cX7_putNumber 67 = .ok (.iadd, 1) := by decide +kernel
theorem dX7_putNumber_68 : decode cX7_putNumber 68 = .ok (.invokevirtual 393, 3) := by decide +kernel
theorem dX7_putNumber_71 : decode cX7_putNumber 71 = .ok (.iload 4, 2) := by decide +kernel
theorem dX7_putNumber_73 : decode cX7_putNumber 73 = .ok (.bipush 10, 2) := by decide +kernel
theorem dX7_putNumber_75 : decode cX7_putNumber 75 = .ok (.idiv, 1) := by decide +kernel
theorem dX7_putNumber_76 : decode cX7_putNumber 76 = .ok (.istore 4, 2) := by decide +kernel
theorem dX7_putNumber_78 : decode cX7_putNumber 78 = .ok (.goto (-56), 3) := by decide +kernel
theorem dX7_putNumber_81 : decode cX7_putNumber 81 = .ok (.return_, 1) := by decide +kernel
theorem dX7_bytesIn_0 : decode cX7_bytesIn 0 = .ok (.iconst 0, 1) := by decide +kernel
theorem dX7_bytesIn_1 : decode cX7_bytesIn 1 = .ok (.istore_n 1, 1) := by decide +kernel
theorem dX7_bytesIn_2 : decode cX7_bytesIn 2 = .ok (.bipush 24, 2) := by decide +kernel
theorem dX7_bytesIn_4 : decode cX7_bytesIn 4 = .ok (.istore_n 2, 1) := by decide +kernel
theorem dX7_bytesIn_5 : decode cX7_bytesIn 5 = .ok (.iload_n 2, 1) := by decide +kernel
theorem dX7_bytesIn_6 : decode cX7_bytesIn 6 = .ok (.ifCond .lt 22, 3) := by decide +kernel
theorem dX7_bytesIn_9 : decode cX7_bytesIn 9 = .ok (.iload_n 0, 1) := by decide +kernel
theorem dX7_bytesIn_10 : decode cX7_bytesIn 10 = .ok (.iload_n 2, 1) := by decide +kernel
theorem dX7_bytesIn_11 : decode cX7_bytesIn 11 = .ok (.ishr, 1) := by decide +kernel
theorem dX7_bytesIn_12 : decode cX7_bytesIn 12 = .ok (.sipush 255, 3) := by decide +kernel
theorem dX7_bytesIn_15 : decode cX7_bytesIn 15 = .ok (.iand, 1) := by decide +kernel
theorem dX7_bytesIn_16 : decode cX7_bytesIn 16 = .ok (.ifCond .eq 6, 3) := by decide +kernel
theorem dX7_bytesIn_19 : decode cX7_bytesIn 19 = .ok (.iinc 1 1, 3) := by decide +kernel
theorem dX7_bytesIn_22 : decode cX7_bytesIn 22 = .ok (.iinc 2 (-8), 3) := by decide +kernel
theorem dX7_bytesIn_25 : decode cX7_bytesIn 25 = .ok (.goto (-20), 3) := by decide +kernel
theorem dX7_bytesIn_28 : decode cX7_bytesIn 28 = .ok (.iload_n 1, 1) := by decide +kernel
theorem dX7_bytesIn_29 : decode cX7_bytesIn 29 = .ok (.ireturn, 1) := by decide +kernel
theorem dX7_closeText_0 : decode cX7_closeText 0 = .ok (.aload_n 0, 1) := by decide +kernel
theorem dX7_closeText_1 : decode cX7_closeText 1 = .ok (.aload_n 0, 1) := by decide +kernel
theorem dX7_closeText_2 : decode cX7_closeText 2 = .ok (.getfield 53, 3) := by decide +kernel
theorem dX7_closeText_5 : decode cX7_closeText 5 = .ok (.getfield 429, 3) := by decide +kernel
theorem dX7_closeText_8 : decode cX7_closeText 8 = .ok (.putfield 64, 3) := by decide +kernel
theorem dX7_closeText_11 : decode cX7_closeText 11 = .ok (.aload_n 0, 1) := by decide +kernel
theorem dX7_closeText_12 : decode cX7_closeText 12 = .ok (.aload_n 0, 1) := by decide +kernel
theorem dX7_closeText_13 : decode cX7_closeText 13 = .ok (.getfield 53, 3) := by decide +kernel
theorem dX7_closeText_16 : decode cX7_closeText 16 = .ok (.getfield 432, 3) := by decide +kernel
theorem dX7_closeText_19 : decode cX7_closeText 19 = .ok (.putfield 67, 3) := by decide +kernel
theorem dX7_closeText_22 : decode cX7_closeText 22 = .ok (.aload_n 0, 1) := by decide +kernel
theorem dX7_closeText_23 : decode cX7_closeText 23 = .ok (.getfield 53, 3) := by decide +kernel
theorem dX7_closeText_26 : decode cX7_closeText 26 = .ok (.iconst 0, 1) := by decide +kernel
theorem dX7_closeText_27 : decode cX7_closeText 27 = .ok (.putfield 102, 3) := by decide +kernel
theorem dX7_closeText_30 : decode cX7_closeText 30 = .ok (.aload_n 0, 1) := by decide +kernel
theorem dX7_closeText_31 : decode cX7_closeText 31 = .ok (.getfield 64, 3) := by decide +kernel
theorem dX7_closeText_34 : decode cX7_closeText 34 = .ok (.ifCond .ne 7, 3) := by decide +kernel
theorem dX7_closeText_37 : decode cX7_closeText 37 = .ok (.iconst 1, 1) := by decide +kernel
theorem dX7_closeText_38 : decode cX7_closeText 38 = .ok (.goto 4, 3) := by decide +kernel
theorem dX7_closeText_41 : decode cX7_closeText 41 = .ok (.iconst 0, 1) := by decide +kernel
theorem dX7_closeText_42 : decode cX7_closeText 42 = .ok (.ireturn, 1) := by decide +kernel
theorem dX7_readSetup_0 : decode cX7_readSetup 0 = .ok (.aload_n 0, 1) := by decide +kernel
theorem dX7_readSetup_1 : decode cX7_readSetup 1 = .ok (.getfield 16, 3) := by decide +kernel
theorem dX7_readSetup_4 : decode cX7_readSetup 4 = .ok (.invokevirtual 76, 3) := by decide +kernel
theorem dX7_readSetup_7 : decode cX7_readSetup 7 = .ok (.aload_n 0, 1) := by decide +kernel
theorem dX7_readSetup_8 : decode cX7_readSetup 8 = .ok (.getfield 53, 3) := by decide +kernel
theorem dX7_readSetup_11 : decode cX7_readSetup 11 = .ok (.invokevirtual 435, 3) := by decide +kernel
theorem dX7_readSetup_14 : decode cX7_readSetup 14 = .ok (.aload_n 0, 1) := by decide +kernel
theorem dX7_readSetup_15 : decode cX7_readSetup 15 = .ok (.getfield 53, 3) := by decide +kernel
theorem dX7_readSetup_18 : decode cX7_readSetup 18 = .ok (.bipush 7, 2) := by decide +kernel
theorem dX7_readSetup_20 : decode cX7_readSetup 20 = .ok (.invokevirtual 438, 3) := by decide +kernel
theorem dX7_readSetup_23 : decode cX7_readSetup 23 = .ok (.aload_n 0, 1) := by decide +kernel
theorem dX7_readSetup_24 : decode cX7_readSetup 24 = .ok (.getfield 16, 3) := by decide +kernel
theorem dX7_readSetup_27 : decode cX7_readSetup 27 = .ok (.aload_n 0, 1) := by decide +kernel
theorem dX7_readSetup_28 : decode cX7_readSetup 28 = .ok (.getfield 53, 3) := by decide +kernel
theorem dX7_readSetup_31 : decode cX7_readSetup 31 = .ok (.iconst 0, 1) := by decide +kernel
theorem dX7_readSetup_32 : decode cX7_readSetup 32 = .ok (.sipush 999, 3) := by decide +kernel
theorem dX7_readSetup_35 : decode cX7_readSetup 35 = .ok (.invokevirtual 441, 3) := by decide +kernel
theorem dX7_readSetup_38 : decode cX7_readSetup 38 = .ok (.putfield 79, 3) := by decide +kernel
theorem dX7_readSetup_41 : decode cX7_readSetup 41 = .ok (.aload_n 0, 1) := by decide +kernel
theorem dX7_readSetup_42 : decode cX7_readSetup 42 = .ok (.getfield 16, 3) := by decide +kernel
theorem dX7_readSetup_45 : decode cX7_readSetup 45 = .ok (.aload_n 0, 1) := by decide +kernel
theorem dX7_readSetup_46 : decode cX7_readSetup 46 = .ok (.getfield 53, 3) := by decide +kernel
theorem dX7_readSetup_49 : decode cX7_readSetup 49 = .ok (.iconst 1, 1) := by decide +kernel
theorem dX7_readSetup_50 : decode cX7_readSetup 50 = .ok (.bipush 9, 2) := by decide +kernel
theorem dX7_readSetup_52 : decode cX7_readSetup 52 = .ok (.invokevirtual 441, 3) := by decide +kernel
theorem dX7_readSetup_55 : decode cX7_readSetup 55 = .ok (.putfield 82, 3) := by decide +kernel
theorem dX7_readSetup_58 : decode cX7_readSetup 58 = .ok (.aload_n 0, 1) := by decide +kernel
theorem dX7_readSetup_59 : decode cX7_readSetup 59 = .ok (.getfield 16, 3) := by decide +kernel
theorem dX7_readSetup_62 : decode cX7_readSetup 62 = .ok (.aload_n 0, 1) := by decide +kernel
theorem dX7_readSetup_63 : decode cX7_readSetup 63 = .ok (.getfield 53, 3) := by decide +kernel
theorem dX7_readSetup_66 : decode cX7_readSetup 66 = .ok (.iconst 1, 1) := by decide +kernel
theorem dX7_readSetup_67 : decode cX7_readSetup 67 = .ok (.bipush 9, 2) := by decide +kernel
theorem dX7_readSetup_69 : decode cX7_readSetup 69 = .ok (.invokevirtual 441, 3) := by decide +kernel
theorem dX7_readSetup_72 : decode cX7_readSetup 72 = .ok (.putfield 85, 3) := by decide +kernel
theorem dX7_readSetup_75 : decode cX7_readSetup 75 = .ok (.aload_n 0, 1) := by decide +kernel
theorem dX7_readSetup_76 : decode cX7_readSetup 76 = .ok (.getfield 53, 3) := by decide +kernel
theorem dX7_readSetup_79 : decode cX7_readSetup 79 = .ok (.iconst 3, 1) := by decide +kernel
theorem dX7_readSetup_80 : decode cX7_readSetup 80 = .ok (.invokevirtual 438, 3) := by decide +kernel
theorem dX7_readSetup_83 : decode cX7_readSetup 83 = .ok (.iconst 0, 1) := by decide +kernel
theorem dX7_readSetup_84 : decode cX7_readSetup 84 = .ok (.istore_n 1, 1) := by decide +kernel
theorem dX7_readSetup_85 : decode cX7_readSetup 85 = .ok (.iload_n 1, 1) := by decide +kernel
theorem dX7_readSetup_86 : decode cX7_readSetup 86 = .ok (.sipush 500, 3) := by decide +kernel
theorem dX7_readSetup_89 : decode cX7_readSetup 89 = .ok (.if_icmp .ge 113, 3) := by decide +kernel
theorem dX7_readSetup_92 : decode cX7_readSetup 92 = .ok (.aload_n 0, 1) := by decide +kernel
theorem dX7_readSetup_93 : decode cX7_readSetup 93 = .ok (.getfield 53, 3) := by decide +kernel
theorem dX7_readSetup_96 : decode cX7_readSetup 96 = .ok (.invokevirtual 444, 3) := by decide +kernel
theorem dX7_readSetup_99 : decode cX7_readSetup 99 = .ok (.ifCond .eq 103, 3) := by decide +kernel
theorem dX7_readSetup_102 : decode cX7_readSetup 102 = .ok (.aload_n 0, 1) := by decide +kernel
theorem dX7_readSetup_103 : decode cX7_readSetup 103 = .ok (.getfield 53, 3) := by decide +kernel
theorem dX7_readSetup_106 : decode cX7_readSetup 106 = .ok (.invokevirtual 447, 3) := by decide +kernel
theorem dX7_readSetup_109 : decode cX7_readSetup 109 = .ok (.tableswitch 71 8 10 #[27, 34, 41], 27) := by decide +kernel
theorem dX7_readSetup_136 : decode cX7_readSetup 136 = .ok (.aload_n 0, 1) := by decide +kernel
theorem dX7_readSetup_137 : decode cX7_readSetup 137 = .ok (.invokevirtual 450, 3) := by decide +kernel
theorem dX7_readSetup_140 : decode cX7_readSetup 140 = .ok (.goto 48, 3) := by decide +kernel
theorem dX7_readSetup_143 : decode cX7_readSetup 143 = .ok (.aload_n 0, 1) := by decide +kernel
theorem dX7_readSetup_144 : decode cX7_readSetup 144 = .ok (.invokevirtual 453, 3) := by decide +kernel
theorem dX7_readSetup_147 : decode cX7_readSetup 147 = .ok (.goto 41, 3) := by decide +kernel
theorem dX7_readSetup_150 : decode cX7_readSetup 150 = .ok (.aload_n 0, 1) := by decide +kernel
theorem dX7_readSetup_151 : decode cX7_readSetup 151 = .ok (.getfield 53, 3) := by decide +kernel
theorem dX7_readSetup_154 : decode cX7_readSetup 154 = .ok (.bipush 10, 2) := by decide +kernel
theorem dX7_readSetup_156 : decode cX7_readSetup 156 = .ok (.invokevirtual 438, 3) := by decide +kernel
theorem dX7_readSetup_159 : decode cX7_readSetup 159 = .ok (.aload_n 0, 1) := by decide +kernel
theorem dX7_readSetup_160 : decode cX7_readSetup 160 = .ok (.getfield 16, 3) := by decide +kernel
theorem dX7_readSetup_163 : decode cX7_readSetup 163 = .ok (.aload_n 0, 1) := by decide +kernel
theorem dX7_readSetup_164 : decode cX7_readSetup 164 = .ok (.getfield 53, 3) := by decide +kernel
theorem dX7_readSetup_167 : decode cX7_readSetup 167 = .ok (.iconst 0, 1) := by decide +kernel
theorem dX7_readSetup_168 : decode cX7_readSetup 168 = .ok (.ldc_w 379, 3) := by decide +kernel
theorem dX7_readSetup_171 : decode cX7_readSetup 171 = .ok (.invokevirtual 441, 3) := by decide +kernel
theorem dX7_readSetup_174 : decode cX7_readSetup 174 = .ok (.putfield 123, 3) := by decide +kernel
theorem dX7_readSetup_177 : decode cX7_readSetup 177 = .ok (.goto 11, 3) := by decide +kernel
theorem dX7_readSetup_180 : decode cX7_readSetup 180 = .ok (.aload_n 0, 1) := by decide +kernel
theorem dX7_readSetup_181 : decode cX7_readSetup 181 = .ok (.getfield 53, 3) := by decide +kernel
theorem dX7_readSetup_184 : decode cX7_readSetup 184 = .ok (.iconst 1, 1) := by decide +kernel
theorem dX7_readSetup_185 : decode cX7_readSetup 185 = .ok (.invokevirtual 456, 3) := by decide +kernel
theorem dX7_readSetup_188 : decode cX7_readSetup 188 = .ok (.aload_n 0, 1) := by decide +kernel
theorem dX7_readSetup_189 : decode cX7_readSetup 189 = .ok (.getfield 53, 3) := by decide +kernel
theorem dX7_readSetup_192 : decode cX7_readSetup 192 = .ok (.iconst 3, 1) := by decide +kernel
theorem dX7_readSetup_193 : decode cX7_readSetup 193 = .ok (.invokevirtual 438, 3) := by decide +kernel
theorem dX7_readSetup_196 : decode cX7_readSetup 196 = .ok (.iinc 1 1, 3) := by decide +kernel
theorem dX7_readSetup_199 : decode cX7_readSetup 199 = .ok (.goto (-114), 3) := by decide +kernel
theorem dX7_readSetup_202 : decode cX7_readSetup 202 = .ok (.aload_n 0, 1) := by decide +kernel
theorem dX7_readSetup_203 : decode cX7_readSetup 203 = .ok (.getfield 16, 3) := by decide +kernel
theorem dX7_readSetup_206 : decode cX7_readSetup 206 = .ok (.getfield 88, 3) := by decide +kernel
theorem dX7_readSetup_209 : decode cX7_readSetup 209 = .ok (.getfield 133, 3) := by decide +kernel
theorem dX7_readSetup_212 : decode cX7_readSetup 212 = .ok (.iconst 2, 1) := by decide +kernel
theorem dX7_readSetup_213 : decode cX7_readSetup 213 = .ok (.if_icmp .ge 11, 3) := by decide +kernel
theorem dX7_readSetup_216 : decode cX7_readSetup 216 = .ok (.aload_n 0, 1) := by decide +kernel
theorem dX7_readSetup_217 : decode cX7_readSetup 217 = .ok (.getfield 53, 3) := by decide +kernel
theorem dX7_readSetup_220 : decode cX7_readSetup 220 = .ok (.iconst 5, 1) := by decide +kernel
theorem dX7_readSetup_221 : decode cX7_readSetup 221 = .ok (.invokevirtual 456, 3) := by decide +kernel
theorem dX7_readSetup_224 : decode cX7_readSetup 224 = .ok (.return_, 1) := by decide +kernel
theorem dX7_readBuoy_0 : decode cX7_readBuoy 0 = .ok (.aload_n 0, 1) := by decide +kernel
theorem dX7_readBuoy_1 : decode cX7_readBuoy 1 = .ok (.getfield 16, 3) := by decide +kernel
theorem dX7_readBuoy_4 : decode cX7_readBuoy 4 = .ok (.getfield 88, 3) := by decide +kernel
theorem dX7_readBuoy_7 : decode cX7_readBuoy 7 = .ok (.getfield 133, 3) := by decide +kernel
theorem dX7_readBuoy_10 : decode cX7_readBuoy 10 = .ok (.bipush 10, 2) := by decide +kernel
theorem dX7_readBuoy_12 : decode cX7_readBuoy 12 = .ok (.if_icmp .lt 11, 3) := by decide +kernel
theorem dX7_readBuoy_15 : decode cX7_readBuoy 15 = .ok (.aload_n 0, 1) := by decide +kernel
theorem dX7_readBuoy_16 : decode cX7_readBuoy 16 = .ok (.getfield 53, 3) := by decide +kernel
theorem dX7_readBuoy_19 : decode cX7_readBuoy 19 = .ok (.iconst 4, 1) := by decide +kernel
theorem dX7_readBuoy_20 : decode cX7_readBuoy 20 = .ok (.invokevirtual 456, 3) := by decide +kernel
theorem dX7_readBuoy_23 : decode cX7_readBuoy 23 = .ok (.aload_n 0, 1) := by decide +kernel
theorem dX7_readBuoy_24 : decode cX7_readBuoy 24 = .ok (.getfield 53, 3) := by decide +kernel
theorem dX7_readBuoy_27 : decode cX7_readBuoy 27 = .ok (.bipush 8, 2) := by decide +kernel
theorem dX7_readBuoy_29 : decode cX7_readBuoy 29 = .ok (.invokevirtual 438, 3) := by decide +kernel
theorem dX7_readBuoy_32 : decode cX7_readBuoy 32 = .ok (.aload_n 0, 1) := by decide +kernel
theorem dX7_readBuoy_33 : decode cX7_readBuoy 33 = .ok (.getfield 53, 3) := by decide +kernel
theorem dX7_readBuoy_36 : decode cX7_readBuoy 36 = .ok (.iconst 0, 1) := by decide +kernel
theorem dX7_readBuoy_37 : decode cX7_readBuoy 37 = .ok (.sipush 9999, 3) := by decide +kernel
theorem dX7_readBuoy_40 : decode cX7_readBuoy 40 = .ok (.invokevirtual 459, 3) := by decide +kernel
theorem dX7_readBuoy_43 : decode cX7_readBuoy 43 = .ok (.istore_n 1, 1) := by decide +kernel
theorem dX7_readBuoy_44 : decode cX7_readBuoy 44 = .ok (.iload_n 1, 1) := by decide +kernel
theorem dX7_readBuoy_45 : decode cX7_readBuoy 45 = .ok (.aload_n 0, 1) := by decide +kernel
theorem dX7_readBuoy_46 : decode cX7_readBuoy 46 = .ok (.getfield 16, 3) := by decide +kernel
theorem dX7_readBuoy_49 : decode cX7_readBuoy 49 = .ok (.getfield 88, 3) := by decide +kernel
theorem dX7_readBuoy_52 : decode cX7_readBuoy 52 = .ok (.invokevirtual 462, 3) := by decide +kernel
theorem dX7_readBuoy_55 : decode cX7_readBuoy 55 = .ok (.if_icmp .gt 11, 3) := by decide +kernel
theorem dX7_readBuoy_58 : decode cX7_readBuoy 58 = .ok (.aload_n 0, 1) := by decide +kernel
theorem dX7_readBuoy_59 : decode cX7_readBuoy 59 = .ok (.getfield 53, 3) := by decide +kernel
theorem dX7_readBuoy_62 : decode cX7_readBuoy 62 = .ok (.iconst 3, 1) := by decide +kernel
theorem dX7_readBuoy_63 : decode cX7_readBuoy 63 = .ok (.invokevirtual 456, 3) := by decide +kernel
theorem dX7_readBuoy_66 : decode cX7_readBuoy 66 = .ok (.aload_n 0, 1) := by decide +kernel
theorem dX7_readBuoy_67 : decode cX7_readBuoy 67 = .ok (.getfield 53, 3) := by decide +kernel
theorem dX7_readBuoy_70 : decode cX7_readBuoy 70 = .ok (.iconst 1, 1) := by decide +kernel
theorem dX7_readBuoy_71 : decode cX7_readBuoy 71 = .ok (.invokevirtual 438, 3) := by decide +kernel
theorem dX7_readBuoy_74 : decode cX7_readBuoy 74 = .ok (.aload_n 0, 1) := by decide +kernel
theorem dX7_readBuoy_75 : decode cX7_readBuoy 75 = .ok (.getfield 53, 3) := by decide +kernel
theorem dX7_readBuoy_78 : decode cX7_readBuoy 78 = .ok (.iconst 1, 1) := by decide +kernel
theorem dX7_readBuoy_79 : decode cX7_readBuoy 79 = .ok (.bipush 9, 2) := by decide +kernel
theorem dX7_readBuoy_81 : decode cX7_readBuoy 81 = .ok (.invokevirtual 441, 3) := by decide +kernel
theorem dX7_readBuoy_84 : decode cX7_readBuoy 84 = .ok (.istore_n 2, 1) := by decide +kernel
theorem dX7_readBuoy_85 : decode cX7_readBuoy 85 = .ok (.aload_n 0, 1) := by decide +kernel
theorem dX7_readBuoy_86 : decode cX7_readBuoy 86 = .ok (.getfield 53, 3) := by decide +kernel
theorem dX7_readBuoy_89 : decode cX7_readBuoy 89 = .ok (.iconst 0, 1) := by decide +kernel
theorem dX7_readBuoy_90 : decode cX7_readBuoy 90 = .ok (.bipush 99, 2) := by decide +kernel
theorem dX7_readBuoy_92 : decode cX7_readBuoy 92 = .ok (.invokevirtual 441, 3) := by decide +kernel
theorem dX7_readBuoy_95 : decode cX7_readBuoy 95 = .ok (.istore_n 3, 1) := by decide +kernel
theorem dX7_readBuoy_96 : decode cX7_readBuoy 96 = .ok (.aload_n 0, 1) := by decide +kernel
theorem dX7_readBuoy_97 : decode cX7_readBuoy 97 = .ok (.getfield 53, 3) := by decide +kernel
theorem dX7_readBuoy_100 : decode cX7_readBuoy 100 = .ok (.invokevirtual 465, 3) := by decide +kernel
theorem dX7_readBuoy_103 : decode cX7_readBuoy 103 = .ok (.ifCond .eq 15, 3) := by decide +kernel
theorem dX7_readBuoy_106 : decode cX7_readBuoy 106 = .ok (.aload_n 0, 1) := by decide +kernel
theorem dX7_readBuoy_107 : decode cX7_readBuoy 107 = .ok (.getfield 53, 3) := by decide +kernel
theorem dX7_readBuoy_110 : decode cX7_readBuoy 110 = .ok (.bipush 99, 2) := by decide +kernel
theorem dX7_readBuoy_112 : decode cX7_readBuoy 112 = .ok (.invokevirtual 468, 3) := by decide +kernel
theorem dX7_readBuoy_115 : decode cX7_readBuoy 115 = .ok (.goto 4, 3) := by decide +kernel
theorem dX7_readBuoy_118 : decode cX7_readBuoy 118 = .ok (.iconst 0, 1) := by decide +kernel
theorem dX7_readBuoy_119 : decode cX7_readBuoy 119 = .ok (.istore 4, 2) := by decide +kernel
theorem dX7_readBuoy_121 : decode cX7_readBuoy 121 = .ok (.aload_n 0, 1) := by decide +kernel
theorem dX7_readBuoy_122 : decode cX7_readBuoy 122 = .ok (.getfield 16, 3) := by decide +kernel
theorem dX7_readBuoy_125 : decode cX7_readBuoy 125 = .ok (.getfield 88, 3) := by decide +kernel
theorem dX7_readBuoy_128 : decode cX7_readBuoy 128 = .ok (.iload_n 1, 1) := by decide +kernel
theorem dX7_readBuoy_129 : decode cX7_readBuoy 129 = .ok (.iload_n 2, 1) := by decide +kernel
theorem dX7_readBuoy_130 : decode cX7_readBuoy 130 = .ok (.iload_n 3, 1) := by decide +kernel
theorem dX7_readBuoy_131 : decode cX7_readBuoy 131 = .ok (.iload 4, 2) := by decide +kernel
theorem dX7_readBuoy_133 : decode cX7_readBuoy 133 = .ok (.invokevirtual 92, 3) := by decide +kernel
theorem dX7_readBuoy_136 : decode cX7_readBuoy 136 = .ok (.return_, 1) := by decide +kernel
theorem dX7_readRope_0 : decode cX7_readRope 0 = .ok (.aload_n 0, 1) := by decide +kernel
theorem dX7_readRope_1 : decode cX7_readRope 1 = .ok (.getfield 53, 3) := by decide +kernel
theorem dX7_readRope_4 : decode cX7_readRope 4 = .ok (.bipush 9, 2) := by decide +kernel
theorem dX7_readRope_6 : decode cX7_readRope 6 = .ok (.invokevirtual 438, 3) := by decide +kernel
theorem dX7_readRope_9 : decode cX7_readRope 9 = .ok (.aload_n 0, 1) := by decide +kernel
theorem dX7_readRope_10 : decode cX7_readRope 10 = .ok (.getfield 53, 3) := by decide +kernel
theorem dX7_readRope_13 : decode cX7_readRope 13 = .ok (.iconst 0, 1) := by decide +kernel
theorem dX7_readRope_14 : decode cX7_readRope 14 = .ok (.aload_n 0, 1) := by decide +kernel
theorem dX7_readRope_15 : decode cX7_readRope 15 = .ok (.getfield 16, 3) := by decide +kernel
theorem dX7_readRope_18 : decode cX7_readRope 18 = .ok (.getfield 88, 3) := by decide +kernel
theorem dX7_readRope_21 : decode cX7_readRope 21 = .ok (.getfield 133, 3) := by decide +kernel
theorem dX7_readRope_24 : decode cX7_readRope 24 = .ok (.iconst 2, 1) := by decide +kernel
theorem dX7_readRope_25 : decode cX7_readRope 25 = .ok (.isub, 1) := by decide +kernel
theorem dX7_readRope_26 : decode cX7_readRope 26 = .ok (.invokevirtual 441, 3) := by decide +kernel
theorem dX7_readRope_29 : decode cX7_readRope 29 = .ok (.istore_n 1, 1) := by decide +kernel
theorem dX7_readRope_30 : decode cX7_readRope 30 = .ok (.aload_n 0, 1) := by decide +kernel
theorem dX7_readRope_31 : decode cX7_readRope 31 = .ok (.getfield 16, 3) := by decide +kernel
theorem dX7_readRope_34 : decode cX7_readRope 34 = .ok (.getfield 159, 3) := by decide +kernel
theorem dX7_readRope_37 : decode cX7_readRope 37 = .ok (.iload_n 1, 1) := by decide +kernel
theorem dX7_readRope_38 : decode cX7_readRope 38 = .ok (.aload_n 0, 1) := by decide +kernel
theorem dX7_readRope_39 : decode cX7_readRope 39 = .ok (.getfield 53, 3) := by decide +kernel
theorem dX7_readRope_42 : decode cX7_readRope 42 = .ok (.iconst 1, 1) := by decide +kernel
theorem dX7_readRope_43 : decode cX7_readRope 43 = .ok (.bipush 99, 2) := by decide +kernel
theorem dX7_readRope_45 : decode cX7_readRope 45 = .ok (.invokevirtual 441, 3) := by decide +kernel
theorem dX7_readRope_48 : decode cX7_readRope 48 = .ok (.invokevirtual 471, 3) := by decide +kernel
theorem dX7_readRope_51 : decode cX7_readRope 51 = .ok (.return_, 1) := by decide +kernel
theorem dX7_readScript_0 : decode cX7_readScript 0 = .ok (.aload_n 0, 1) := by decide +kernel
theorem dX7_readScript_1 : decode cX7_readScript 1 = .ok (.getfield 60, 3) := by decide +kernel
theorem dX7_readScript_4 : decode cX7_readScript 4 = .ok (.invokevirtual 475, 3) := by decide +kernel
theorem dX7_readScript_7 : decode cX7_readScript 7 = .ok (.aload_n 0, 1) := by decide +kernel
theorem dX7_readScript_8 : decode cX7_readScript 8 = .ok (.getfield 53, 3) := by decide +kernel
theorem dX7_readScript_11 : decode cX7_readScript 11 = .ok (.invokevirtual 435, 3) := by decide +kernel
theorem dX7_readScript_14 : decode cX7_readScript 14 = .ok (.aload_n 0, 1) := by decide +kernel
theorem dX7_readScript_15 : decode cX7_readScript 15 = .ok (.getfield 10, 3) := by decide +kernel
theorem dX7_readScript_18 : decode cX7_readScript 18 = .ok (.getfield 88, 3) := by decide +kernel
theorem dX7_readScript_21 : decode cX7_readScript 21 = .ok (.getfield 133, 3) := by decide +kernel
theorem dX7_readScript_24 : decode cX7_readScript 24 = .ok (.istore_n 1, 1) := by decide +kernel
theorem dX7_readScript_25 : decode cX7_readScript 25 = .ok (.iconst 0, 1) := by decide +kernel
theorem dX7_readScript_26 : decode cX7_readScript 26 = .ok (.istore_n 2, 1) := by decide +kernel
theorem dX7_readScript_27 : decode cX7_readScript 27 = .ok (.iload_n 2, 1) := by decide +kernel
theorem dX7_readScript_28 : decode cX7_readScript 28 = .ok (.sipush 500, 3) := by decide +kernel
theorem dX7_readScript_31 : decode cX7_readScript 31 = .ok (.if_icmp .ge 185, 3) := by decide +kernel
theorem dX7_readScript_34 : decode cX7_readScript 34 = .ok (.aload_n 0, 1) := by decide +kernel
theorem dX7_readScript_35 : decode cX7_readScript 35 = .ok (.getfield 53, 3) := by decide +kernel
theorem dX7_readScript_38 : decode cX7_readScript 38 = .ok (.invokevirtual 444, 3) := by decide +kernel
theorem dX7_readScript_41 : decode cX7_readScript 41 = .ok (.ifCond .eq 175, 3) := by decide +kernel
theorem dX7_readScript_44 : decode cX7_readScript 44 = .ok (.aload_n 0, 1) := by decide +kernel
theorem dX7_readScript_45 : decode cX7_readScript 45 = .ok (.invokevirtual 476, 3) := by decide +kernel
theorem dX7_readScript_48 : decode cX7_readScript 48 = .ok (.tableswitch 154 10 15 #[133, 40, 47, 71, 92, 112], 40) := by decide +kernel
theorem dX7_readScript_88 : decode cX7_readScript 88 = .ok (.aload_n 0, 1) := by decide +kernel
theorem dX7_readScript_89 : decode cX7_readScript 89 = .ok (.invokevirtual 479, 3) := by decide +kernel
theorem dX7_readScript_92 : decode cX7_readScript 92 = .ok (.goto 110, 3) := by decide +kernel
theorem dX7_readScript_95 : decode cX7_readScript 95 = .ok (.aload_n 0, 1) := by decide +kernel
theorem dX7_readScript_96 : decode cX7_readScript 96 = .ok (.getfield 60, 3) := by decide +kernel
theorem dX7_readScript_99 : decode cX7_readScript 99 = .ok (.aload_n 0, 1) := by decide +kernel
theorem dX7_readScript_100 : decode cX7_readScript 100 = .ok (.getfield 53, 3) := by decide +kernel
theorem dX7_readScript_103 : decode cX7_readScript 103 = .ok (.iconst 1, 1) := by decide +kernel
theorem dX7_readScript_104 : decode cX7_readScript 104 = .ok (.bipush 99, 2) := by decide +kernel
theorem dX7_readScript_106 : decode cX7_readScript 106 = .ok (.invokevirtual 441, 3) := by decide +kernel
theorem dX7_readScript_109 : decode cX7_readScript 109 = .ok (.invokevirtual 482, 3) := by decide +kernel
theorem dX7_readScript_112 : decode cX7_readScript 112 = .ok (.aload_n 0, 1) := by decide +kernel
theorem dX7_readScript_113 : decode cX7_readScript 113 = .ok (.invokevirtual 484, 3) := by decide +kernel
theorem dX7_readScript_116 : decode cX7_readScript 116 = .ok (.goto 86, 3) := by decide +kernel
theorem dX7_readScript_119 : decode cX7_readScript 119 = .ok (.aload_n 0, 1) := by decide +kernel
theorem dX7_readScript_120 : decode cX7_readScript 120 = .ok (.getfield 60, 3) := by decide +kernel
theorem dX7_readScript_123 : decode cX7_readScript 123 = .ok (.aload_n 0, 1) := by decide +kernel
theorem dX7_readScript_124 : decode cX7_readScript 124 = .ok (.getfield 53, 3) := by decide +kernel
theorem dX7_readScript_127 : decode cX7_readScript 127 = .ok (.iconst 0, 1) := by decide +kernel
theorem dX7_readScript_128 : decode cX7_readScript 128 = .ok (.iload_n 1, 1) := by decide +kernel
theorem dX7_readScript_129 : decode cX7_readScript 129 = .ok (.iconst 2, 1) := by decide +kernel
theorem dX7_readScript_130 : decode cX7_readScript 130 = .ok (.isub, 1) := by decide +kernel
theorem dX7_readScript_131 : decode cX7_readScript 131 = .ok (.invokevirtual 441, 3) := by decide +kernel
theorem dX7_readScript_134 : decode cX7_readScript 134 = .ok (.invokevirtual 482, 3) := by decide +kernel
theorem dX7_readScript_137 : decode cX7_readScript 137 = .ok (.goto 65, 3) := by decide +kernel
theorem dX7_readScript_140 : decode cX7_readScript 140 = .ok (.aload_n 0, 1) := by decide +kernel
theorem dX7_readScript_141 : decode cX7_readScript 141 = .ok (.getfield 60, 3) := by decide +kernel
theorem dX7_readScript_144 : decode cX7_readScript 144 = .ok (.aload_n 0, 1) := by decide +kernel
theorem dX7_readScript_145 : decode cX7_readScript 145 = .ok (.getfield 53, 3) := by decide +kernel
theorem dX7_readScript_148 : decode cX7_readScript 148 = .ok (.iconst 1, 1) := by decide +kernel
theorem dX7_readScript_149 : decode cX7_readScript 149 = .ok (.bipush 99, 2) := by decide +kernel
theorem dX7_readScript_151 : decode cX7_readScript 151 = .ok (.invokevirtual 441, 3) := by decide +kernel
theorem dX7_readScript_154 : decode cX7_readScript 154 = .ok (.invokevirtual 482, 3) := by decide +kernel
theorem dX7_readScript_157 : decode cX7_readScript 157 = .ok (.goto 45, 3) := by decide +kernel
theorem dX7_readScript_160 : decode cX7_readScript 160 = .ok (.aload_n 0, 1) := by decide +kernel
theorem dX7_readScript_161 : decode cX7_readScript 161 = .ok (.getfield 60, 3) := by decide +kernel
theorem dX7_readScript_164 : decode cX7_readScript 164 = .ok (.aload_n 0, 1) := by decide +kernel
theorem dX7_readScript_165 : decode cX7_readScript 165 = .ok (.getfield 53, 3) := by decide +kernel
theorem dX7_readScript_168 : decode cX7_readScript 168 = .ok (.iconst 0, 1) := by decide +kernel
theorem dX7_readScript_169 : decode cX7_readScript 169 = .ok (.iload_n 1, 1) := by decide +kernel
theorem dX7_readScript_170 : decode cX7_readScript 170 = .ok (.iconst 1, 1) := by decide +kernel
theorem dX7_readScript_171 : decode cX7_readScript 171 = .ok (.isub, 1) := by decide +kernel
theorem dX7_readScript_172 : decode cX7_readScript 172 = .ok (.invokevirtual 441, 3) := by decide +kernel
theorem dX7_readScript_175 : decode cX7_readScript 175 = .ok (.invokevirtual 482, 3) := by decide +kernel
theorem dX7_readScript_178 : decode cX7_readScript 178 = .ok (.goto 24, 3) := by decide +kernel
theorem dX7_readScript_181 : decode cX7_readScript 181 = .ok (.aload_n 0, 1) := by decide +kernel
theorem dX7_readScript_182 : decode cX7_readScript 182 = .ok (.getfield 60, 3) := by decide +kernel
theorem dX7_readScript_185 : decode cX7_readScript 185 = .ok (.aload_n 0, 1) := by decide +kernel
theorem dX7_readScript_186 : decode cX7_readScript 186 = .ok (.getfield 53, 3) := by decide +kernel
theorem dX7_readScript_189 : decode cX7_readScript 189 = .ok (.iconst 1, 1) := by decide +kernel
theorem dX7_readScript_190 : decode cX7_readScript 190 = .ok (.sipush 9999, 3) := by decide +kernel
theorem dX7_readScript_193 : decode cX7_readScript 193 = .ok (.invokevirtual 441, 3) := by decide +kernel
theorem dX7_readScript_196 : decode cX7_readScript 196 = .ok (.invokevirtual 482, 3) := by decide +kernel
theorem dX7_readScript_199 : decode cX7_readScript 199 = .ok (.goto 3, 3) := by decide +kernel
theorem dX7_readScript_202 : decode cX7_readScript 202 = .ok (.aload_n 0, 1) := by decide +kernel
theorem dX7_readScript_203 : decode cX7_readScript 203 = .ok (.getfield 53, 3) := by decide +kernel
theorem dX7_readScript_206 : decode cX7_readScript 206 = .ok (.iconst 3, 1) := by decide +kernel
theorem dX7_readScript_207 : decode cX7_readScript 207 = .ok (.invokevirtual 438, 3) := by decide +kernel
theorem dX7_readScript_210 : decode cX7_readScript 210 = .ok (.iinc 2 1, 3) := by decide +kernel
theorem dX7_readScript_213 : decode cX7_readScript 213 = .ok (.goto (-186), 3) := by decide +kernel
theorem dX7_readScript_216 : decode cX7_readScript 216 = .ok (.return_, 1) := by decide +kernel
theorem dX7_takeCommandWord_0 : decode cX7_takeCommandWord 0 = .ok (.aload_n 0, 1) := by decide +kernel
theorem dX7_takeCommandWord_1 : decode cX7_takeCommandWord 1 = .ok (.getfield 53, 3) := by decide +kernel
theorem dX7_takeCommandWord_4 : decode cX7_takeCommandWord 4 = .ok (.invokevirtual 447, 3) := by decide +kernel
theorem dX7_takeCommandWord_7 : decode cX7_takeCommandWord 7 = .ok (.istore_n 1, 1) := by decide +kernel
theorem dX7_takeCommandWord_8 : decode cX7_takeCommandWord 8 = .ok (.iload_n 1, 1) := by decide +kernel
theorem dX7_takeCommandWord_9 : decode cX7_takeCommandWord 9 = .ok (.invokestatic 487, 3) := by decide +kernel
theorem dX7_takeCommandWord_12 : decode cX7_takeCommandWord 12 = .ok (.ifCond .ne 14, 3) := by decide +kernel
theorem dX7_takeCommandWord_15 : decode cX7_takeCommandWord 15 = .ok (.aload_n 0, 1) := by decide +kernel
theorem dX7_takeCommandWord_16 : decode cX7_takeCommandWord 16 = .ok (.getfield 53, 3) := by decide +kernel
theorem dX7_takeCommandWord_19 : decode cX7_takeCommandWord 19 = .ok (.iconst 1, 1) := by decide +kernel
theorem dX7_takeCommandWord_20 : decode cX7_takeCommandWord 20 = .ok (.invokevirtual 456, 3) := by decide +kernel
theorem dX7_takeCommandWord_23 : decode cX7_takeCommandWord 23 = .ok (.goto 23, 3) := by decide +kernel
theorem dX7_takeCommandWord_26 : decode cX7_takeCommandWord 26 = .ok (.aload_n 0, 1) := by decide +kernel
theorem dX7_takeCommandWord_27 : decode cX7_takeCommandWord 27 = .ok (.getfield 60, 3) := by decide +kernel
theorem dX7_takeCommandWord_30 : decode cX7_takeCommandWord 30 = .ok (.getfield 139, 3) := by decide +kernel
theorem dX7_takeCommandWord_33 : decode cX7_takeCommandWord 33 = .ok (.bipush 40, 2) := by decide +kernel
theorem dX7_takeCommandWord_35 : decode cX7_takeCommandWord 35 = .ok (.if_icmp .lt 11, 3) := by decide +kernel
theorem dX7_takeCommandWord_38 : decode cX7_takeCommandWord 38 = .ok (.aload_n 0, 1) := by decide +kernel
theorem dX7_takeCommandWord_39 : decode cX7_takeCommandWord 39 = .ok (.getfield 53, 3) := by decide +kernel
theorem dX7_takeCommandWord_42 : decode cX7_takeCommandWord 42 = .ok (.iconst 4, 1) := by decide +kernel
theorem dX7_takeCommandWord_43 : decode cX7_takeCommandWord 43 = .ok (.invokevirtual 456, 3) := by decide +kernel
theorem dX7_takeCommandWord_46 : decode cX7_takeCommandWord 46 = .ok (.aload_n 0, 1) := by decide +kernel
theorem dX7_takeCommandWord_47 : decode cX7_takeCommandWord 47 = .ok (.getfield 53, 3) := by decide +kernel
theorem dX7_takeCommandWord_50 : decode cX7_takeCommandWord 50 = .ok (.iload_n 1, 1) := by decide +kernel
theorem dX7_takeCommandWord_51 : decode cX7_takeCommandWord 51 = .ok (.invokevirtual 438, 3) := by decide +kernel
theorem dX7_takeCommandWord_54 : decode cX7_takeCommandWord 54 = .ok (.aload_n 0, 1) := by decide +kernel
theorem dX7_takeCommandWord_55 : decode cX7_takeCommandWord 55 = .ok (.getfield 60, 3) := by decide +kernel
theorem dX7_takeCommandWord_58 : decode cX7_takeCommandWord 58 = .ok (.iload_n 1, 1) := by decide +kernel
theorem dX7_takeCommandWord_59 : decode cX7_takeCommandWord 59 = .ok (.invokevirtual 490, 3) := by decide +kernel
theorem dX7_takeCommandWord_62 : decode cX7_takeCommandWord 62 = .ok (.iload_n 1, 1) := by decide +kernel
theorem dX7_takeCommandWord_63 : decode cX7_takeCommandWord 63 = .ok (.ireturn, 1) := by decide +kernel
theorem dX7_isCommand_0 : decode cX7_isCommand 0 = .ok (.iload_n 0, 1) := by decide +kernel
theorem dX7_isCommand_1 : decode cX7_isCommand 1 = .ok (.bipush 11, 2) := by decide +kernel
theorem dX7_isCommand_3 : decode cX7_isCommand 3 = .ok (.if_icmp .eq 33, 3) := by decide +kernel
theorem dX7_isCommand_6 : decode cX7_isCommand 6 = .ok (.iload_n 0, 1) := by decide +kernel
theorem dX7_isCommand_7 : decode cX7_isCommand 7 = .ok (.bipush 12, 2) := by decide +kernel
theorem dX7_isCommand_9 : decode cX7_isCommand 9 = .ok (.if_icmp .eq 27, 3) := by decide +kernel
theorem dX7_isCommand_12 : decode cX7_isCommand 12 = .ok (.iload_n 0, 1) := by decide +kernel
theorem dX7_isCommand_13 : decode cX7_isCommand 13 = .ok (.bipush 13, 2) := by decide +kernel
theorem dX7_isCommand_15 : decode cX7_isCommand 15 = .ok (.if_icmp .eq 21, 3) := by decide +kernel
theorem dX7_isCommand_18 : decode cX7_isCommand 18 = .ok (.iload_n 0, 1) := by decide +kernel
theorem dX7_isCommand_19 : decode cX7_isCommand 19 = .ok (.bipush 14, 2) := by decide +kernel
theorem dX7_isCommand_21 : decode cX7_isCommand 21 = .ok (.if_icmp .eq 15, 3) := by decide +kernel
theorem dX7_isCommand_24 : decode cX7_isCommand 24 = .ok (.iload_n 0, 1) := by decide +kernel
theorem dX7_isCommand_25 : decode cX7_isCommand 25 = .ok (.bipush 15, 2) := by decide +kernel
theorem dX7_isCommand_27 : decode cX7_isCommand 27 = .ok (.if_icmp .eq 9, 3) := by decide +kernel
theorem dX7_isCommand_30 : decode cX7_isCommand 30 = .ok (.iload_n 0, 1) := by decide +kernel
theorem dX7_isCommand_31 : decode cX7_isCommand 31 = .ok (.bipush 10, 2) := by decide +kernel
theorem dX7_isCommand_33 : decode cX7_isCommand 33 = .ok (.if_icmp .ne 7, 3) := by decide +kernel
theorem dX7_isCommand_36 : decode cX7_isCommand 36 = .ok (.iconst 1, 1) := by decide +kernel
theorem dX7_isCommand_37 : decode cX7_isCommand 37 = .ok (.goto 4, 3) := by decide +kernel
theorem dX7_isCommand_40 : decode cX7_isCommand 40 = .ok (.iconst 0, 1) := by decide +kernel
theorem dX7_isCommand_41 : decode cX7_isCommand 41 = .ok (.ireturn, 1) := by decide +kernel
theorem dX7_readReports_0 : decode cX7_readReports 0 = .ok (.iconst 0, 1) := by decide +kernel
theorem dX7_readReports_1 : decode cX7_readReports 1 = .ok (.istore_n 1, 1) := by decide +kernel
theorem dX7_readReports_2 : decode cX7_readReports 2 = .ok (.iconst 0, 1) := by decide +kernel
theorem dX7_readReports_3 : decode cX7_readReports 3 = .ok (.istore_n 2, 1) := by decide +kernel
theorem dX7_readReports_4 : decode cX7_readReports 4 = .ok (.iload_n 2, 1) := by decide +kernel
theorem dX7_readReports_5 : decode cX7_readReports 5 = .ok (.bipush 10, 2) := by decide +kernel
theorem dX7_readReports_7 : decode cX7_readReports 7 = .ok (.if_icmp .gt 106, 3) := by decide +kernel
theorem dX7_readReports_10 : decode cX7_readReports 10 = .ok (.aload_n 0, 1) := by decide +kernel
theorem dX7_readReports_11 : decode cX7_readReports 11 = .ok (.getfield 53, 3) := by decide +kernel
theorem dX7_readReports_14 : decode cX7_readReports 14 = .ok (.invokevirtual 444, 3) := by decide +kernel
theorem dX7_readReports_17 : decode cX7_readReports 17 = .ok (.ifCond .eq 96, 3) := by decide +kernel
theorem dX7_readReports_20 : decode cX7_readReports 20 = .ok (.aload_n 0, 1) := by decide +kernel
theorem dX7_readReports_21 : decode cX7_readReports 21 = .ok (.getfield 53, 3) := by decide +kernel
theorem dX7_readReports_24 : decode cX7_readReports 24 = .ok (.invokevirtual 447, 3) := by decide +kernel
theorem dX7_readReports_27 : decode cX7_readReports 27 = .ok (.iconst 1, 1) := by decide +kernel
theorem dX7_readReports_28 : decode cX7_readReports 28 = .ok (.if_icmp .ne 85, 3) := by decide +kernel
theorem dX7_readReports_31 : decode cX7_readReports 31 = .ok (.aload_n 0, 1) := by decide +kernel
theorem dX7_readReports_32 : decode cX7_readReports 32 = .ok (.getfield 53, 3) := by decide +kernel
theorem dX7_readReports_35 : decode cX7_readReports 35 = .ok (.iconst 0, 1) := by decide +kernel
theorem dX7_readReports_36 : decode cX7_readReports 36 = .ok (.aload_n 0, 1) := by decide +kernel
theorem dX7_readReports_37 : decode cX7_readReports 37 = .ok (.getfield 10, 3) := by decide +kernel
theorem dX7_readReports_40 : decode cX7_readReports 40 = .ok (.getfield 88, 3) := by decide +kernel
theorem dX7_readReports_43 : decode cX7_readReports 43 = .ok (.getfield 133, 3) := by decide +kernel
theorem dX7_readReports_46 : decode cX7_readReports 46 = .ok (.iconst 1, 1) := by decide +kernel
theorem dX7_readReports_47 : decode cX7_readReports 47 = .ok (.isub, 1) := by decide +kernel
theorem dX7_readReports_48 : decode cX7_readReports 48 = .ok (.invokevirtual 459, 3) := by decide +kernel
theorem dX7_readReports_51 : decode cX7_readReports 51 = .ok (.istore_n 3, 1) := by decide +kernel
theorem dX7_readReports_52 : decode cX7_readReports 52 = .ok (.iload_n 1, 1) := by decide +kernel
theorem dX7_readReports_53 : decode cX7_readReports 53 = .ok (.iload_n 3, 1) := by decide +kernel
theorem dX7_readReports_54 : decode cX7_readReports 54 = .ok (.invokestatic 215, 3) := by decide +kernel
theorem dX7_readReports_57 : decode cX7_readReports 57 = .ok (.ifCond .eq 11, 3) := by decide +kernel
theorem dX7_readReports_60 : decode cX7_readReports 60 = .ok (.aload_n 0, 1) := by decide +kernel
theorem dX7_readReports_61 : decode cX7_readReports 61 = .ok (.getfield 53, 3) := by decide +kernel
theorem dX7_readReports_64 : decode cX7_readReports 64 = .ok (.iconst 3, 1) := by decide +kernel
theorem dX7_readReports_65 : decode cX7_readReports 65 = .ok (.invokevirtual 456, 3) := by decide +kernel
theorem dX7_readReports_68 : decode cX7_readReports 68 = .ok (.aload_n 0, 1) := by decide +kernel
theorem dX7_readReports_69 : decode cX7_readReports 69 = .ok (.getfield 53, 3) := by decide +kernel
theorem dX7_readReports_72 : decode cX7_readReports 72 = .ok (.iconst 1, 1) := by decide +kernel
theorem dX7_readReports_73 : decode cX7_readReports 73 = .ok (.invokevirtual 438, 3) := by decide +kernel
theorem dX7_readReports_76 : decode cX7_readReports 76 = .ok (.iload_n 1, 1) := by decide +kernel
theorem dX7_readReports_77 : decode cX7_readReports 77 = .ok (.iconst 1, 1) := by decide +kernel
theorem dX7_readReports_78 : decode cX7_readReports 78 = .ok (.iload_n 3, 1) := by decide +kernel
theorem dX7_readReports_79 : decode cX7_readReports 79 = .ok (.ishl, 1) := by decide +kernel
theorem dX7_readReports_80 : decode cX7_readReports 80 = .ok (.ior, 1) := by decide +kernel
theorem dX7_readReports_81 : decode cX7_readReports 81 = .ok (.istore_n 1, 1) := by decide +kernel
theorem dX7_readReports_82 : decode cX7_readReports 82 = .ok (.aload_n 0, 1) := by decide +kernel
theorem dX7_readReports_83 : decode cX7_readReports 83 = .ok (.getfield 60, 3) := by decide +kernel
theorem dX7_readReports_86 : decode cX7_readReports 86 = .ok (.iload_n 3, 1) := by decide +kernel
theorem dX7_readReports_87 : decode cX7_readReports 87 = .ok (.invokevirtual 482, 3) := by decide +kernel
theorem dX7_readReports_90 : decode cX7_readReports 90 = .ok (.aload_n 0, 1) := by decide +kernel
theorem dX7_readReports_91 : decode cX7_readReports 91 = .ok (.getfield 60, 3) := by decide +kernel
theorem dX7_readReports_94 : decode cX7_readReports 94 = .ok (.aload_n 0, 1) := by decide +kernel
theorem dX7_readReports_95 : decode cX7_readReports 95 = .ok (.getfield 53, 3) := by decide +kernel
theorem dX7_readReports_98 : decode cX7_readReports 98 = .ok (.sipush 9999, 3) := by decide +kernel
theorem dX7_readReports_101 : decode cX7_readReports 101 = .ok (.invokevirtual 468, 3) := by decide +kernel
theorem dX7_readReports_104 : decode cX7_readReports 104 = .ok (.invokevirtual 482, 3) := by decide +kernel
theorem dX7_readReports_107 : decode cX7_readReports 107 = .ok (.iinc 2 1, 3) := by decide +kernel
theorem dX7_readReports_110 : decode cX7_readReports 110 = .ok (.goto (-106), 3) := by decide +kernel
theorem dX7_readReports_113 : decode cX7_readReports 113 = .ok (.return_, 1) := by decide +kernel
theorem dX7_readHitBuoys_0 : decode cX7_readHitBuoys 0 = .ok (.aload_n 0, 1) := by decide +kernel
theorem dX7_readHitBuoys_1 : decode cX7_readHitBuoys 1 = .ok (.getfield 10, 3) := by decide +kernel
theorem dX7_readHitBuoys_4 : decode cX7_readHitBuoys 4 = .ok (.getfield 88, 3) := by decide +kernel
theorem dX7_readHitBuoys_7 : decode cX7_readHitBuoys 7 = .ok (.getfield 133, 3) := by decide +kernel
theorem dX7_readHitBuoys_10 : decode cX7_readHitBuoys 10 = .ok (.iconst 1, 1) := by decide +kernel
theorem dX7_readHitBuoys_11 : decode cX7_readHitBuoys 11 = .ok (.isub, 1) := by decide +kernel
theorem dX7_readHitBuoys_12 : decode cX7_readHitBuoys 12 = .ok (.istore_n 1, 1) := by decide +kernel
theorem dX7_readHitBuoys_13 : decode cX7_readHitBuoys 13 = .ok (.aload_n 0, 1) := by decide +kernel
theorem dX7_readHitBuoys_14 : decode cX7_readHitBuoys 14 = .ok (.getfield 53, 3) := by decide +kernel
theorem dX7_readHitBuoys_17 : decode cX7_readHitBuoys 17 = .ok (.iconst 0, 1) := by decide +kernel
theorem dX7_readHitBuoys_18 : decode cX7_readHitBuoys 18 = .ok (.iload_n 1, 1) := by decide +kernel
theorem dX7_readHitBuoys_19 : decode cX7_readHitBuoys 19 = .ok (.invokevirtual 441, 3) := by decide +kernel
theorem dX7_readHitBuoys_22 : decode cX7_readHitBuoys 22 = .ok (.istore_n 2, 1) := by decide +kernel
theorem dX7_readHitBuoys_23 : decode cX7_readHitBuoys 23 = .ok (.aload_n 0, 1) := by decide +kernel
theorem dX7_readHitBuoys_24 : decode cX7_readHitBuoys 24 = .ok (.getfield 53, 3) := by decide +kernel
theorem dX7_readHitBuoys_27 : decode cX7_readHitBuoys 27 = .ok (.iconst 0, 1) := by decide +kernel
theorem dX7_readHitBuoys_28 : decode cX7_readHitBuoys 28 = .ok (.iload_n 1, 1) := by decide +kernel
theorem dX7_readHitBuoys_29 : decode cX7_readHitBuoys 29 = .ok (.invokevirtual 459, 3) := by decide +kernel
theorem dX7_readHitBuoys_32 : decode cX7_readHitBuoys 32 = .ok (.istore_n 3, 1) := by decide +kernel
theorem dX7_readHitBuoys_33 : decode cX7_readHitBuoys 33 = .ok (.iload_n 3, 1) := by decide +kernel
theorem dX7_readHitBuoys_34 : decode cX7_readHitBuoys 34 = .ok (.iload_n 2, 1) := by decide +kernel
theorem dX7_readHitBuoys_35 : decode cX7_readHitBuoys 35 = .ok (.if_icmp .ge 11, 3) := by decide +kernel
theorem dX7_readHitBuoys_38 : decode cX7_readHitBuoys 38 = .ok (.aload_n 0, 1) := by decide +kernel
theorem dX7_readHitBuoys_39 : decode cX7_readHitBuoys 39 = .ok (.getfield 53, 3) := by decide +kernel
theorem dX7_readHitBuoys_42 : decode cX7_readHitBuoys 42 = .ok (.iconst 3, 1) := by decide +kernel
theorem dX7_readHitBuoys_43 : decode cX7_readHitBuoys 43 = .ok (.invokevirtual 456, 3) := by decide +kernel
theorem dX7_readHitBuoys_46 : decode cX7_readHitBuoys 46 = .ok (.aload_n 0, 1) := by decide +kernel
theorem dX7_readHitBuoys_47 : decode cX7_readHitBuoys 47 = .ok (.getfield 53, 3) := by decide +kernel
theorem dX7_readHitBuoys_50 : decode cX7_readHitBuoys 50 = .ok (.iconst 1, 1) := by decide +kernel
theorem dX7_readHitBuoys_51 : decode cX7_readHitBuoys 51 = .ok (.invokevirtual 438, 3) := by decide +kernel
theorem dX7_readHitBuoys_54 : decode cX7_readHitBuoys 54 = .ok (.aload_n 0, 1) := by decide +kernel
theorem dX7_readHitBuoys_55 : decode cX7_readHitBuoys 55 = .ok (.getfield 60, 3) := by decide +kernel
theorem dX7_readHitBuoys_58 : decode cX7_readHitBuoys 58 = .ok (.iload_n 2, 1) := by decide +kernel
theorem dX7_readHitBuoys_59 : decode cX7_readHitBuoys 59 = .ok (.invokevirtual 482, 3) := by decide +kernel
theorem dX7_readHitBuoys_62 : decode cX7_readHitBuoys 62 = .ok (.aload_n 0, 1) := by decide +kernel
theorem dX7_readHitBuoys_63 : decode cX7_readHitBuoys 63 = .ok (.getfield 60, 3) := by decide +kernel
theorem dX7_readHitBuoys_66 : decode cX7_readHitBuoys 66 = .ok (.iload_n 3, 1) := by decide +kernel
theorem dX7_readHitBuoys_67 : decode cX7_readHitBuoys 67 = .ok (.invokevirtual 482, 3) := by decide +kernel
theorem dX7_readHitBuoys_70 : decode cX7_readHitBuoys 70 = .ok (.return_, 1) := by decide +kernel
theorem dX7_runCommand_0 : decode cX7_runCommand 0 = .ok (.aload_n 0, 1) := by decide +kernel
theorem dX7_runCommand_1 : decode cX7_runCommand 1 = .ok (.getfield 60, 3) := by decide +kernel
theorem dX7_runCommand_4 : decode cX7_runCommand 4 = .ok (.iload_n 1, 1) := by decide +kernel
theorem dX7_runCommand_5 : decode cX7_runCommand 5 = .ok (.iconst 0, 1) := by decide +kernel
theorem dX7_runCommand_6 : decode cX7_runCommand 6 = .ok (.invokevirtual 493, 3) := by decide +kernel
theorem dX7_runCommand_9 : decode cX7_runCommand 9 = .ok (.istore_n 2, 1) := by decide +kernel
theorem dX7_runCommand_10 : decode cX7_runCommand 10 = .ok (.aload_n 0, 1) := by decide +kernel
theorem dX7_runCommand_11 : decode cX7_runCommand 11 = .ok (.getfield 60, 3) := by decide +kernel
theorem dX7_runCommand_14 : decode cX7_runCommand 14 = .ok (.iload_n 1, 1) := by decide +kernel
theorem dX7_runCommand_15 : decode cX7_runCommand 15 = .ok (.invokevirtual 496, 3) := by decide +kernel
theorem dX7_runCommand_18 : decode cX7_runCommand 18 = .ok (.tableswitch 184 10 15 #[170, 38, 96, 128, 142, 156], 38) := by decide +kernel
theorem dX7_runCommand_56 : decode cX7_runCommand 56 = .ok (.iconst 0, 1) := by decide +kernel
theorem dX7_runCommand_57 : decode cX7_runCommand 57 = .ok (.istore_n 3, 1) := by decide +kernel
theorem dX7_runCommand_58 : decode cX7_runCommand 58 = .ok (.iload_n 3, 1) := by decide +kernel
theorem dX7_runCommand_59 : decode cX7_runCommand 59 = .ok (.aload_n 0, 1) := by decide +kernel
theorem dX7_runCommand_60 : decode cX7_runCommand 60 = .ok (.getfield 60, 3) := by decide +kernel
theorem dX7_runCommand_63 : decode cX7_runCommand 63 = .ok (.iload_n 1, 1) := by decide +kernel
theorem dX7_runCommand_64 : decode cX7_runCommand 64 = .ok (.invokevirtual 499, 3) := by decide +kernel
theorem dX7_runCommand_67 : decode cX7_runCommand 67 = .ok (.if_icmp .ge 34, 3) := by decide +kernel
theorem dX7_runCommand_70 : decode cX7_runCommand 70 = .ok (.aload_n 0, 1) := by decide +kernel
theorem dX7_runCommand_71 : decode cX7_runCommand 71 = .ok (.aload_n 0, 1) := by decide +kernel
theorem dX7_runCommand_72 : decode cX7_runCommand 72 = .ok (.getfield 60, 3) := by decide +kernel
theorem dX7_runCommand_75 : decode cX7_runCommand 75 = .ok (.iload_n 1, 1) := by decide +kernel
theorem dX7_runCommand_76 : decode cX7_runCommand 76 = .ok (.iload_n 3, 1) := by decide +kernel
theorem dX7_runCommand_77 : decode cX7_runCommand 77 = .ok (.invokevirtual 493, 3) := by decide +kernel
theorem dX7_runCommand_80 : decode cX7_runCommand 80 = .ok (.aload_n 0, 1) := by decide +kernel
theorem dX7_runCommand_81 : decode cX7_runCommand 81 = .ok (.getfield 60, 3) := by decide +kernel
theorem dX7_runCommand_84 : decode cX7_runCommand 84 = .ok (.iload_n 1, 1) := by decide +kernel
theorem dX7_runCommand_85 : decode cX7_runCommand 85 = .ok (.iload_n 3, 1) := by decide +kernel
theorem dX7_runCommand_86 : decode cX7_runCommand 86 = .ok (.iconst 1, 1) := by decide +kernel
theorem dX7_runCommand_87 : decode cX7_runCommand 87 = .ok (.iadd, 1) := by decide +kernel
theorem dX7_runCommand_88 : decode cX7_runCommand 88 = .ok (.invokevirtual 493, 3) := by decide +kernel
theorem dX7_runCommand_91 : decode cX7_runCommand 91 = .ok (.invokevirtual 502, 3) := by decide +kernel
theorem dX7_runCommand_94 : decode cX7_runCommand 94 = .ok (.pop, 1) := by decide +kernel
theorem dX7_runCommand_95 : decode cX7_runCommand 95 = .ok (.iinc 3 2, 3) := by decide +kernel
theorem dX7_runCommand_98 : decode cX7_runCommand 98 = .ok (.goto (-40), 3) := by decide +kernel
theorem dX7_runCommand_101 : decode cX7_runCommand 101 = .ok (.aload_n 0, 1) := by decide +kernel
theorem dX7_runCommand_102 : decode cX7_runCommand 102 = .ok (.invokevirtual 505, 3) := by decide +kernel
theorem dX7_runCommand_105 : decode cX7_runCommand 105 = .ok (.ifCond .lt 7, 3) := by decide +kernel
theorem dX7_runCommand_108 : decode cX7_runCommand 108 = .ok (.iconst 1, 1) := by decide +kernel
theorem dX7_runCommand_109 : decode cX7_runCommand 109 = .ok (.goto 4, 3) := by decide +kernel
theorem dX7_runCommand_112 : decode cX7_runCommand 112 = .ok (.iconst 0, 1) := by decide +kernel
theorem dX7_runCommand_113 : decode cX7_runCommand 113 = .ok (.ireturn, 1) := by decide +kernel
theorem dX7_runCommand_114 : decode cX7_runCommand 114 = .ok (.aload_n 0, 1) := by decide +kernel
theorem dX7_runCommand_115 : decode cX7_runCommand 115 = .ok (.iload_n 2, 1) := by decide +kernel
theorem dX7_runCommand_116 : decode cX7_runCommand 116 = .ok (.aload_n 0, 1) := by decide +kernel
theorem dX7_runCommand_117 : decode cX7_runCommand 117 = .ok (.getfield 60, 3) := by decide +kernel
theorem dX7_runCommand_120 : decode cX7_runCommand 120 = .ok (.iload_n 1, 1) := by decide +kernel
theorem dX7_runCommand_121 : decode cX7_runCommand 121 = .ok (.iconst 1, 1) := by decide +kernel
theorem dX7_runCommand_122 : decode cX7_runCommand 122 = .ok (.invokevirtual 493, 3) := by decide +kernel
theorem dX7_runCommand_125 : decode cX7_runCommand 125 = .ok (.aload_n 0, 1) := by decide +kernel
theorem dX7_runCommand_126 : decode cX7_runCommand 126 = .ok (.getfield 60, 3) := by decide +kernel
theorem dX7_runCommand_129 : decode cX7_runCommand 129 = .ok (.iload_n 1, 1) := by decide +kernel
theorem dX7_runCommand_130 : decode cX7_runCommand 130 = .ok (.iconst 2, 1) := by decide +kernel
theorem dX7_runCommand_131 : decode cX7_runCommand 131 = .ok (.invokevirtual 493, 3) := by decide +kernel
theorem dX7_runCommand_134 : decode cX7_runCommand 134 = .ok (.invokevirtual 508, 3) := by decide +kernel
theorem dX7_runCommand_137 : decode cX7_runCommand 137 = .ok (.ifCond .lt 7, 3) := by decide +kernel
theorem dX7_runCommand_140 : decode cX7_runCommand 140 = .ok (.iconst 1, 1) := by decide +kernel
theorem dX7_runCommand_141 : decode cX7_runCommand 141 = .ok (.goto 4, 3) := by decide +kernel
theorem dX7_runCommand_144 : decode cX7_runCommand 144 = .ok (.iconst 0, 1) := by decide +kernel
theorem dX7_runCommand_145 : decode cX7_runCommand 145 = .ok (.ireturn, 1) := by decide +kernel
theorem dX7_runCommand_146 : decode cX7_runCommand 146 = .ok (.aload_n 0, 1) := by decide +kernel
theorem dX7_runCommand_147 : decode cX7_runCommand 147 = .ok (.iload_n 2, 1) := by decide +kernel
theorem dX7_runCommand_148 : decode cX7_runCommand 148 = .ok (.invokevirtual 511, 3) := by decide +kernel
theorem dX7_runCommand_151 : decode cX7_runCommand 151 = .ok (.ifCond .lt 7, 3) := by decide +kernel
theorem dX7_runCommand_154 : decode cX7_runCommand 154 = .ok (.iconst 1, 1) := by decide +kernel
theorem dX7_runCommand_155 : decode cX7_runCommand 155 = .ok (.goto 4, 3) := by decide +kernel
theorem dX7_runCommand_158 : decode cX7_runCommand 158 = .ok (.iconst 0, 1) := by decide +kernel
theorem dX7_runCommand_159 : decode cX7_runCommand 159 = .ok (.ireturn, 1) := by decide +kernel
theorem dX7_runCommand_160 : decode cX7_runCommand 160 = .ok (.aload_n 0, 1) := by decide +kernel
theorem dX7_runCommand_161 : decode cX7_runCommand 161 = .ok (.iload_n 2, 1) := by decide +kernel
theorem dX7_runCommand_162 : decode cX7_runCommand 162 = .ok (.invokevirtual 514, 3) := by decide +kernel
theorem dX7_runCommand_165 : decode cX7_runCommand 165 = .ok (.ifCond .lt 7, 3) := by decide +kernel
theorem dX7_runCommand_168 : decode cX7_runCommand 168 = .ok (.iconst 1, 1) := by decide +kernel
theorem dX7_runCommand_169 : decode cX7_runCommand 169 = .ok (.goto 4, 3) := by decide +kernel
theorem dX7_runCommand_172 : decode cX7_runCommand 172 = .ok (.iconst 0, 1) := by decide +kernel
theorem dX7_runCommand_173 : decode cX7_runCommand 173 = .ok (.ireturn, 1) := by decide +kernel
theorem dX7_runCommand_174 : decode cX7_runCommand 174 = .ok (.aload_n 0, 1) := by decide +kernel
theorem dX7_runCommand_175 : decode cX7_runCommand 175 = .ok (.iload_n 2, 1) := by decide +kernel
theorem dX7_runCommand_176 : decode cX7_runCommand 176 = .ok (.invokevirtual 517, 3) := by decide +kernel
theorem dX7_runCommand_179 : decode cX7_runCommand 179 = .ok (.ifCond .lt 7, 3) := by decide +kernel
theorem dX7_runCommand_182 : decode cX7_runCommand 182 = .ok (.iconst 1, 1) := by decide +kernel
theorem dX7_runCommand_183 : decode cX7_runCommand 183 = .ok (.goto 4, 3) := by decide +kernel
theorem dX7_runCommand_186 : decode cX7_runCommand 186 = .ok (.iconst 0, 1) := by decide +kernel
theorem dX7_runCommand_187 : decode cX7_runCommand 187 = .ok (.ireturn, 1) := by decide +kernel
theorem dX7_runCommand_188 : decode cX7_runCommand 188 = .ok (.aload_n 0, 1) := by decide +kernel
theorem dX7_runCommand_189 : decode cX7_runCommand 189 = .ok (.iload_n 2, 1) := by decide +kernel
theorem dX7_runCommand_190 : decode cX7_runCommand 190 = .ok (.invokevirtual 520, 3) := by decide +kernel
theorem dX7_runCommand_193 : decode cX7_runCommand 193 = .ok (.ifCond .lt 7, 3) := by decide +kernel
theorem dX7_runCommand_196 : decode cX7_runCommand 196 = .ok (.iconst 1, 1) := by decide +kernel
theorem dX7_runCommand_197 : decode cX7_runCommand 197 = .ok (.goto 4, 3) := by decide +kernel
theorem dX7_runCommand_200 : decode cX7_runCommand 200 = .ok (.iconst 0, 1) := by decide +kernel
theorem dX7_runCommand_201 : decode cX7_runCommand 201 = .ok (.ireturn, 1) := by decide +kernel
theorem dX7_runCommand_202 : decode cX7_runCommand 202 = .ok (.iconst 0, 1) := by decide +kernel
theorem dX7_runCommand_203 : decode cX7_runCommand 203 = .ok (.ireturn, 1) := by decide +kernel
theorem dX8_init_0 : decode cX8_init 0 = .ok (.aload_n 0, 1) := by decide +kernel
theorem dX8_init_1 : decode cX8_init 1 = .ok (.invokespecial 1, 3) := by decide +kernel
theorem dX8_init_4 : decode cX8_init 4 = .ok (.aload_n 0, 1) := by decide +kernel
theorem dX8_init_5 : decode cX8_init 5 = .ok (.sipush 574, 3) := by decide +kernel
theorem dX8_init_8 : decode cX8_init 8 = .ok (.newarray .int, 2) := by decide +kernel
theorem dX8_init_10 : decode cX8_init 10 = .ok (.putfield 7, 3) := by decide +kernel
theorem dX8_init_13 : decode cX8_init 13 = .ok (.aload_n 0, 1) := by decide +kernel
theorem dX8_init_14 : decode cX8_init 14 = .ok (.sipush 574, 3) := by decide +kernel
theorem dX8_init_17 : decode cX8_init 17 = .ok (.newarray .int, 2) := by decide +kernel
theorem dX8_init_19 : decode cX8_init 19 = .ok (.putfield 13, 3) := by decide +kernel
theorem dX8_init_22 : decode cX8_init 22 = .ok (.aload_n 0, 1) := by decide +kernel
theorem dX8_init_23 : decode cX8_init 23 = .ok (.sipush 574, 3) := by decide +kernel
theorem dX8_init_26 : decode cX8_init 26 = .ok (.newarray .int, 2) := by decide +kernel
theorem dX8_init_28 : decode cX8_init 28 = .ok (.putfield 16, 3) := by decide +kernel
theorem dX8_init_31 : decode cX8_init 31 = .ok (.aload_n 0, 1) := by decide +kernel
theorem dX8_init_32 : decode cX8_init 32 = .ok (.sipush 4592, 3) := by decide +kernel
theorem dX8_init_35 : decode cX8_init 35 = .ok (.newarray .int, 2) := by decide +kernel
theorem dX8_init_37 : decode cX8_init 37 = .ok (.putfield 19, 3) := by decide +kernel
theorem dX8_init_40 : decode cX8_init 40 = .ok (.aload_n 0, 1) := by decide +kernel
theorem dX8_init_41 : decode cX8_init 41 = .ok (.sipush 1148, 3) := by decide +kernel
theorem dX8_init_44 : decode cX8_init 44 = .ok (.newarray .int, 2) := by decide +kernel
theorem dX8_init_46 : decode cX8_init 46 = .ok (.putfield 22, 3) := by decide +kernel
theorem dX8_init_49 : decode cX8_init 49 = .ok (.aload_n 0, 1) := by decide +kernel
theorem dX8_init_50 : decode cX8_init 50 = .ok (.iconst 2, 1) := by decide +kernel
theorem dX8_init_51 : decode cX8_init 51 = .ok (.newarray .boolean, 2) := by decide +kernel
theorem dX8_init_53 : decode cX8_init 53 = .ok (.putfield 25, 3) := by decide +kernel
theorem dX8_init_56 : decode cX8_init 56 = .ok (.aload_n 0, 1) := by decide +kernel
theorem dX8_init_57 : decode cX8_init 57 = .ok (.iconst 5, 1) := by decide +kernel
theorem dX8_init_58 : decode cX8_init 58 = .ok (.newarray .int, 2) := by decide +kernel
theorem dX8_init_60 : decode cX8_init 60 = .ok (.putfield 29, 3) := by decide +kernel
theorem dX8_init_63 : decode cX8_init 63 = .ok (.aload_n 0, 1) := by decide +kernel
theorem dX8_init_64 : decode cX8_init 64 = .ok (.sipush 500, 3) := by decide +kernel
theorem dX8_init_67 : decode cX8_init 67 = .ok (.newarray .byte, 2) := by decide +kernel
theorem dX8_init_69 : decode cX8_init 69 = .ok (.putfield 32, 3) := by decide +kernel
theorem dX8_init_72 : decode cX8_init 72 = .ok (.aload_n 0, 1) := by decide +kernel
theorem dX8_init_73 : decode cX8_init 73 = .ok (.iconst (-1), 1) := by decide +kernel
theorem dX8_init_74 : decode cX8_init 74 = .ok (.putfield 36, 3) := by decide +kernel
theorem dX8_init_77 : decode cX8_init 77 = .ok (.aload_n 0, 1) := by decide +kernel
theorem dX8_init_78 : decode cX8_init 78 = .ok (.bipush 10, 2) := by decide +kernel
theorem dX8_init_80 : decode cX8_init 80 = .ok (.newarray .int, 2) := by decide +kernel
theorem dX8_init_82 : decode cX8_init 82 = .ok (.putfield 40, 3) := by decide +kernel
theorem dX8_init_85 : decode cX8_init 85 = .ok (.aload_n 0, 1) := by decide +kernel
theorem dX8_init_86 : decode cX8_init 86 = .ok (.sipush 600, 3) := by decide +kernel
theorem dX8_init_89 : decode cX8_init 89 = .ok (.newarray .int, 2) := by decide +kernel
theorem dX8_init_91 : decode cX8_init 91 = .ok (.putfield 43, 3) := by decide +kernel
theorem dX8_init_94 : decode cX8_init 94 = .ok (.aload_n 0, 1) := by decide +kernel
theorem dX8_init_95 : decode cX8_init 95 = .ok (.sipush 400, 3) := by decide +kernel
theorem dX8_init_98 : decode cX8_init 98 = .ok (.newarray .int, 2) := by decide +kernel
theorem dX8_init_100 : decode cX8_init 100 = .ok (.putfield 46, 3) := by decide +kernel
theorem dX8_init_103 : decode cX8_init 103 = .ok (.aload_n 0, 1) := by decide +kernel
theorem dX8_init_104 : decode cX8_init 104 = .ok (.getfield 7, 3) := by decide +kernel
theorem dX8_init_107 : decode cX8_init 107 = .ok (.invokestatic 49, 3) := by decide +kernel
theorem dX8_init_110 : decode cX8_init 110 = .ok (.aload_n 0, 1) := by decide +kernel
theorem dX8_init_111 : decode cX8_init 111 = .ok (.getfield 7, 3) := by decide +kernel
theorem dX8_init_114 : decode cX8_init 114 = .ok (.iconst 0, 1) := by decide +kernel
theorem dX8_init_115 : decode cX8_init 115 = .ok (.iconst 2, 1) := by decide +kernel
theorem dX8_init_116 : decode cX8_init 116 = .ok (.iastore, 1) := by decide +kernel
theorem dX8_init_117 : decode cX8_init 117 = .ok (.aload_n 0, 1) := by decide +kernel
theorem dX8_init_118 : decode cX8_init 118 = .ok (.getfield 7, 3) := by decide +kernel
theorem dX8_init_121 : decode cX8_init 121 = .ok (.iconst 1, 1) := by decide +kernel
theorem dX8_init_122 : decode cX8_init 122 = .ok (.bipush 20, 2) := by decide +kernel
theorem dX8_init_124 : decode cX8_init 124 = .ok (.iastore, 1) := by decide +kernel
theorem dX8_init_125 : decode cX8_init 125 = .ok (.aload_n 0, 1) := by decide +kernel
theorem dX8_init_126 : decode cX8_init 126 = .ok (.getfield 7, 3) := by decide +kernel
theorem dX8_init_129 : decode cX8_init 129 = .ok (.iconst 2, 1) := by decide +kernel
theorem dX8_init_130 : decode cX8_init 130 = .ok (.iconst 3, 1) := by decide +kernel
theorem dX8_init_131 : decode cX8_init 131 = .ok (.iastore, 1) := by decide +kernel
theorem dX8_init_132 : decode cX8_init 132 = .ok (.aload_n 0, 1) := by decide +kernel
theorem dX8_init_133 : decode cX8_init 133 = .ok (.getfield 7, 3) := by decide +kernel
theorem dX8_init_136 : decode cX8_init 136 = .ok (.iconst 3, 1) := by decide +kernel
theorem dX8_init_137 : decode cX8_init 137 = .ok (.iconst 2, 1) := by decide +kernel
theorem dX8_init_138 : decode cX8_init 138 = .ok (.iastore, 1) := by decide +kernel
theorem dX8_init_139 : decode cX8_init 139 = .ok (.aload_n 0, 1) := by decide +kernel
theorem dX8_init_140 : decode cX8_init 140 = .ok (.getfield 7, 3) := by decide +kernel
theorem dX8_init_143 : decode cX8_init 143 = .ok (.iconst 0, 1) := by decide +kernel
theorem dX8_init_144 : decode cX8_init 144 = .ok (.iconst 0, 1) := by decide +kernel
theorem dX8_init_145 : decode cX8_init 145 = .ok (.iconst 1, 1) := by decide +kernel
theorem dX8_init_146 : decode cX8_init 146 = .ok (.bipush 9, 2) := by decide +kernel
theorem dX8_init_148 : decode cX8_init 148 = .ok (.iconst 0, 1) := by decide +kernel
theorem dX8_init_149 : decode cX8_init 149 = .ok (.invokestatic 53, 3) := by decide +kernel
theorem dX8_init_152 : decode cX8_init 152 = .ok (.aload_n 0, 1) := by decide +kernel
theorem dX8_init_153 : decode cX8_init 153 = .ok (.getfield 7, 3) := by decide +kernel
theorem dX8_init_156 : decode cX8_init 156 = .ok (.iconst 1, 1) := by decide +kernel
theorem dX8_init_157 : decode cX8_init 157 = .ok (.bipush 100, 2) := by decide +kernel
theorem dX8_init_159 : decode cX8_init 159 = .ok (.iconst 1, 1) := by decide +kernel
theorem dX8_init_160 : decode cX8_init 160 = .ok (.bipush 9, 2) := by decide +kernel
theorem dX8_init_162 : decode cX8_init 162 = .ok (.iconst 0, 1) := by decide +kernel
theorem dX8_init_163 : decode cX8_init 163 = .ok (.invokestatic 53, 3) := by decide +kernel
theorem dX8_init_166 : decode cX8_init 166 = .ok (.return_, 1) := by decide +kernel
theorem dX8_thrown_0 : decode cX8_thrown 0 = .ok (.aload_n 0, 1) := by decide +kernel
theorem dX8_thrown_1 : decode cX8_thrown 1 = .ok (.getfield 57, 3) := by decide +kernel
theorem dX8_thrown_4 : decode cX8_thrown 4 = .ok (.ireturn, 1) := by decide +kernel
theorem dX8_empties_0 : decode cX8_empties 0 = .ok (.iconst 0, 1) := by decide +kernel
theorem dX8_empties_1 : decode cX8_empties 1 = .ok (.istore_n 1, 1) := by decide +kernel
theorem dX8_empties_2 : decode cX8_empties 2 = .ok (.iload_n 1, 1) := by decide +kernel
theorem dX8_empties_3 : decode cX8_empties 3 = .ok (.sipush 574, 3) := by decide +kernel
theorem dX8_empties_6 : decode cX8_empties 6 = .ok (.if_icmp .ge 13, 3) := by decide +kernel
theorem dX8_empties_9 : decode cX8_empties 9 = .ok (.aload_n 0, 1) := by decide +kernel
theorem dX8_empties_10 : decode cX8_empties 10 = .ok (.iload_n 1, 1) := by decide +kernel
theorem dX8_empties_11 : decode cX8_empties 11 = .ok (.iconst 0, 1) := by decide +kernel
theorem dX8_empties_12 : decode cX8_empties 12 = .ok (.iastore, 1) := by decide +kernel
theorem dX8_empties_13 : decode cX8_empties 13 = .ok (.iinc 1 1, 3) := by decide +kernel
theorem dX8_empties_16 : decode cX8_empties 16 = .ok (.goto (-14), 3) := by decide +kernel
theorem dX8_empties_19 : decode cX8_empties 19 = .ok (.iconst 0, 1) := by decide +kernel
theorem dX8_empties_20 : decode cX8_empties 20 = .ok (.istore_n 1, 1) := by decide +kernel
theorem dX8_empties_21 : decode cX8_empties 21 = .ok (.iload_n 1, 1) := by decide +kernel
theorem dX8_empties_22 : decode cX8_empties 22 = .ok (.bipush 10, 2) := by decide +kernel
theorem dX8_empties_24 : decode cX8_empties 24 = .ok (.if_icmp .ge 24, 3) := by decide +kernel
theorem dX8_empties_27 : decode cX8_empties 27 = .ok (.aload_n 0, 1) := by decide +kernel
theorem dX8_empties_28 : decode cX8_empties 28 = .ok (.bipush 82, 2) := by decide +kernel
theorem dX8_empties_30 : decode cX8_empties 30 = .ok (.iload_n 1, 1) := by decide +kernel
theorem dX8_empties_31 : decode cX8_empties 31 = .ok (.iadd, 1) := by decide +kernel
theorem dX8_empties_32 : decode cX8_empties 32 = .ok (.iconst (-1), 1) := by decide +kernel
theorem dX8_empties_33 : decode cX8_empties 33 = .ok (.iastore, 1) := by decide +kernel
theorem dX8_empties_34 : decode cX8_empties 34 = .ok (.aload_n 0, 1) := by decide +kernel
theorem dX8_empties_35 : decode cX8_empties 35 = .ok (.bipush 112, 2) := by decide +kernel
theorem dX8_empties_37 : decode cX8_empties 37 = .ok (.iload_n 1, 1) := by decide +kernel
theorem dX8_empties_38 : decode cX8_empties 38 = .ok (.iadd, 1) := by decide +kernel
theorem dX8_empties_39 : decode cX8_empties 39 = .ok (.bipush 10, 2) := by decide +kernel
theorem dX8_empties_41 : decode cX8_empties 41 = .ok (.iastore, 1) := by decide +kernel
theorem dX8_empties_42 : decode cX8_empties 42 = .ok (.iinc 1 1, 3) := by decide +kernel
theorem dX8_empties_45 : decode cX8_empties 45 = .ok (.goto (-24), 3) := by decide +kernel
theorem dX8_empties_48 : decode cX8_empties 48 = .ok (.return_, 1) := by decide +kernel
theorem dX8_lays_0 : decode cX8_lays 0 = .ok (.aload_n 0, 1) := by decide +kernel
theorem dX8_lays_1 : decode cX8_lays 1 = .ok (.bipush 12, 2) := by decide +kernel
theorem dX8_lays_3 : decode cX8_lays 3 = .ok (.iload_n 1, 1) := by decide +kernel
theorem dX8_lays_4 : decode cX8_lays 4 = .ok (.iadd, 1) := by decide +kernel
theorem dX8_lays_5 : decode cX8_lays 5 = .ok (.iload_n 2, 1) := by decide +kernel
theorem dX8_lays_6 : decode cX8_lays 6 = .ok (.iastore, 1) := by decide +kernel
theorem dX8_lays_7 : decode cX8_lays 7 = .ok (.aload_n 0, 1) := by decide +kernel
theorem dX8_lays_8 : decode cX8_lays 8 = .ok (.bipush 22, 2) := by decide +kernel
theorem dX8_lays_10 : decode cX8_lays 10 = .ok (.iload_n 1, 1) := by decide +kernel
theorem dX8_lays_11 : decode cX8_lays 11 = .ok (.iadd, 1) := by decide +kernel
theorem dX8_lays_12 : decode cX8_lays 12 = .ok (.iload_n 3, 1) := by decide +kernel
theorem dX8_lays_13 : decode cX8_lays 13 = .ok (.iastore, 1) := by decide +kernel
theorem dX8_lays_14 : decode cX8_lays 14 = .ok (.aload_n 0, 1) := by decide +kernel
theorem dX8_lays_15 : decode cX8_lays 15 = .ok (.bipush 32, 2) := by decide +kernel
theorem dX8_lays_17 : decode cX8_lays 17 = .ok (.iload_n 1, 1) := by decide +kernel
theorem dX8_lays_18 : decode cX8_lays 18 = .ok (.iadd, 1) := by decide +kernel
theorem dX8_lays_19 : decode cX8_lays 19 = .ok (.iload 4, 2) := by decide +kernel
theorem dX8_lays_21 : decode cX8_lays 21 = .ok (.iastore, 1) := by decide +kernel
theorem dX8_lays_22 : decode cX8_lays 22 = .ok (.aload_n 0, 1) := by decide +kernel
theorem dX8_lays_23 : decode cX8_lays 23 = .ok (.bipush 42, 2) := by decide +kernel
theorem dX8_lays_25 : decode cX8_lays 25 = .ok (.iload_n 1, 1) := by decide +kernel
theorem dX8_lays_26 : decode cX8_lays 26 = .ok (.iadd, 1) := by decide +kernel
theorem dX8_lays_27 : decode cX8_lays 27 = .ok (.iload 5, 2) := by decide +kernel
theorem dX8_lays_29 : decode cX8_lays 29 = .ok (.iastore, 1) := by decide +kernel
theorem dX8_lays_30 : decode cX8_lays 30 = .ok (.return_, 1) := by decide +kernel
theorem dX8_within_0 : decode cX8_within 0 = .ok (.iload_n 0, 1) := by decide +kernel
theorem dX8_within_1 : decode cX8_within 1 = .ok (.iload_n 1, 1) := by decide +kernel
theorem dX8_within_2 : decode cX8_within 2 = .ok (.if_icmp .lt 12, 3) := by decide +kernel
theorem dX8_within_5 : decode cX8_within 5 = .ok (.iload_n 0, 1) := by decide +kernel
theorem dX8_within_6 : decode cX8_within 6 = .ok (.iload_n 2, 1) := by decide +kernel
theorem dX8_within_7 : decode cX8_within 7 = .ok (.if_icmp .gt 7, 3) := by decide +kernel
theorem dX8_within_10 : decode cX8_within 10 = .ok (.iconst 1, 1) := by decide +kernel
theorem dX8_within_11 : decode cX8_within 11 = .ok (.goto 4, 3) := by decide +kernel
theorem dX8_within_14 : decode cX8_within 14 = .ok (.iconst 0, 1) := by decide +kernel
theorem dX8_within_15 : decode cX8_within 15 = .ok (.ireturn, 1) := by decide +kernel
theorem dX8_has_0 : decode cX8_has 0 = .ok (.iload_n 0, 1) := by decide +kernel
theorem dX8_has_1 : decode cX8_has 1 = .ok (.iload_n 1, 1) := by decide +kernel
theorem dX8_has_2 : decode cX8_has 2 = .ok (.ishr, 1) := by decide +kernel
theorem dX8_has_3 : decode cX8_has 3 = .ok (.iconst 1, 1) := by decide +kernel
theorem dX8_has_4 : decode cX8_has 4 = .ok (.iand, 1) := by decide +kernel
theorem dX8_has_5 : decode cX8_has 5 = .ok (.iconst 1, 1) := by decide +kernel
theorem dX8_has_6 : decode cX8_has 6 = .ok (.if_icmp .ne 7, 3) := by decide +kernel
theorem dX8_has_9 : decode cX8_has 9 = .ok (.iconst 1, 1) := by decide +kernel
theorem dX8_has_10 : decode cX8_has 10 = .ok (.goto 4, 3) := by decide +kernel
theorem dX8_has_13 : decode cX8_has 13 = .ok (.iconst 0, 1) := by decide +kernel
theorem dX8_has_14 : decode cX8_has 14 = .ok (.ireturn, 1) := by decide +kernel
theorem dX8_bits_0 : decode cX8_bits 0 = .ok (.iconst 0, 1) := by decide +kernel
theorem dX8_bits_1 : decode cX8_bits 1 = .ok (.istore_n 1, 1) := by decide +kernel
theorem dX8_bits_2 : decode cX8_bits 2 = .ok (.iconst 0, 1) := by decide +kernel
theorem dX8_bits_3 : decode cX8_bits 3 = .ok (.istore_n 2, 1) := by decide +kernel
theorem dX8_bits_4 : decode cX8_bits 4 = .ok (.iload_n 2, 1) := by decide +kernel
theorem dX8_bits_5 : decode cX8_bits 5 = .ok (.bipush 10, 2) := by decide +kernel
theorem dX8_bits_7 : decode cX8_bits 7 = .ok (.if_icmp .ge 17, 3) := by decide +kernel
theorem dX8_bits_10 : decode cX8_bits 10 = .ok (.iload_n 1, 1) := by decide +kernel
theorem dX8_bits_11 : decode cX8_bits 11 = .ok (.iload_n 0, 1) := by decide +kernel
theorem dX8_bits_12 : decode cX8_bits 12 = .ok (.iload_n 2, 1) := by decide +kernel
theorem dX8_bits_13 : decode cX8_bits 13 = .ok (.ishr, 1) := by decide +kernel
theorem dX8_bits_14 : decode cX8_bits 14 = .ok (.iconst 1, 1) := by decide +kernel
theorem dX8_bits_15 : decode cX8_bits 15 = .ok (.iand, 1) := by decide +kernel
theorem dX8_bits_16 : decode cX8_bits 16 = .ok (.iadd, 1) := by decide +kernel
theorem dX8_bits_17 : decode cX8_bits 17 = .ok (.istore_n 1, 1) := by decide +kernel
theorem dX8_bits_18 : decode cX8_bits 18 = .ok (.iinc 2 1, 3) := by decide +kernel
theorem dX8_bits_21 : decode cX8_bits 21 = .ok (.goto (-17), 3) := by decide +kernel
theorem dX8_bits_24 : decode cX8_bits 24 = .ok (.iload_n 1, 1) := by decide +kernel
theorem dX8_bits_25 : decode cX8_bits 25 = .ok (.ireturn, 1) := by decide +kernel
theorem dX8_off_0 : decode cX8_off 0 = .ok (.iload_n 0, 1) := by decide +kernel
theorem dX8_off_1 : decode cX8_off 1 = .ok (.iload_n 1, 1) := by decide +kernel
theorem dX8_off_2 : decode cX8_off 2 = .ok (.if_icmp .ge 9, 3) := by decide +kernel
theorem dX8_off_5 : decode cX8_off 5 = .ok (.iload_n 1, 1) := by decide +kernel
theorem dX8_off_6 : decode cX8_off 6 = .ok (.iload_n 0, 1) := by decide +kernel
theorem dX8_off_7 : decode cX8_off 7 = .ok (.isub, 1) := by decide +kernel
theorem dX8_off_8 : decode cX8_off 8 = .ok (.goto 6, 3) := by decide +kernel
theorem dX8_off_11 : decode cX8_off 11 = .ok (.iload_n 0, 1) := by decide +kernel
theorem dX8_off_12 : decode cX8_off 12 = .ok (.iload_n 1, 1) := by decide +kernel
theorem dX8_off_13 : decode cX8_off 13 = .ok (.isub, 1) := by decide +kernel
theorem dX8_off_14 : decode cX8_off 14 = .ok (.ireturn, 1) := by decide +kernel
theorem dX8_throwsIf_0 : decode cX8_throwsIf 0 = .ok (.aload_n 0, 1) := by decide +kernel
theorem dX8_throwsIf_1 : decode cX8_throwsIf 1 = .ok (.getfield 57, 3) := by decide +kernel
theorem dX8_throwsIf_4 : decode cX8_throwsIf 4 = .ok (.ifCond .ne 12, 3) := by decide +kernel
theorem dX8_throwsIf_7 : decode cX8_throwsIf 7 = .ok (.iload_n 1, 1) := by decide +kernel
theorem dX8_throwsIf_8 : decode cX8_throwsIf 8 = .ok (.ifCond .eq 8, 3) := by decide +kernel
theorem dX8_throwsIf_11 : decode cX8_throwsIf 11 = .ok (.aload_n 0, 1) := by decide +kernel
theorem dX8_throwsIf_12 : decode cX8_throwsIf 12 = .ok (.iload_n 2, 1) := by decide +kernel
theorem dX8_throwsIf_13 : decode cX8_throwsIf 13 = .ok (.putfield 57, 3) := by decide +kernel
theorem dX8_throwsIf_16 : decode cX8_throwsIf 16 = .ok (.aload_n 0, 1) := by decide +kernel
theorem dX8_throwsIf_17 : decode cX8_throwsIf 17 = .ok (.getfield 57, 3) := by decide +kernel
theorem dX8_throwsIf_20 : decode cX8_throwsIf 20 = .ok (.ifCond .le 7, 3) := by decide +kernel
theorem dX8_throwsIf_23 : decode cX8_throwsIf 23 = .ok (.iconst 1, 1) := by decide +kernel
theorem dX8_throwsIf_24 : decode cX8_throwsIf 24 = .ok (.goto 4, 3) := by decide +kernel
theorem dX8_throwsIf_27 : decode cX8_throwsIf 27 = .ok (.iconst 0, 1) := by decide +kernel
theorem dX8_throwsIf_28 : decode cX8_throwsIf 28 = .ok (.ireturn, 1) := by decide +kernel
theorem dX8_noBuoy_0 : decode cX8_noBuoy 0 = .ok (.aload_n 0, 1) := by decide +kernel
theorem dX8_noBuoy_1 : decode cX8_noBuoy 1 = .ok (.iload_n 1, 1) := by decide +kernel
theorem dX8_noBuoy_2 : decode cX8_noBuoy 2 = .ok (.iconst 0, 1) := by decide +kernel
theorem dX8_noBuoy_3 : decode cX8_noBuoy 3 = .ok (.aload_n 0, 1) := by decide +kernel
theorem dX8_noBuoy_4 : decode cX8_noBuoy 4 = .ok (.getfield 7, 3) := by decide +kernel
theorem dX8_noBuoy_7 : decode cX8_noBuoy 7 = .ok (.iconst 0, 1) := by decide +kernel
theorem dX8_noBuoy_8 : decode cX8_noBuoy 8 = .ok (.iaload, 1) := by decide +kernel
theorem dX8_noBuoy_9 : decode cX8_noBuoy 9 = .ok (.iconst 1, 1) := by decide +kernel
theorem dX8_noBuoy_10 : decode cX8_noBuoy 10 = .ok (.isub, 1) := by decide +kernel
theorem dX8_noBuoy_11 : decode cX8_noBuoy 11 = .ok (.invokestatic 60, 3) := by decide +kernel
theorem dX8_noBuoy_14 : decode cX8_noBuoy 14 = .ok (.ifCond .ne 7, 3) := by decide +kernel
theorem dX8_noBuoy_17 : decode cX8_noBuoy 17 = .ok (.iconst 1, 1) := by decide +kernel
theorem dX8_noBuoy_18 : decode cX8_noBuoy 18 = .ok (.goto 4, 3) := by decide +kernel
theorem dX8_noBuoy_21 : decode cX8_noBuoy 21 = .ok (.iconst 0, 1) := by decide +kernel
theorem dX8_noBuoy_22 : decode cX8_noBuoy 22 = .ok (.iconst 1, 1) := by decide +kernel
theorem dX8_noBuoy_23 : decode cX8_noBuoy 23 = .ok (.invokevirtual 64, 3) := by decide +kernel
theorem dX8_noBuoy_26 : decode cX8_noBuoy 26 = .ok (.ireturn, 1) := by decide +kernel
theorem dX8_noRope_0 : decode cX8_noRope 0 = .ok (.aload_n 0, 1) := by decide +kernel
theorem dX8_noRope_1 : decode cX8_noRope 1 = .ok (.iload_n 1, 1) := by decide +kernel
theorem dX8_noRope_2 : decode cX8_noRope 2 = .ok (.iconst 0, 1) := by decide +kernel
theorem dX8_noRope_3 : decode cX8_noRope 3 = .ok (.aload_n 0, 1) := by decide +kernel
theorem dX8_noRope_4 : decode cX8_noRope 4 = .ok (.getfield 7, 3) := by decide +kernel
theorem dX8_noRope_7 : decode cX8_noRope 7 = .ok (.iconst 0, 1) := by decide +kernel
theorem dX8_noRope_8 : decode cX8_noRope 8 = .ok (.iaload, 1) := by decide +kernel
theorem dX8_noRope_9 : decode cX8_noRope 9 = .ok (.iconst 2, 1) := by decide +kernel
theorem dX8_noRope_10 : decode cX8_noRope 10 = .ok (.isub, 1) := by decide +kernel
theorem dX8_noRope_11 : decode cX8_noRope 11 = .ok (.invokestatic 60, 3) := by decide +kernel
theorem dX8_noRope_14 : decode cX8_noRope 14 = .ok (.ifCond .ne 7, 3) := by decide +kernel
theorem dX8_noRope_17 : decode cX8_noRope 17 = .ok (.iconst 1, 1) := by decide +kernel
theorem dX8_noRope_18 : decode cX8_noRope 18 = .ok (.goto 4, 3) := by decide +kernel
theorem dX8_noRope_21 : decode cX8_noRope 21 = .ok (.iconst 0, 1) := by decide +kernel
theorem dX8_noRope_22 : decode cX8_noRope 22 = .ok (.iconst 1, 1) := by decide +kernel
theorem dX8_noRope_23 : decode cX8_noRope 23 = .ok (.invokevirtual 64, 3) := by decide +kernel
theorem dX8_noRope_26 : decode cX8_noRope 26 = .ok (.ireturn, 1) := by decide +kernel
theorem dX8_bytesIn_0 : decode cX8_bytesIn 0 = .ok (.iconst 0, 1) := by decide +kernel
theorem dX8_bytesIn_1 : decode cX8_bytesIn 1 = .ok (.istore_n 1, 1) := by decide +kernel
theorem dX8_bytesIn_2 : decode cX8_bytesIn 2 = .ok (.bipush 24, 2) := by decide +kernel
theorem dX8_bytesIn_4 : decode cX8_bytesIn 4 = .ok (.istore_n 2, 1) := by decide +kernel
theorem dX8_bytesIn_5 : decode cX8_bytesIn 5 = .ok (.iload_n 2, 1) := by decide +kernel
theorem dX8_bytesIn_6 : decode cX8_bytesIn 6 = .ok (.ifCond .lt 27, 3) := by decide +kernel
theorem dX8_bytesIn_9 : decode cX8_bytesIn 9 = .ok (.iload_n 1, 1) := by decide +kernel
theorem dX8_bytesIn_10 : decode cX8_bytesIn 10 = .ok (.iload_n 0, 1) := by decide +kernel
theorem dX8_bytesIn_11 : decode cX8_bytesIn 11 = .ok (.iload_n 2, 1) := by decide +kernel
theorem dX8_bytesIn_12 : decode cX8_bytesIn 12 = .ok (.ishr, 1) := by decide +kernel
theorem dX8_bytesIn_13 : decode cX8_bytesIn 13 = .ok (.sipush 255, 3) := by decide +kernel
theorem dX8_bytesIn_16 : decode cX8_bytesIn 16 = .ok (.iand, 1) := by decide +kernel
theorem dX8_bytesIn_17 : decode cX8_bytesIn 17 = .ok (.ifCond .eq 7, 3) := by decide +kernel
theorem dX8_bytesIn_20 : decode cX8_bytesIn 20 = .ok (.iconst 1, 1) := by decide +kernel
theorem dX8_bytesIn_21 : decode cX8_bytesIn 21 = .ok (.goto 4, 3) := by decide +kernel
theorem dX8_bytesIn_24 : decode cX8_bytesIn 24 = .ok (.iconst 0, 1) := by decide +kernel
theorem dX8_bytesIn_25 : decode cX8_bytesIn 25 = .ok (.iadd, 1) := by decide +kernel
theorem dX8_bytesIn_26 : decode cX8_bytesIn 26 = .ok (.istore_n 1, 1) := by decide +kernel
theorem dX8_bytesIn_27 : decode cX8_bytesIn 27 = .ok (.iinc 2 (-8), 3) := by decide +kernel
theorem dX8_bytesIn_30 : decode cX8_bytesIn 30 = .ok (.goto (-25), 3) := by decide +kernel
theorem dX8_bytesIn_33 : decode cX8_bytesIn 33 = .ok (.iload_n 1, 1) := by decide +kernel
theorem dX8_bytesIn_34 : decode cX8_bytesIn 34 = .ok (.ireturn, 1) := by decide +kernel
theorem dX8_append_0 : decode cX8_append 0 = .ok (.aload_n 0, 1) := by decide +kernel
theorem dX8_append_1 : decode cX8_append 1 = .ok (.iconst 0, 1) := by decide +kernel
theorem dX8_append_2 : decode cX8_append 2 = .ok (.putfield 57, 3) := by decide +kernel
theorem dX8_append_5 : decode cX8_append 5 = .ok (.aload_n 0, 1) := by decide +kernel
theorem dX8_append_6 : decode cX8_append 6 = .ok (.aload_n 0, 1) := by decide +kernel
theorem dX8_append_7 : decode cX8_append 7 = .ok (.getfield 68, 3) := by decide +kernel
theorem dX8_append_10 : decode cX8_append 10 = .ok (.iload_n 1, 1) := by decide +kernel
theorem dX8_append_11 : decode cX8_append 11 = .ok (.invokestatic 71, 3) := by decide +kernel
theorem dX8_append_14 : decode cX8_append 14 = .ok (.iadd, 1) := by decide +kernel
theorem dX8_append_15 : decode cX8_append 15 = .ok (.iload_n 2, 1) := by decide +kernel
theorem dX8_append_16 : decode cX8_append 16 = .ok (.invokestatic 71, 3) := by decide +kernel
theorem dX8_append_19 : decode cX8_append 19 = .ok (.iadd, 1) := by decide +kernel
theorem dX8_append_20 : decode cX8_append 20 = .ok (.iload_n 3, 1) := by decide +kernel
theorem dX8_append_21 : decode cX8_append 21 = .ok (.invokestatic 71, 3) := by decide +kernel
theorem dX8_append_24 : decode cX8_append 24 = .ok (.iadd, 1) := by decide +kernel
theorem dX8_append_25 : decode cX8_append 25 = .ok (.iload 4, 2) := by decide +kernel
theorem dX8_append_27 : decode cX8_append 27 = .ok (.invokestatic 71, 3) := by decide +kernel
theorem dX8_append_30 : decode cX8_append 30 = .ok (.iadd, 1) := by decide +kernel
theorem dX8_append_31 : decode cX8_append 31 = .ok (.iload 5, 2) := by decide +kernel
theorem dX8_append_33 : decode cX8_append 33 = .ok (.invokestatic 71, 3) := by decide +kernel
theorem dX8_append_36 : decode cX8_append 36 = .ok (.iadd, 1) := by decide +kernel
theorem dX8_append_37 : decode cX8_append 37 = .ok (.sipush 500, 3) := by decide +kernel
theorem dX8_append_40 : decode cX8_append 40 = .ok (.if_icmp .le 7, 3) := by decide +kernel
theorem dX8_append_43 : decode cX8_append 43 = .ok (.iconst 1, 1) := by decide +kernel
theorem dX8_append_44 : decode cX8_append 44 = .ok (.goto 4, 3) := by decide +kernel
theorem dX8_append_47 : decode cX8_append 47 = .ok (.iconst 0, 1) := by decide +kernel
theorem dX8_append_48 : decode cX8_append 48 = .ok (.iconst 1, 1) := by decide +kernel
theorem dX8_append_49 : decode cX8_append 49 = .ok (.invokevirtual 64, 3) := by decide +kernel
theorem dX8_append_52 : decode cX8_append 52 = .ok (.ifCond .eq 5, 3) := by decide +kernel
theorem dX8_append_55 : decode cX8_append 55 = .ok (.iconst 0, 1) := by decide +kernel
theorem dX8_append_56 : decode cX8_append 56 = .ok (.ireturn, 1) := by decide +kernel
theorem dX8_append_57 : decode cX8_append 57 = .ok (.aload_n 0, 1) := by decide +kernel
theorem dX8_append_58 : decode cX8_append 58 = .ok (.iload_n 1, 1) := by decide +kernel
theorem dX8_append_59 : decode cX8_append 59 = .ok (.invokevirtual 75, 3) := by decide +kernel
theorem dX8_append_62 : decode cX8_append 62 = .ok (.aload_n 0, 1) := by decide +kernel
theorem dX8_append_63 : decode cX8_append 63 = .ok (.iload_n 2, 1) := by decide +kernel
theorem dX8_append_64 : decode cX8_append 64 = .ok (.invokevirtual 75, 3) := by decide +kernel
theorem dX8_append_67 : decode cX8_append 67 = .ok (.aload_n 0, 1) := by decide +kernel
theorem dX8_append_68 : decode cX8_append 68 = .ok (.iload_n 3, 1) := by decide +kernel
theorem dX8_append_69 : decode cX8_append 69 = .ok (.invokevirtual 75, 3) := by decide +kernel
theorem dX8_append_72 : decode cX8_append 72 = .ok (.aload_n 0, 1) := by decide +kernel
theorem dX8_append_73 : decode cX8_append 73 = .ok (.iload 4, 2) := by decide +kernel
theorem dX8_append_75 : decode cX8_append 75 = .ok (.invokevirtual 75, 3) := by decide +kernel
theorem dX8_append_78 : decode cX8_append 78 = .ok (.aload_n 0, 1) := by decide +kernel
theorem dX8_append_79 : decode cX8_append 79 = .ok (.iload 5, 2) := by decide +kernel
theorem dX8_append_81 : decode cX8_append 81 = .ok (.invokevirtual 75, 3) := by decide +kernel
theorem dX8_append_84 : decode cX8_append 84 = .ok (.aload_n 0, 1) := by decide +kernel
theorem dX8_append_85 : decode cX8_append 85 = .ok (.getfield 68, 3) := by decide +kernel
theorem dX8_append_88 : decode cX8_append 88 = .ok (.ireturn, 1) := by decide +kernel
theorem dX8_puts_0 : decode cX8_puts 0 = .ok (.bipush 24, 2) := by decide +kernel
theorem dX8_puts_2 : decode cX8_puts 2 = .ok (.istore_n 2, 1) := by decide +kernel
theorem dX8_puts_3 : decode cX8_puts 3 = .ok (.iload_n 2, 1) := by decide +kernel
theorem dX8_puts_4 : decode cX8_puts 4 = .ok (.ifCond .lt 42, 3) := by decide +kernel
theorem dX8_puts_7 : decode cX8_puts 7 = .ok (.iload_n 1, 1) := by decide +kernel
theorem dX8_puts_8 : decode cX8_puts 8 = .ok (.iload_n 2, 1) := by decide +kernel
theorem dX8_puts_9 : decode cX8_puts 9 = .ok (.ishr, 1) := by decide +kernel
theorem dX8_puts_10 : decode cX8_puts 10 = .ok (.sipush 255, 3) := by decide +kernel
theorem dX8_puts_13 : decode cX8_puts 13 = .ok (.iand, 1) := by decide +kernel
theorem dX8_puts_14 : decode cX8_puts 14 = .ok (.ifCond .eq 26, 3) := by decide +kernel
theorem dX8_puts_17 : decode cX8_puts 17 = .ok (.aload_n 0, 1) := by decide +kernel
theorem dX8_puts_18 : decode cX8_puts 18 = .ok (.getfield 32, 3) := by decide +kernel
theorem dX8_puts_21 : decode cX8_puts 21 = .ok (.aload_n 0, 1) := by decide +kernel
theorem dX8_puts_22 : decode cX8_puts 22 = .ok (.getfield 68, 3) := by decide +kernel
theorem dX8_puts_25 : decode cX8_puts 25 = .ok (.iload_n 1, 1) := by decide +kernel
theorem dX8_puts_26 : decode cX8_puts 26 = .ok (.iload_n 2, 1) := by decide +kernel
theorem dX8_puts_27 : decode cX8_puts 27 = .ok (.ishr, 1) := by decide +kernel
theorem dX8_puts_28 : decode cX8_puts 28 = .ok (.i2b, 1) := by decide +kernel
theorem dX8_puts_29 : decode cX8_puts 29 = .ok (.bastore, 1) := by decide +kernel
theorem dX8_puts_30 : decode cX8_puts 30 = .ok (.aload_n 0, 1) := by decide +kernel
theorem dX8_puts_31 : decode cX8_puts 31 = .ok (.dup, 1) := by decide +kernel
theorem dX8_puts_32 : decode cX8_puts 32 = .ok (.getfield 68, 3) := by decide +kernel
theorem dX8_puts_35 : decode cX8_puts 35 = .ok (.iconst 1, 1) := by decide +kernel
theorem dX8_puts_36 : decode cX8_puts 36 = .ok (.iadd, 1) := by decide +kernel
theorem dX8_puts_37 : decode cX8_puts 37 = .ok (.putfield 68, 3) := by decide +kernel
theorem dX8_puts_40 : decode cX8_puts 40 = .ok (.iinc 2 (-8), 3) := by decide +kernel
theorem dX8_puts_43 : decode cX8_puts 43 = .ok (.goto (-40), 3) := by decide +kernel
theorem dX8_puts_46 : decode cX8_puts 46 = .ok (.return_, 1) := by decide +kernel
theorem dX8_byteAt_0 : decode cX8_byteAt 0 = .ok (.iload_n 1, 1) := by decide +kernel
theorem dX8_byteAt_1 : decode cX8_byteAt 1 = .ok (.aload_n 0, 1) := by decide +kernel
theorem dX8_byteAt_2 : decode cX8_byteAt 2 = .ok (.getfield 68, 3) := by decide +kernel
theorem dX8_byteAt_5 : decode cX8_byteAt 5 = .ok (.if_icmp .ge 16, 3) := by decide +kernel
theorem dX8_byteAt_8 : decode cX8_byteAt 8 = .ok (.aload_n 0, 1) := by decide +kernel
theorem dX8_byteAt_9 : decode cX8_byteAt 9 = .ok (.getfield 32, 3) := by decide +kernel
theorem dX8_byteAt_12 : decode cX8_byteAt 12 = .ok (.iload_n 1, 1) := by decide +kernel
theorem dX8_byteAt_13 : decode cX8_byteAt 13 = .ok (.baload, 1) := by decide +kernel
theorem dX8_byteAt_14 : decode cX8_byteAt 14 = .ok (.sipush 255, 3) := by decide +kernel
theorem dX8_byteAt_17 : decode cX8_byteAt 17 = .ok (.iand, 1) := by decide +kernel
theorem dX8_byteAt_18 : decode cX8_byteAt 18 = .ok (.goto 4, 3) := by decide +kernel
theorem dX8_byteAt_21 : decode cX8_byteAt 21 = .ok (.iconst (-1), 1) := by decide +kernel
theorem dX8_byteAt_22 : decode cX8_byteAt 22 = .ok (.ireturn, 1) := by decide +kernel
theorem dX8_isLetter_0 : decode cX8_isLetter 0 = .ok (.iload_n 0, 1) := by decide +kernel
theorem dX8_isLetter_1 : decode cX8_isLetter 1 = .ok (.bipush 97, 2) := by decide +kernel
theorem dX8_isLetter_3 : decode cX8_isLetter 3 = .ok (.bipush 122, 2) := by decide +kernel
theorem dX8_isLetter_5 : decode cX8_isLetter 5 = .ok (.invokestatic 60, 3) := by decide +kernel
theorem dX8_isLetter_8 : decode cX8_isLetter 8 = .ok (.ireturn, 1) := by decide +kernel
theorem dX8_isDigit_0 : decode cX8_isDigit 0 = .ok (.iload_n 0, 1) := by decide +kernel
theorem dX8_isDigit_1 : decode cX8_isDigit 1 = .ok (.bipush 48, 2) := by decide +kernel
theorem dX8_isDigit_3 : decode cX8_isDigit 3 = .ok (.bipush 57, 2) := by decide +kernel
theorem dX8_isDigit_5 : decode cX8_isDigit 5 = .ok (.invokestatic 60, 3) := by decide +kernel
theorem dX8_isDigit_8 : decode cX8_isDigit 8 = .ok (.ireturn, 1) := by decide +kernel
theorem dX8_advance_0 : decode cX8_advance 0 = .ok (.aload_n 0, 1) := by decide +kernel
theorem dX8_advance_1 : decode cX8_advance 1 = .ok (.aload_n 0, 1) := by decide +kernel
theorem dX8_advance_2 : decode cX8_advance 2 = .ok (.getfield 79, 3) := by decide +kernel
theorem dX8_advance_5 : decode cX8_advance 5 = .ok (.invokevirtual 82, 3) := by decide +kernel
theorem dX8_advance_8 : decode cX8_advance 8 = .ok (.bipush 32, 2) := by decide +kernel
theorem dX8_advance_10 : decode cX8_advance 10 = .ok (.if_icmp .eq 16, 3) := by decide +kernel
theorem dX8_advance_13 : decode cX8_advance 13 = .ok (.aload_n 0, 1) := by decide +kernel
theorem dX8_advance_14 : decode cX8_advance 14 = .ok (.aload_n 0, 1) := by decide +kernel
theorem dX8_advance_15 : decode cX8_advance 15 = .ok (.getfield 79, 3) := by decide +kernel
theorem dX8_advance_18 : decode cX8_advance 18 = .ok (.invokevirtual 82, 3) := by decide +kernel
theorem dX8_advance_21 : decode cX8_advance 21 = .ok (.bipush 10, 2) := by decide +kernel
theorem dX8_advance_23 : decode cX8_advance 23 = .ok (.if_icmp .ne 16, 3) := by decide +kernel
theorem dX8_advance_26 : decode cX8_advance 26 = .ok (.aload_n 0, 1) := by decide +kernel
theorem dX8_advance_27 : decode cX8_advance 27 = .ok (.dup, 1) := by decide +kernel
theorem dX8_advance_28 : decode cX8_advance 28 = .ok (.getfield 79, 3) := by decide +kernel
theorem dX8_advance_31 : decode cX8_advance 31 = .ok (.iconst 1, 1) := by decide +kernel
theorem dX8_advance_32 : decode cX8_advance 32 = .ok (.iadd, 1) := by decide +kernel
theorem dX8_advance_33 : decode cX8_advance 33 = .ok (.putfield 79, 3) := by decide +kernel
theorem dX8_advance_36 : decode cX8_advance 36 = .ok (.goto (-36), 3) := by decide +kernel
theorem dX8_advance_39 : decode cX8_advance 39 = .ok (.aload_n 0, 1) := by decide +kernel
theorem dX8_advance_40 : decode cX8_advance 40 = .ok (.aload_n 0, 1) := by decide +kernel
theorem dX8_advance_41 : decode cX8_advance 41 = .ok (.getfield 79, 3) := by decide +kernel
theorem dX8_advance_44 : decode cX8_advance 44 = .ok (.putfield 85, 3) := by decide +kernel
theorem dX8_advance_47 : decode cX8_advance 47 = .ok (.aload_n 0, 1) := by decide +kernel
theorem dX8_advance_48 : decode cX8_advance 48 = .ok (.iconst 0, 1) := by decide +kernel
theorem dX8_advance_49 : decode cX8_advance 49 = .ok (.putfield 88, 3) := by decide +kernel
theorem dX8_advance_52 : decode cX8_advance 52 = .ok (.aload_n 0, 1) := by decide +kernel
theorem dX8_advance_53 : decode cX8_advance 53 = .ok (.aload_n 0, 1) := by decide +kernel
theorem dX8_advance_54 : decode cX8_advance 54 = .ok (.getfield 79, 3) := by decide +kernel
theorem dX8_advance_57 : decode cX8_advance 57 = .ok (.invokevirtual 82, 3) := by decide +kernel
theorem dX8_advance_60 : decode cX8_advance 60 = .ok (.istore_n 1, 1) := by decide +kernel
theorem dX8_advance_61 : decode cX8_advance 61 = .ok (.iload_n 1, 1) := by decide +kernel
theorem dX8_advance_62 : decode cX8_advance 62 = .ok (.iconst (-1), 1) := by decide +kernel
theorem dX8_advance_63 : decode cX8_advance 63 = .ok (.if_icmp .ne 11, 3) := by decide +kernel
theorem dX8_advance_66 : decode cX8_advance 66 = .ok (.aload_n 0, 1) := by decide +kernel
theorem dX8_advance_67 : decode cX8_advance 67 = .ok (.iconst 0, 1) := by decide +kernel
theorem dX8_advance_68 : decode cX8_advance 68 = .ok (.putfield 91, 3) := by decide +kernel
theorem dX8_advance_71 : decode cX8_advance 71 = .ok (.goto 155, 3) := by decide +kernel
theorem dX8_advance_74 : decode cX8_advance 74 = .ok (.iload_n 1, 1) := by decide +kernel
theorem dX8_advance_75 : decode cX8_advance 75 = .ok (.invokestatic 94, 3) := by decide +kernel
theorem dX8_advance_78 : decode cX8_advance 78 = .ok (.ifCond .eq 35, 3) := by decide +kernel
theorem dX8_advance_81 : decode cX8_advance 81 = .ok (.aload_n 0, 1) := by decide +kernel
theorem dX8_advance_82 : decode cX8_advance 82 = .ok (.iconst 1, 1) := by decide +kernel
theorem dX8_advance_83 : decode cX8_advance 83 = .ok (.putfield 91, 3) := by decide +kernel
theorem dX8_advance_86 : decode cX8_advance 86 = .ok (.aload_n 0, 1) := by decide +kernel
theorem dX8_advance_87 : decode cX8_advance 87 = .ok (.aload_n 0, 1) := by decide +kernel
theorem dX8_advance_88 : decode cX8_advance 88 = .ok (.getfield 79, 3) := by decide +kernel
theorem dX8_advance_91 : decode cX8_advance 91 = .ok (.invokevirtual 82, 3) := by decide +kernel
theorem dX8_advance_94 : decode cX8_advance 94 = .ok (.invokestatic 94, 3) := by decide +kernel
theorem dX8_advance_97 : decode cX8_advance 97 = .ok (.ifCond .eq 129, 3) := by decide +kernel
theorem dX8_advance_100 : decode cX8_advance 100 = .ok (.aload_n 0, 1) := by decide +kernel
theorem dX8_advance_101 : decode cX8_advance 101 = .ok (.dup, 1) := by decide +kernel
theorem dX8_advance_102 : decode cX8_advance 102 = .ok (.getfield 79, 3) := by decide +kernel
theorem dX8_advance_105 : decode cX8_advance 105 = .ok (.iconst 1, 1) := by decide +kernel
theorem dX8_advance_106 : decode cX8_advance 106 = .ok (.iadd, 1) := by decide +kernel
theorem dX8_advance_107 : decode cX8_advance 107 = .ok (.putfield 79, 3) := by decide +kernel
theorem dX8_advance_110 : decode cX8_advance 110 = .ok (.goto (-24), 3) := by decide +kernel
theorem dX8_advance_113 : decode cX8_advance 113 = .ok (.iload_n 1, 1) := by decide +kernel
theorem dX8_advance_114 : decode cX8_advance 114 = .ok (.invokestatic 98, 3) := by decide +kernel
theorem dX8_advance_117 : decode cX8_advance 117 = .ok (.ifCond .eq 74, 3) := by decide +kernel
theorem dX8_advance_120 : decode cX8_advance 120 = .ok (.aload_n 0, 1) := by decide +kernel
theorem dX8_advance_121 : decode cX8_advance 121 = .ok (.iconst 2, 1) := by decide +kernel
theorem dX8_advance_122 : decode cX8_advance 122 = .ok (.putfield 91, 3) := by decide +kernel
theorem dX8_advance_125 : decode cX8_advance 125 = .ok (.aload_n 0, 1) := by decide +kernel
theorem dX8_advance_126 : decode cX8_advance 126 = .ok (.aload_n 0, 1) := by decide +kernel
theorem dX8_advance_127 : decode cX8_advance 127 = .ok (.getfield 79, 3) := by decide +kernel
theorem dX8_advance_130 : decode cX8_advance 130 = .ok (.invokevirtual 82, 3) := by decide +kernel
theorem dX8_advance_133 : decode cX8_advance 133 = .ok (.invokestatic 98, 3) := by decide +kernel
theorem dX8_advance_136 : decode cX8_advance 136 = .ok (.ifCond .eq 90, 3) := by decide +kernel
theorem dX8_advance_139 : decode cX8_advance 139 = .ok (.aload_n 0, 1) := by decide +kernel
theorem dX8_advance_140 : decode cX8_advance 140 = .ok (.aload_n 0, 1) := by decide +kernel
theorem dX8_advance_141 : decode cX8_advance 141 = .ok (.getfield 88, 3) := by decide +kernel
theorem dX8_advance_144 : decode cX8_advance 144 = .ok (.ldc 101, 2) := by decide +kernel
theorem dX8_advance_146 : decode cX8_advance 146 = .ok (.if_icmp .le 10, 3) := by decide +kernel
theorem dX8_advance_149 : decode cX8_advance 149 = .ok (.aload_n 0, 1) := by decide +kernel
theorem dX8_advance_150 : decode cX8_advance 150 = .ok (.getfield 88, 3) := by decide +kernel
theorem dX8_advance_153 : decode cX8_advance 153 = .ok (.goto 22, 3) := by decide +kernel
theorem dX8_advance_156 : decode cX8_advance 156 = .ok (.bipush 10, 2) := by decide +kernel
theorem dX8_advance_158 : decode cX8_advance 158 = .ok (.aload_n 0, 1) := by decide +kernel
theorem dX8_advance_159 : decode cX8_advance 159 = .ok (.getfield 88, 3) := by decide +kernel
theorem dX8_advance_162 : decode cX8_advance 162 = .ok (.imul, 1) := by decide +kernel
theorem dX8_advance_163 : decode cX8_advance 163 = .ok (.aload_n 0, 1) := by decide +kernel
theorem dX8_advance_164 : decode cX8_advance 164 = .ok (.aload_n 0, 1) := by decide +kernel
theorem dX8_advance_165 : decode cX8_advance 165 = .ok (.getfield 79, 3) := by decide +kernel
theorem dX8_advance_168 : decode cX8_advance 168 = .ok (.invokevirtual 82, 3) := by decide +kernel
theorem dX8_advance_171 : decode cX8_advance 171 = .ok (.iadd, 1) := by decide +kernel
theorem dX8_advance_172 : decode cX8_advance 172 = .ok (.bipush 48, 2) := by decide +kernel
theorem dX8_advance_174 : decode cX8_advance 174 = .ok (.isub, 1) := by decide +kernel
theorem dX8_advance_175 : decode cX8_advance 175 = .ok (.putfield 88, 3) := by decide +kernel
theorem dX8_advance_178 : decode cX8_advance 178 = .ok (.aload_n 0, 1) := by decide +kernel
theorem dX8_advance_179 : decode cX8_advance 179 = .ok (.dup, 1) := by decide +kernel
theorem dX8_advance_180 : decode cX8_advance 180 = .ok (.getfield 79, 3) := by decide +kernel
theorem dX8_advance_183 : decode cX8_advance 183 = .ok (.iconst 1, 1) := by decide +kernel
theorem dX8_advance_184 : decode cX8_advance 184 = .ok (.iadd, 1) := by decide +kernel
theorem dX8_advance_185 : decode cX8_advance 185 = .ok (.putfield 79, 3) := by decide +kernel
theorem dX8_advance_188 : decode cX8_advance 188 = .ok (.goto (-63), 3) := by decide +kernel
theorem dX8_advance_191 : decode cX8_advance 191 = .ok (.aload_n 0, 1) := by decide +kernel
theorem dX8_advance_192 : decode cX8_advance 192 = .ok (.dup, 1) := by decide +kernel
theorem dX8_advance_193 : decode cX8_advance 193 = .ok (.getfield 79, 3) := by decide +kernel
theorem dX8_advance_196 : decode cX8_advance 196 = .ok (.iconst 1, 1) := by decide +kernel
theorem dX8_advance_197 : decode cX8_advance 197 = .ok (.iadd, 1) := by decide +kernel
theorem dX8_advance_198 : decode cX8_advance 198 = .ok (.putfield 79, 3) := by decide +kernel
theorem dX8_advance_201 : decode cX8_advance 201 = .ok (.aload_n 0, 1) := by decide +kernel
theorem dX8_advance_202 : decode cX8_advance 202 = .ok (.iload_n 1, 1) := by decide +kernel
theorem dX8_advance_203 : decode cX8_advance 203 = .ok (.bipush 59, 2) := by decide +kernel
theorem dX8_advance_205 : decode cX8_advance 205 = .ok (.if_icmp .ne 7, 3) := by decide +kernel
theorem dX8_advance_208 : decode cX8_advance 208 = .ok (.iconst 4, 1) := by decide +kernel
theorem dX8_advance_209 : decode cX8_advance 209 = .ok (.goto 14, 3) := by decide +kernel
theorem dX8_advance_212 : decode cX8_advance 212 = .ok (.iload_n 1, 1) := by decide +kernel
theorem dX8_advance_213 : decode cX8_advance 213 = .ok (.bipush 45, 2) := by decide +kernel
theorem dX8_advance_215 : decode cX8_advance 215 = .ok (.if_icmp .ne 7, 3) := by decide +kernel
theorem dX8_advance_218 : decode cX8_advance 218 = .ok (.iconst 3, 1) := by decide +kernel
theorem dX8_advance_219 : decode cX8_advance 219 = .ok (.goto 4, 3) := by decide +kernel
theorem dX8_advance_222 : decode cX8_advance 222 = .ok (.iconst 5, 1) := by decide +kernel
theorem dX8_advance_223 : decode cX8_advance 223 = .ok (.putfield 91, 3) := by decide +kernel
theorem dX8_advance_226 : decode cX8_advance 226 = .ok (.return_, 1) := by decide +kernel
theorem dX8_isWord_0 : decode cX8_isWord 0 = .ok (.aload_n 0, 1) := by decide +kernel
theorem dX8_isWord_1 : decode cX8_isWord 1 = .ok (.getfield 91, 3) := by decide +kernel
theorem dX8_isWord_4 : decode cX8_isWord 4 = .ok (.iconst 1, 1) := by decide +kernel
theorem dX8_isWord_5 : decode cX8_isWord 5 = .ok (.if_icmp .ne 23, 3) := by decide +kernel
theorem dX8_isWord_8 : decode cX8_isWord 8 = .ok (.aload_n 0, 1) := by decide +kernel
theorem dX8_isWord_9 : decode cX8_isWord 9 = .ok (.getfield 79, 3) := by decide +kernel
theorem dX8_isWord_12 : decode cX8_isWord 12 = .ok (.aload_n 0, 1) := by decide +kernel
theorem dX8_isWord_13 : decode cX8_isWord 13 = .ok (.getfield 85, 3) := by decide +kernel
theorem dX8_isWord_16 : decode cX8_isWord 16 = .ok (.isub, 1) := by decide +kernel
theorem dX8_isWord_17 : decode cX8_isWord 17 = .ok (.aload_n 1, 1) := by decide +kernel
theorem dX8_isWord_18 : decode cX8_isWord 18 = .ok (.invokevirtual 102, 3) := by decide +kernel
theorem dX8_isWord_21 : decode cX8_isWord 21 = .ok (.if_icmp .ne 7, 3) := by decide +kernel
theorem dX8_isWord_24 : decode cX8_isWord 24 = .ok (.iconst 1, 1) := by decide +kernel
theorem dX8_isWord_25 : decode cX8_isWord 25 = .ok (.goto 4, 3) := by decide +kernel
theorem dX8_isWord_28 : decode cX8_isWord 28 = .ok (.iconst 0, 1) := by decide +kernel
theorem dX8_isWord_29 : decode cX8_isWord 29 = .ok (.istore_n 2, 1) := by decide +kernel
theorem dX8_isWord_30 : decode cX8_isWord 30 = .ok (.iconst 0, 1) := by decide +kernel
theorem dX8_isWord_31 : decode cX8_isWord 31 = .ok (.istore_n 3, 1) := by decide +kernel
theorem dX8_isWord_32 : decode cX8_isWord 32 = .ok (.iload_n 3, 1) := by decide +kernel
theorem dX8_isWord_33 : decode cX8_isWord 33 = .ok (.aload_n 1, 1) := by decide +kernel
theorem dX8_isWord_34 : decode cX8_isWord 34 = .ok (.invokevirtual 102, 3) := by decide +kernel
theorem dX8_isWord_37 : decode cX8_isWord 37 = .ok (.if_icmp .ge 38, 3) := by decide +kernel
theorem dX8_isWord_40 : decode cX8_isWord 40 = .ok (.iload_n 2, 1) := by decide +kernel
theorem dX8_isWord_41 : decode cX8_isWord 41 = .ok (.ifCond .eq 34, 3) := by decide +kernel
theorem dX8_isWord_44 : decode cX8_isWord 44 = .ok (.aload_n 0, 1) := by decide +kernel
theorem dX8_isWord_45 : decode cX8_isWord 45 = .ok (.getfield 32, 3) := by decide +kernel
theorem dX8_isWord_48 : decode cX8_isWord 48 = .ok (.aload_n 0, 1) := by decide +kernel
theorem dX8_isWord_49 : decode cX8_isWord 49 = .ok (.getfield 85, 3) := by decide +kernel
theorem dX8_isWord_52 : decode cX8_isWord 52 = .ok (.iload_n 3, 1) := by decide +kernel
theorem dX8_isWord_53 : decode cX8_isWord 53 = .ok (.iadd, 1) := by decide +kernel
theorem dX8_isWord_54 : decode cX8_isWord 54 = .ok (.baload, 1) := by decide +kernel
theorem dX8_isWord_55 : decode cX8_isWord 55 = .ok (.aload_n 1, 1) := by decide +kernel
theorem dX8_isWord_56 : decode cX8_isWord 56 = .ok (.iload_n 3, 1) := by decide +kernel
theorem dX8_isWord_57 : decode cX8_isWord 57 = .ok (.invokevirtual 107, 3) := by decide +kernel
theorem dX8_isWord_60 : decode cX8_isWord 60 = .ok (.if_icmp .ne 7, 3) := by decide +kernel
theorem dX8_isWord_63 : decode cX8_isWord 63 = .ok (.iconst 1, 1) := by decide +kernel
theorem dX8_isWord_64 : decode cX8_isWord 64 = .ok (.goto 4, 3) := by decide +kernel
theorem dX8_isWord_67 : decode cX8_isWord 67 = .ok (.iconst 0, 1) := by decide +kernel
theorem dX8_isWord_68 : decode cX8_isWord 68 = .ok (.istore_n 2, 1) := by decide +kernel
theorem dX8_isWord_69 : decode cX8_isWord 69 = .ok (.iinc 3 1, 3) := by decide +kernel
theorem dX8_isWord_72 : decode cX8_isWord 72 = .ok (.goto (-40), 3) := by decide +kernel
theorem dX8_isWord_75 : decode cX8_isWord 75 = .ok (.iload_n 2, 1) := by decide +kernel
theorem dX8_isWord_76 : decode cX8_isWord 76 = .ok (.ireturn, 1) := by decide +kernel
theorem dX8_fails_0 : decode cX8_fails 0 = .ok (.aload_n 0, 1) := by decide +kernel
theorem dX8_fails_1 : decode cX8_fails 1 = .ok (.getfield 111, 3) := by decide +kernel
theorem dX8_fails_4 : decode cX8_fails 4 = .ok (.ifCond .ne 16, 3) := by decide +kernel
theorem dX8_fails_7 : decode cX8_fails 7 = .ok (.aload_n 0, 1) := by decide +kernel
theorem dX8_fails_8 : decode cX8_fails 8 = .ok (.iload_n 1, 1) := by decide +kernel
theorem dX8_fails_9 : decode cX8_fails 9 = .ok (.putfield 111, 3) := by decide +kernel
theorem dX8_fails_12 : decode cX8_fails 12 = .ok (.aload_n 0, 1) := by decide +kernel
theorem dX8_fails_13 : decode cX8_fails 13 = .ok (.aload_n 0, 1) := by decide +kernel
theorem dX8_fails_14 : decode cX8_fails 14 = .ok (.getfield 85, 3) := by decide +kernel
theorem dX8_fails_17 : decode cX8_fails 17 = .ok (.putfield 36, 3) := by decide +kernel
theorem dX8_fails_20 : decode cX8_fails 20 = .ok (.iconst 0, 1) := by decide +kernel
theorem dX8_fails_21 : decode cX8_fails 21 = .ok (.ireturn, 1) := by decide +kernel
theorem dX8_starts_0 : decode cX8_starts 0 = .ok (.iload_n 2, 1) := by decide +kernel
theorem dX8_starts_1 : decode cX8_starts 1 = .ok (.ifCond .ne 9, 3) := by decide +kernel
theorem dX8_starts_4 : decode cX8_starts 4 = .ok (.aload_n 0, 1) := by decide +kernel
theorem dX8_starts_5 : decode cX8_starts 5 = .ok (.iload_n 1, 1) := by decide +kernel
theorem dX8_starts_6 : decode cX8_starts 6 = .ok (.invokevirtual 114, 3) := by decide +kernel
theorem dX8_starts_9 : decode cX8_starts 9 = .ok (.ireturn, 1) := by decide +kernel
theorem dX8_starts_10 : decode cX8_starts 10 = .ok (.aload_n 0, 1) := by decide +kernel
theorem dX8_starts_11 : decode cX8_starts 11 = .ok (.invokevirtual 117, 3) := by decide +kernel
theorem dX8_starts_14 : decode cX8_starts 14 = .ok (.iconst 1, 1) := by decide +kernel
theorem dX8_starts_15 : decode cX8_starts 15 = .ok (.ireturn, 1) := by decide +kernel
theorem dX8_stands_0 : decode cX8_stands 0 = .ok (.aload_n 0, 1) := by decide +kernel
theorem dX8_stands_1 : decode cX8_stands 1 = .ok (.getfield 91, 3) := by decide +kernel
theorem dX8_stands_4 : decode cX8_stands 4 = .ok (.iconst 2, 1) := by decide +kernel
theorem dX8_stands_5 : decode cX8_stands 5 = .ok (.if_icmp .eq 9, 3) := by decide +kernel
theorem dX8_stands_8 : decode cX8_stands 8 = .ok (.aload_n 0, 1) := by decide +kernel
theorem dX8_stands_9 : decode cX8_stands 9 = .ok (.iconst 1, 1) := by decide +kernel
theorem dX8_stands_10 : decode cX8_stands 10 = .ok (.invokevirtual 114, 3) := by decide +kernel
theorem dX8_stands_13 : decode cX8_stands 13 = .ok (.ireturn, 1) := by decide +kernel
theorem dX8_stands_14 : decode cX8_stands 14 = .ok (.aload_n 0, 1) := by decide +kernel
theorem dX8_stands_15 : decode cX8_stands 15 = .ok (.aload_n 0, 1) := by decide +kernel
theorem dX8_stands_16 : decode cX8_stands 16 = .ok (.getfield 88, 3) := by decide +kernel
theorem dX8_stands_19 : decode cX8_stands 19 = .ok (.putfield 120, 3) := by decide +kernel
theorem dX8_stands_22 : decode cX8_stands 22 = .ok (.aload_n 0, 1) := by decide +kernel
theorem dX8_stands_23 : decode cX8_stands 23 = .ok (.getfield 88, 3) := by decide +kernel
theorem dX8_stands_26 : decode cX8_stands 26 = .ok (.iload_n 1, 1) := by decide +kernel
theorem dX8_stands_27 : decode cX8_stands 27 = .ok (.iload_n 2, 1) := by decide +kernel
theorem dX8_stands_28 : decode cX8_stands 28 = .ok (.invokestatic 60, 3) := by decide +kernel
theorem dX8_stands_31 : decode cX8_stands 31 = .ok (.ifCond .ne 11, 3) := by decide +kernel
theorem dX8_stands_34 : decode cX8_stands 34 = .ok (.aload_n 0, 1) := by decide +kernel
theorem dX8_stands_35 : decode cX8_stands 35 = .ok (.iconst 2, 1) := by decide +kernel
theorem dX8_stands_36 : decode cX8_stands 36 = .ok (.invokevirtual 114, 3) := by decide +kernel
theorem dX8_stands_39 : decode cX8_stands 39 = .ok (.ifCond .eq 7, 3) := by decide +kernel
theorem dX8_stands_42 : decode cX8_stands 42 = .ok (.iconst 1, 1) := by decide +kernel
theorem dX8_stands_43 : decode cX8_stands 43 = .ok (.goto 4, 3) := by decide +kernel
theorem dX8_stands_46 : decode cX8_stands 46 = .ok (.iconst 0, 1) := by decide +kernel
theorem dX8_stands_47 : decode cX8_stands 47 = .ok (.ireturn, 1) := by decide +kernel
theorem dX8_takes_0 : decode cX8_takes 0 = .ok (.aload_n 0, 1) := by decide +kernel
theorem dX8_takes_1 : decode cX8_takes 1 = .ok (.iload_n 1, 1) := by decide +kernel
theorem dX8_takes_2 : decode cX8_takes 2 = .ok (.iload_n 2, 1) := by decide +kernel
theorem dX8_takes_3 : decode cX8_takes 3 = .ok (.invokevirtual 123, 3) := by decide +kernel
theorem dX8_takes_6 : decode cX8_takes 6 = .ok (.ifCond .eq 16, 3) := by decide +kernel
theorem dX8_takes_9 : decode cX8_takes 9 = .ok (.aload_n 0, 1) := by decide +kernel
theorem dX8_takes_10 : decode cX8_takes 10 = .ok (.iconst 1, 1) := by decide +kernel
theorem dX8_takes_11 : decode cX8_takes 11 = .ok (.iconst 1, 1) := by decide +kernel
theorem dX8_takes_12 : decode cX8_takes 12 = .ok (.invokevirtual 127, 3) := by decide +kernel
theorem dX8_takes_15 : decode cX8_takes 15 = .ok (.ifCond .eq 7, 3) := by decide +kernel
theorem dX8_takes_18 : decode cX8_takes 18 = .ok (.iconst 1, 1) := by decide +kernel
theorem dX8_takes_19 : decode cX8_takes 19 = .ok (.goto 4, 3) := by decide +kernel
theorem dX8_takes_22 : decode cX8_takes 22 = .ok (.iconst 0, 1) := by decide +kernel
theorem dX8_takes_23 : decode cX8_takes 23 = .ok (.ireturn, 1) := by decide +kernel
theorem dX8_takesSigned_0 : decode cX8_takesSigned 0 = .ok (.aload_n 0, 1) := by decide +kernel
theorem dX8_takesSigned_1 : decode cX8_takesSigned 1 = .ok (.getfield 91, 3) := by decide +kernel
theorem dX8_takesSigned_4 : decode cX8_takesSigned 4 = .ok (.iconst 3, 1) := by decide +kernel
theorem dX8_takesSigned_5 : decode cX8_takesSigned 5 = .ok (.if_icmp .ne 7, 3) := by decide +kernel
theorem dX8_takesSigned_8 : decode cX8_takesSigned 8 = .ok (.iconst 1, 1) := by decide +kernel
theorem dX8_takesSigned_9 : decode cX8_takesSigned 9 = .ok (.goto 4, 3) := by decide +kernel
theorem dX8_takesSigned_12 : decode cX8_takesSigned 12 = .ok (.iconst 0, 1) := by decide +kernel
theorem dX8_takesSigned_13 : decode cX8_takesSigned 13 = .ok (.istore_n 2, 1) := by decide +kernel
theorem dX8_takesSigned_14 : decode cX8_takesSigned 14 = .ok (.iload_n 2, 1) := by decide +kernel
theorem dX8_takesSigned_15 : decode cX8_takesSigned 15 = .ok (.ifCond .eq 7, 3) := by decide +kernel
theorem dX8_takesSigned_18 : decode cX8_takesSigned 18 = .ok (.aload_n 0, 1) := by decide +kernel
theorem dX8_takesSigned_19 : decode cX8_takesSigned 19 = .ok (.invokevirtual 117, 3) := by decide +kernel
theorem dX8_takesSigned_22 : decode cX8_takesSigned 22 = .ok (.aload_n 0, 1) := by decide +kernel
theorem dX8_takesSigned_23 : decode cX8_takesSigned 23 = .ok (.iconst 0, 1) := by decide +kernel
theorem dX8_takesSigned_24 : decode cX8_takesSigned 24 = .ok (.iload_n 1, 1) := by decide +kernel
theorem dX8_takesSigned_25 : decode cX8_takesSigned 25 = .ok (.invokevirtual 131, 3) := by decide +kernel
theorem dX8_takesSigned_28 : decode cX8_takesSigned 28 = .ok (.ifCond .ne 5, 3) := by decide +kernel
theorem dX8_takesSigned_31 : decode cX8_takesSigned 31 = .ok (.iconst 0, 1) := by decide +kernel
theorem dX8_takesSigned_32 : decode cX8_takesSigned 32 = .ok (.ireturn, 1) := by decide +kernel
theorem dX8_takesSigned_33 : decode cX8_takesSigned 33 = .ok (.aload_n 0, 1) := by decide +kernel
theorem dX8_takesSigned_34 : decode cX8_takesSigned 34 = .ok (.iload_n 2, 1) := by decide +kernel
theorem dX8_takesSigned_35 : decode cX8_takesSigned 35 = .ok (.ifCond .eq 11, 3) := by decide +kernel
theorem dX8_takesSigned_38 : decode cX8_takesSigned 38 = .ok (.aload_n 0, 1) := by decide +kernel
theorem dX8_takesSigned_39 : decode cX8_takesSigned 39 = .ok (.getfield 120, 3) := by decide +kernel
theorem dX8_takesSigned_42 : decode cX8_takesSigned 42 = .ok (.ineg, 1) := by decide +kernel
theorem dX8_takesSigned_43 : decode cX8_takesSigned 43 = .ok (.goto 7, 3) := by decide +kernel
theorem dX8_takesSigned_46 : decode cX8_takesSigned 46 = .ok (.aload_n 0, 1) := by decide +kernel
theorem dX8_takesSigned_47 : decode cX8_takesSigned 47 = .ok (.getfield 120, 3) := by decide +kernel
theorem dX8_takesSigned_50 : decode cX8_takesSigned 50 = .ok (.putfield 120, 3) := by decide +kernel
theorem dX8_takesSigned_53 : decode cX8_takesSigned 53 = .ok (.iconst 1, 1) := by decide +kernel
theorem dX8_takesSigned_54 : decode cX8_takesSigned 54 = .ok (.ireturn, 1) := by decide +kernel
theorem dX8_stop_0 : decode cX8_stop 0 = .ok (.aload_n 0, 1) := by decide +kernel
theorem dX8_stop_1 : decode cX8_stop 1 = .ok (.iconst 1, 1) := by decide +kernel
theorem dX8_stop_2 : decode cX8_stop 2 = .ok (.aload_n 0, 1) := by decide +kernel
theorem dX8_stop_3 : decode cX8_stop 3 = .ok (.getfield 91, 3) := by decide +kernel
theorem dX8_stop_6 : decode cX8_stop 6 = .ok (.iconst 4, 1) := by decide +kernel
theorem dX8_stop_7 : decode cX8_stop 7 = .ok (.if_icmp .ne 7, 3) := by decide +kernel
theorem dX8_stop_10 : decode cX8_stop 10 = .ok (.iconst 1, 1) := by decide +kernel
theorem dX8_stop_11 : decode cX8_stop 11 = .ok (.goto 4, 3) := by decide +kernel
theorem dX8_stop_14 : decode cX8_stop 14 = .ok (.iconst 0, 1) := by decide +kernel
theorem dX8_stop_15 : decode cX8_stop 15 = .ok (.invokevirtual 127, 3) := by decide +kernel
theorem dX8_stop_18 : decode cX8_stop 18 = .ok (.ireturn, 1) := by decide +kernel
theorem dX8_begins_0 : decode cX8_begins 0 = .ok (.aload_n 0, 1) := by decide +kernel
theorem dX8_begins_1 : decode cX8_begins 1 = .ok (.iconst 0, 1) := by decide +kernel
theorem dX8_begins_2 : decode cX8_begins 2 = .ok (.putfield 79, 3) := by decide +kernel
theorem dX8_begins_5 : decode cX8_begins 5 = .ok (.aload_n 0, 1) := by decide +kernel
theorem dX8_begins_6 : decode cX8_begins 6 = .ok (.iconst 0, 1) := by decide +kernel
theorem dX8_begins_7 : decode cX8_begins 7 = .ok (.putfield 111, 3) := by decide +kernel
theorem dX8_begins_10 : decode cX8_begins 10 = .ok (.aload_n 0, 1) := by decide +kernel
theorem dX8_begins_11 : decode cX8_begins 11 = .ok (.iconst (-1), 1) := by decide +kernel
theorem dX8_begins_12 : decode cX8_begins 12 = .ok (.putfield 36, 3) := by decide +kernel
theorem dX8_begins_15 : decode cX8_begins 15 = .ok (.aload_n 0, 1) := by decide +kernel
theorem dX8_begins_16 : decode cX8_begins 16 = .ok (.invokevirtual 117, 3) := by decide +kernel
theorem dX8_begins_19 : decode cX8_begins 19 = .ok (.return_, 1) := by decide +kernel
theorem dX8_errorCode_0 : decode cX8_errorCode 0 = .ok (.aload_n 0, 1) := by decide +kernel
theorem dX8_errorCode_1 : decode cX8_errorCode 1 = .ok (.iconst 0, 1) := by decide +kernel
theorem dX8_errorCode_2 : decode cX8_errorCode 2 = .ok (.putfield 57, 3) := by decide +kernel
theorem dX8_errorCode_5 : decode cX8_errorCode 5 = .ok (.aload_n 0, 1) := by decide +kernel
theorem dX8_errorCode_6 : decode cX8_errorCode 6 = .ok (.getfield 111, 3) := by decide +kernel
theorem dX8_errorCode_9 : decode cX8_errorCode 9 = .ok (.ireturn, 1) := by decide +kernel
theorem dX8_errorPosition_0 : decode cX8_errorPosition 0 = .ok (.aload_n 0, 1) := by decide +kernel
theorem dX8_errorPosition_1 : decode cX8_errorPosition 1 = .ok (.iconst 0, 1) := by decide +kernel
theorem dX8_errorPosition_2 : decode cX8_errorPosition 2 = .ok (.putfield 57, 3) := by decide +kernel
theorem dX8_errorPosition_5 : decode cX8_errorPosition 5 = .ok (.aload_n 0, 1) := by decide +kernel
theorem dX8_errorPosition_6 : decode cX8_errorPosition 6 = .ok (.getfield 36, 3) := by decide +kernel
theorem dX8_errorPosition_9 : decode cX8_errorPosition 9 = .ok (.ireturn, 1) := by decide +kernel
theorem dX8_takesInto_0 : decode cX8_takesInto 0 = .ok (.aload_n 0, 1) := by decide +kernel
theorem dX8_takesInto_1 : decode cX8_takesInto 1 = .ok (.iload_n 2, 1) := by decide +kernel
theorem dX8_takesInto_2 : decode cX8_takesInto 2 = .ok (.iload_n 3, 1) := by decide +kernel
theorem dX8_takesInto_3 : decode cX8_takesInto 3 = .ok (.invokevirtual 131, 3) := by decide +kernel
theorem dX8_takesInto_6 : decode cX8_takesInto 6 = .ok (.ifCond .ne 5, 3) := by decide +kernel
theorem dX8_takesInto_9 : decode cX8_takesInto 9 = .ok (.iconst 0, 1) := by decide +kernel
theorem dX8_takesInto_10 : decode cX8_takesInto 10 = .ok (.ireturn, 1) := by decide +kernel
theorem dX8_takesInto_11 : decode cX8_takesInto 11 = .ok (.aload_n 0, 1) := by decide +kernel
theorem dX8_takesInto_12 : decode cX8_takesInto 12 = .ok (.getfield 16, 3) := by decide +kernel
theorem dX8_takesInto_15 : decode cX8_takesInto 15 = .ok (.iload_n 1, 1) := by decide +kernel
theorem dX8_takesInto_16 : decode cX8_takesInto 16 = .ok (.aload_n 0, 1) := by decide +kernel
theorem dX8_takesInto_17 : decode cX8_takesInto 17 = .ok (.getfield 120, 3) := by decide +kernel
theorem dX8_takesInto_20 : decode cX8_takesInto 20 = .ok (.iastore, 1) := by decide +kernel
theorem dX8_takesInto_21 : decode cX8_takesInto 21 = .ok (.iconst 1, 1) := by decide +kernel
theorem dX8_takesInto_22 : decode cX8_takesInto 22 = .ok (.ireturn, 1) := by decide +kernel
theorem dX8_readBuoy_0 : decode cX8_readBuoy 0 = .ok (.aload_n 0, 1) := by decide +kernel
theorem dX8_readBuoy_1 : decode cX8_readBuoy 1 = .ok (.getfield 16, 3) := by decide +kernel
theorem dX8_readBuoy_4 : decode cX8_readBuoy 4 = .ok (.iconst 0, 1) := by decide +kernel
theorem dX8_readBuoy_5 : decode cX8_readBuoy 5 = .ok (.iaload, 1) := by decide +kernel
theorem dX8_readBuoy_6 : decode cX8_readBuoy 6 = .ok (.istore_n 1, 1) := by decide +kernel
theorem dX8_readBuoy_7 : decode cX8_readBuoy 7 = .ok (.aload_n 0, 1) := by decide +kernel
theorem dX8_readBuoy_8 : decode cX8_readBuoy 8 = .ok (.iconst 4, 1) := by decide +kernel
theorem dX8_readBuoy_9 : decode cX8_readBuoy 9 = .ok (.iload_n 1, 1) := by decide +kernel
theorem dX8_readBuoy_10 : decode cX8_readBuoy 10 = .ok (.bipush 10, 2) := by decide +kernel
theorem dX8_readBuoy_12 : decode cX8_readBuoy 12 = .ok (.if_icmp .ge 7, 3) := by decide +kernel
theorem dX8_readBuoy_15 : decode cX8_readBuoy 15 = .ok (.iconst 1, 1) := by decide +kernel
theorem dX8_readBuoy_16 : decode cX8_readBuoy 16 = .ok (.goto 4, 3) := by decide +kernel
theorem dX8_readBuoy_19 : decode cX8_readBuoy 19 = .ok (.iconst 0, 1) := by decide +kernel
theorem dX8_readBuoy_20 : decode cX8_readBuoy 20 = .ok (.invokevirtual 127, 3) := by decide +kernel
theorem dX8_readBuoy_23 : decode cX8_readBuoy 23 = .ok (.ifCond .eq 14, 3) := by decide +kernel
theorem dX8_readBuoy_26 : decode cX8_readBuoy 26 = .ok (.aload_n 0, 1) := by decide +kernel
theorem dX8_readBuoy_27 : decode cX8_readBuoy 27 = .ok (.iconst 0, 1) := by decide +kernel
theorem dX8_readBuoy_28 : decode cX8_readBuoy 28 = .ok (.sipush 9999, 3) := by decide +kernel
theorem dX8_readBuoy_31 : decode cX8_readBuoy 31 = .ok (.invokevirtual 123, 3) := by decide +kernel
theorem dX8_readBuoy_34 : decode cX8_readBuoy 34 = .ok (.ifCond .ne 5, 3) := by decide +kernel
theorem dX8_readBuoy_37 : decode cX8_readBuoy 37 = .ok (.iconst 0, 1) := by decide +kernel
theorem dX8_readBuoy_38 : decode cX8_readBuoy 38 = .ok (.ireturn, 1) := by decide +kernel
theorem dX8_readBuoy_39 : decode cX8_readBuoy 39 = .ok (.iload_n 1, 1) := by decide +kernel
theorem dX8_readBuoy_40 : decode cX8_readBuoy 40 = .ok (.ifCond .le 27, 3) := by decide +kernel
theorem dX8_readBuoy_43 : decode cX8_readBuoy 43 = .ok (.aload_n 0, 1) := by decide +kernel
theorem dX8_readBuoy_44 : decode cX8_readBuoy 44 = .ok (.getfield 120, 3) := by decide +kernel
theorem dX8_readBuoy_47 : decode cX8_readBuoy 47 = .ok (.aload_n 0, 1) := by decide +kernel
theorem dX8_readBuoy_48 : decode cX8_readBuoy 48 = .ok (.getfield 16, 3) := by decide +kernel
theorem dX8_readBuoy_51 : decode cX8_readBuoy 51 = .ok (.bipush 12, 2) := by decide +kernel
theorem dX8_readBuoy_53 : decode cX8_readBuoy 53 = .ok (.iload_n 1, 1) := by decide +kernel
theorem dX8_readBuoy_54 : decode cX8_readBuoy 54 = .ok (.iadd, 1) := by decide +kernel
theorem dX8_readBuoy_55 : decode cX8_readBuoy 55 = .ok (.iconst 1, 1) := by decide +kernel
theorem dX8_readBuoy_56 : decode cX8_readBuoy 56 = .ok (.isub, 1) := by decide +kernel
theorem dX8_readBuoy_57 : decode cX8_readBuoy 57 = .ok (.iaload, 1) := by decide +kernel
theorem dX8_readBuoy_58 : decode cX8_readBuoy 58 = .ok (.if_icmp .gt 9, 3) := by decide +kernel
theorem dX8_readBuoy_61 : decode cX8_readBuoy 61 = .ok (.aload_n 0, 1) := by decide +kernel
theorem dX8_readBuoy_62 : decode cX8_readBuoy 62 = .ok (.iconst 3, 1) := by decide +kernel
theorem dX8_readBuoy_63 : decode cX8_readBuoy 63 = .ok (.invokevirtual 114, 3) := by decide +kernel
theorem dX8_readBuoy_66 : decode cX8_readBuoy 66 = .ok (.ireturn, 1) := by decide +kernel
theorem dX8_readBuoy_67 : decode cX8_readBuoy 67 = .ok (.aload_n 0, 1) := by decide +kernel
theorem dX8_readBuoy_68 : decode cX8_readBuoy 68 = .ok (.getfield 16, 3) := by decide +kernel
theorem dX8_readBuoy_71 : decode cX8_readBuoy 71 = .ok (.bipush 12, 2) := by decide +kernel
theorem dX8_readBuoy_73 : decode cX8_readBuoy 73 = .ok (.iload_n 1, 1) := by decide +kernel
theorem dX8_readBuoy_74 : decode cX8_readBuoy 74 = .ok (.iadd, 1) := by decide +kernel
theorem dX8_readBuoy_75 : decode cX8_readBuoy 75 = .ok (.aload_n 0, 1) := by decide +kernel
theorem dX8_readBuoy_76 : decode cX8_readBuoy 76 = .ok (.getfield 120, 3) := by decide +kernel
theorem dX8_readBuoy_79 : decode cX8_readBuoy 79 = .ok (.iastore, 1) := by decide +kernel
theorem dX8_readBuoy_80 : decode cX8_readBuoy 80 = .ok (.aload_n 0, 1) := by decide +kernel
theorem dX8_readBuoy_81 : decode cX8_readBuoy 81 = .ok (.invokevirtual 117, 3) := by decide +kernel
theorem dX8_readBuoy_84 : decode cX8_readBuoy 84 = .ok (.aload_n 0, 1) := by decide +kernel
theorem dX8_readBuoy_85 : decode cX8_readBuoy 85 = .ok (.bipush 22, 2) := by decide +kernel
theorem dX8_readBuoy_87 : decode cX8_readBuoy 87 = .ok (.iload_n 1, 1) := by decide +kernel
theorem dX8_readBuoy_88 : decode cX8_readBuoy 88 = .ok (.iadd, 1) := by decide +kernel
theorem dX8_readBuoy_89 : decode cX8_readBuoy 89 = .ok (.iconst 1, 1) := by decide +kernel
theorem dX8_readBuoy_90 : decode cX8_readBuoy 90 = .ok (.bipush 9, 2) := by decide +kernel
theorem dX8_readBuoy_92 : decode cX8_readBuoy 92 = .ok (.invokevirtual 134, 3) := by decide +kernel
theorem dX8_readBuoy_95 : decode cX8_readBuoy 95 = .ok (.ifCond .eq 17, 3) := by decide +kernel
theorem dX8_readBuoy_98 : decode cX8_readBuoy 98 = .ok (.aload_n 0, 1) := by decide +kernel
theorem dX8_readBuoy_99 : decode cX8_readBuoy 99 = .ok (.bipush 32, 2) := by decide +kernel
theorem dX8_readBuoy_101 : decode cX8_readBuoy 101 = .ok (.iload_n 1, 1) := by decide +kernel
theorem dX8_readBuoy_102 : decode cX8_readBuoy 102 = .ok (.iadd, 1) := by decide +kernel
theorem dX8_readBuoy_103 : decode cX8_readBuoy 103 = .ok (.iconst 0, 1) := by decide +kernel
theorem dX8_readBuoy_104 : decode cX8_readBuoy 104 = .ok (.bipush 99, 2) := by decide +kernel
theorem dX8_readBuoy_106 : decode cX8_readBuoy 106 = .ok (.invokevirtual 134, 3) := by decide +kernel
theorem dX8_readBuoy_109 : decode cX8_readBuoy 109 = .ok (.ifCond .ne 5, 3) := by decide +kernel
theorem dX8_readBuoy_112 : decode cX8_readBuoy 112 = .ok (.iconst 0, 1) := by decide +kernel
theorem dX8_readBuoy_113 : decode cX8_readBuoy 113 = .ok (.ireturn, 1) := by decide +kernel
theorem dX8_readBuoy_114 : decode cX8_readBuoy 114 = .ok (.aload_n 0, 1) := by decide +kernel
theorem dX8_readBuoy_115 : decode cX8_readBuoy 115 = .ok (.getfield 91, 3) := by decide +kernel
theorem dX8_readBuoy_118 : decode cX8_readBuoy 118 = .ok (.iconst 3, 1) := by decide +kernel
theorem dX8_readBuoy_119 : decode cX8_readBuoy 119 = .ok (.if_icmp .eq 11, 3) := by decide +kernel
theorem dX8_readBuoy_122 : decode cX8_readBuoy 122 = .ok (.aload_n 0, 1) := by decide +kernel
theorem dX8_readBuoy_123 : decode cX8_readBuoy 123 = .ok (.getfield 91, 3) := by decide +kernel
theorem dX8_readBuoy_126 : decode cX8_readBuoy 126 = .ok (.iconst 2, 1) := by decide +kernel
theorem dX8_readBuoy_127 : decode cX8_readBuoy 127 = .ok (.if_icmp .ne 27, 3) := by decide +kernel
theorem dX8_readBuoy_130 : decode cX8_readBuoy 130 = .ok (.aload_n 0, 1) := by decide +kernel
theorem dX8_readBuoy_131 : decode cX8_readBuoy 131 = .ok (.bipush 99, 2) := by decide +kernel
theorem dX8_readBuoy_133 : decode cX8_readBuoy 133 = .ok (.invokevirtual 137, 3) := by decide +kernel
theorem dX8_readBuoy_136 : decode cX8_readBuoy 136 = .ok (.ifCond .ne 5, 3) := by decide +kernel
theorem dX8_readBuoy_139 : decode cX8_readBuoy 139 = .ok (.iconst 0, 1) := by decide +kernel
theorem dX8_readBuoy_140 : decode cX8_readBuoy 140 = .ok (.ireturn, 1) := by decide +kernel
theorem dX8_readBuoy_141 : decode cX8_readBuoy 141 = .ok (.aload_n 0, 1) := by decide +kernel
theorem dX8_readBuoy_142 : decode cX8_readBuoy 142 = .ok (.getfield 16, 3) := by decide +kernel
theorem dX8_readBuoy_145 : decode cX8_readBuoy 145 = .ok (.bipush 42, 2) := by decide +kernel
theorem dX8_readBuoy_147 : decode cX8_readBuoy 147 = .ok (.iload_n 1, 1) := by decide +kernel
theorem dX8_readBuoy_148 : decode cX8_readBuoy 148 = .ok (.iadd, 1) := by decide +kernel
theorem dX8_readBuoy_149 : decode cX8_readBuoy 149 = .ok (.aload_n 0, 1) := by decide +kernel
theorem dX8_readBuoy_150 : decode cX8_readBuoy 150 = .ok (.getfield 120, 3) := by decide +kernel
theorem dX8_readBuoy_153 : decode cX8_readBuoy 153 = .ok (.iastore, 1) := by decide +kernel
theorem dX8_readBuoy_154 : decode cX8_readBuoy 154 = .ok (.aload_n 0, 1) := by decide +kernel
theorem dX8_readBuoy_155 : decode cX8_readBuoy 155 = .ok (.getfield 16, 3) := by decide +kernel
theorem dX8_readBuoy_158 : decode cX8_readBuoy 158 = .ok (.iconst 0, 1) := by decide +kernel
theorem dX8_readBuoy_159 : decode cX8_readBuoy 159 = .ok (.dup2, 1) := by decide +kernel
theorem dX8_readBuoy_160 : decode cX8_readBuoy 160 = .ok (.iaload, 1) := by decide +kernel
theorem dX8_readBuoy_161 : decode cX8_readBuoy 161 = .ok (.iconst 1, 1) := by decide +kernel
theorem dX8_readBuoy_162 : decode cX8_readBuoy 162 = .ok (.iadd, 1) := by decide +kernel
theorem dX8_readBuoy_163 : decode cX8_readBuoy 163 = .ok (.iastore, 1) := by decide +kernel
theorem dX8_readBuoy_164 : decode cX8_readBuoy 164 = .ok (.iconst 1, 1) := by decide +kernel
theorem dX8_readBuoy_165 : decode cX8_readBuoy 165 = .ok (.ireturn, 1) := by decide +kernel
theorem dX8_readRope_0 : decode cX8_readRope 0 = .ok (.aload_n 0, 1) := by decide +kernel
theorem dX8_readRope_1 : decode cX8_readRope 1 = .ok (.iconst 0, 1) := by decide +kernel
theorem dX8_readRope_2 : decode cX8_readRope 2 = .ok (.aload_n 0, 1) := by decide +kernel
theorem dX8_readRope_3 : decode cX8_readRope 3 = .ok (.getfield 16, 3) := by decide +kernel
theorem dX8_readRope_6 : decode cX8_readRope 6 = .ok (.iconst 0, 1) := by decide +kernel
theorem dX8_readRope_7 : decode cX8_readRope 7 = .ok (.iaload, 1) := by decide +kernel
theorem dX8_readRope_8 : decode cX8_readRope 8 = .ok (.iconst 2, 1) := by decide +kernel
theorem dX8_readRope_9 : decode cX8_readRope 9 = .ok (.isub, 1) := by decide +kernel
theorem dX8_readRope_10 : decode cX8_readRope 10 = .ok (.invokevirtual 131, 3) := by decide +kernel
theorem dX8_readRope_13 : decode cX8_readRope 13 = .ok (.ifCond .ne 5, 3) := by decide +kernel
theorem dX8_readRope_16 : decode cX8_readRope 16 = .ok (.iconst 0, 1) := by decide +kernel
theorem dX8_readRope_17 : decode cX8_readRope 17 = .ok (.ireturn, 1) := by decide +kernel
theorem dX8_readRope_18 : decode cX8_readRope 18 = .ok (.aload_n 0, 1) := by decide +kernel
theorem dX8_readRope_19 : decode cX8_readRope 19 = .ok (.getfield 120, 3) := by decide +kernel
theorem dX8_readRope_22 : decode cX8_readRope 22 = .ok (.istore_n 1, 1) := by decide +kernel
theorem dX8_readRope_23 : decode cX8_readRope 23 = .ok (.aload_n 0, 1) := by decide +kernel
theorem dX8_readRope_24 : decode cX8_readRope 24 = .ok (.bipush 112, 2) := by decide +kernel
theorem dX8_readRope_26 : decode cX8_readRope 26 = .ok (.iload_n 1, 1) := by decide +kernel
theorem dX8_readRope_27 : decode cX8_readRope 27 = .ok (.iadd, 1) := by decide +kernel
theorem dX8_readRope_28 : decode cX8_readRope 28 = .ok (.iconst 1, 1) := by decide +kernel
theorem dX8_readRope_29 : decode cX8_readRope 29 = .ok (.bipush 99, 2) := by decide +kernel
theorem dX8_readRope_31 : decode cX8_readRope 31 = .ok (.invokevirtual 134, 3) := by decide +kernel
theorem dX8_readRope_34 : decode cX8_readRope 34 = .ok (.ireturn, 1) := by decide +kernel
theorem dX8_readStatement_0 : decode cX8_readStatement 0 = .ok (.aload_n 0, 1) := by decide +kernel
theorem dX8_readStatement_1 : decode cX8_readStatement 1 = .ok (.ldc 140, 2) := by decide +kernel
theorem dX8_readStatement_3 : decode cX8_readStatement 3 = .ok (.invokevirtual 142, 3) := by decide +kernel
theorem dX8_readStatement_6 : decode cX8_readStatement 6 = .ok (.ifCond .eq 8, 3) := by decide +kernel
theorem dX8_readStatement_9 : decode cX8_readStatement 9 = .ok (.aload_n 0, 1) := by decide +kernel
theorem dX8_readStatement_10 : decode cX8_readStatement 10 = .ok (.invokevirtual 146, 3) := by decide +kernel
theorem dX8_readStatement_13 : decode cX8_readStatement 13 = .ok (.ireturn, 1) := by decide +kernel
theorem dX8_readStatement_14 : decode cX8_readStatement 14 = .ok (.aload_n 0, 1) := by decide +kernel
theorem dX8_readStatement_15 : decode cX8_readStatement 15 = .ok (.ldc 150, 2) := by decide +kernel
theorem dX8_readStatement_17 : decode cX8_readStatement 17 = .ok (.invokevirtual 142, 3) := by decide +kernel
theorem dX8_readStatement_20 : decode cX8_readStatement 20 = .ok (.ifCond .eq 12, 3) := by decide +kernel
theorem dX8_readStatement_23 : decode cX8_readStatement 23 = .ok (.aload_n 0, 1) := by decide +kernel
theorem dX8_readStatement_24 : decode cX8_readStatement 24 = .ok (.invokevirtual 117, 3) := by decide +kernel
theorem dX8_readStatement_27 : decode cX8_readStatement 27 = .ok (.aload_n 0, 1) := by decide +kernel
theorem dX8_readStatement_28 : decode cX8_readStatement 28 = .ok (.invokevirtual 152, 3) := by decide +kernel
theorem dX8_readStatement_31 : decode cX8_readStatement 31 = .ok (.ireturn, 1) := by decide +kernel
theorem dX8_readStatement_32 : decode cX8_readStatement 32 = .ok (.aload_n 0, 1) := by decide +kernel
theorem dX8_readStatement_33 : decode cX8_readStatement 33 = .ok (.ldc 155, 2) := by decide +kernel
theorem dX8_readStatement_35 : decode cX8_readStatement 35 = .ok (.invokevirtual 142, 3) := by decide +kernel
theorem dX8_readStatement_38 : decode cX8_readStatement 38 = .ok (.ifCond .ne 9, 3) := by decide +kernel
theorem dX8_readStatement_41 : decode cX8_readStatement 41 = .ok (.aload_n 0, 1) := by decide +kernel
theorem dX8_readStatement_42 : decode cX8_readStatement 42 = .ok (.iconst 1, 1) := by decide +kernel
theorem dX8_readStatement_43 : decode cX8_readStatement 43 = .ok (.invokevirtual 114, 3) := by decide +kernel
theorem dX8_readStatement_46 : decode cX8_readStatement 46 = .ok (.ireturn, 1) := by decide +kernel
theorem dX8_readStatement_47 : decode cX8_readStatement 47 = .ok (.aload_n 0, 1) := by decide +kernel
theorem dX8_readStatement_48 : decode cX8_readStatement 48 = .ok (.invokevirtual 117, 3) := by decide +kernel
theorem dX8_readStatement_51 : decode cX8_readStatement 51 = .ok (.aload_n 0, 1) := by decide +kernel
theorem dX8_readStatement_52 : decode cX8_readStatement 52 = .ok (.iconst 4, 1) := by decide +kernel
theorem dX8_readStatement_53 : decode cX8_readStatement 53 = .ok (.iconst 0, 1) := by decide +kernel
theorem dX8_readStatement_54 : decode cX8_readStatement 54 = .ok (.ldc 157, 2) := by decide +kernel
theorem dX8_readStatement_56 : decode cX8_readStatement 56 = .ok (.invokevirtual 134, 3) := by decide +kernel
theorem dX8_readStatement_59 : decode cX8_readStatement 59 = .ok (.ireturn, 1) := by decide +kernel
theorem dX8_load_0 : decode cX8_load 0 = .ok (.aload_n 0, 1) := by decide +kernel
theorem dX8_load_1 : decode cX8_load 1 = .ok (.iconst 0, 1) := by decide +kernel
theorem dX8_load_2 : decode cX8_load 2 = .ok (.putfield 57, 3) := by decide +kernel
theorem dX8_load_5 : decode cX8_load 5 = .ok (.aload_n 0, 1) := by decide +kernel
theorem dX8_load_6 : decode cX8_load 6 = .ok (.invokevirtual 158, 3) := by decide +kernel
theorem dX8_load_9 : decode cX8_load 9 = .ok (.aload_n 0, 1) := by decide +kernel
theorem dX8_load_10 : decode cX8_load 10 = .ok (.getfield 16, 3) := by decide +kernel
theorem dX8_load_13 : decode cX8_load 13 = .ok (.invokestatic 49, 3) := by decide +kernel
theorem dX8_load_16 : decode cX8_load 16 = .ok (.aload_n 0, 1) := by decide +kernel
theorem dX8_load_17 : decode cX8_load 17 = .ok (.iconst 1, 1) := by decide +kernel
theorem dX8_load_18 : decode cX8_load 18 = .ok (.aload_n 0, 1) := by decide +kernel
theorem dX8_load_19 : decode cX8_load 19 = .ok (.ldc 161, 2) := by decide +kernel
theorem dX8_load_21 : decode cX8_load 21 = .ok (.invokevirtual 142, 3) := by decide +kernel
theorem dX8_load_24 : decode cX8_load 24 = .ok (.invokevirtual 127, 3) := by decide +kernel
theorem dX8_load_27 : decode cX8_load 27 = .ok (.ifCond .eq 48, 3) := by decide +kernel
theorem dX8_load_30 : decode cX8_load 30 = .ok (.aload_n 0, 1) := by decide +kernel
theorem dX8_load_31 : decode cX8_load 31 = .ok (.iconst 1, 1) := by decide +kernel
theorem dX8_load_32 : decode cX8_load 32 = .ok (.iconst 0, 1) := by decide +kernel
theorem dX8_load_33 : decode cX8_load 33 = .ok (.sipush 999, 3) := by decide +kernel
theorem dX8_load_36 : decode cX8_load 36 = .ok (.invokevirtual 134, 3) := by decide +kernel
theorem dX8_load_39 : decode cX8_load 39 = .ok (.ifCond .eq 36, 3) := by decide +kernel
theorem dX8_load_42 : decode cX8_load 42 = .ok (.aload_n 0, 1) := by decide +kernel
theorem dX8_load_43 : decode cX8_load 43 = .ok (.iconst 2, 1) := by decide +kernel
theorem dX8_load_44 : decode cX8_load 44 = .ok (.iconst 1, 1) := by decide +kernel
theorem dX8_load_45 : decode cX8_load 45 = .ok (.bipush 9, 2) := by decide +kernel
theorem dX8_load_47 : decode cX8_load 47 = .ok (.invokevirtual 134, 3) := by decide +kernel
theorem dX8_load_50 : decode cX8_load 50 = .ok (.ifCond .eq 25, 3) := by decide +kernel
theorem dX8_load_53 : decode cX8_load 53 = .ok (.aload_n 0, 1) := by decide +kernel
theorem dX8_load_54 : decode cX8_load 54 = .ok (.iconst 3, 1) := by decide +kernel
theorem dX8_load_55 : decode cX8_load 55 = .ok (.iconst 1, 1) := by decide +kernel
theorem dX8_load_56 : decode cX8_load 56 = .ok (.bipush 9, 2) := by decide +kernel
theorem dX8_load_58 : decode cX8_load 58 = .ok (.invokevirtual 134, 3) := by decide +kernel
theorem dX8_load_61 : decode cX8_load 61 = .ok (.ifCond .eq 14, 3) := by decide +kernel
theorem dX8_load_64 : decode cX8_load 64 = .ok (.aload_n 0, 1) := by decide +kernel
theorem dX8_load_65 : decode cX8_load 65 = .ok (.invokevirtual 163, 3) := by decide +kernel
theorem dX8_load_68 : decode cX8_load 68 = .ok (.ifCond .eq 7, 3) := by decide +kernel
theorem dX8_load_71 : decode cX8_load 71 = .ok (.iconst 1, 1) := by decide +kernel
theorem dX8_load_72 : decode cX8_load 72 = .ok (.goto 4, 3) := by decide +kernel
theorem dX8_load_75 : decode cX8_load 75 = .ok (.iconst 0, 1) := by decide +kernel
theorem dX8_load_76 : decode cX8_load 76 = .ok (.istore_n 1, 1) := by decide +kernel
theorem dX8_load_77 : decode cX8_load 77 = .ok (.iload_n 1, 1) := by decide +kernel
theorem dX8_load_78 : decode cX8_load 78 = .ok (.ifCond .eq 33, 3) := by decide +kernel
theorem dX8_load_81 : decode cX8_load 81 = .ok (.aload_n 0, 1) := by decide +kernel
theorem dX8_load_82 : decode cX8_load 82 = .ok (.getfield 91, 3) := by decide +kernel
theorem dX8_load_85 : decode cX8_load 85 = .ok (.ifCond .eq 26, 3) := by decide +kernel
theorem dX8_load_88 : decode cX8_load 88 = .ok (.aload_n 0, 1) := by decide +kernel
theorem dX8_load_89 : decode cX8_load 89 = .ok (.invokevirtual 166, 3) := by decide +kernel
theorem dX8_load_92 : decode cX8_load 92 = .ok (.ifCond .eq 14, 3) := by decide +kernel
theorem dX8_load_95 : decode cX8_load 95 = .ok (.aload_n 0, 1) := by decide +kernel
theorem dX8_load_96 : decode cX8_load 96 = .ok (.invokevirtual 163, 3) := by decide +kernel
theorem dX8_load_99 : decode cX8_load 99 = .ok (.ifCond .eq 7, 3) := by decide +kernel
theorem dX8_load_102 : decode cX8_load 102 = .ok (.iconst 1, 1) := by decide +kernel
theorem dX8_load_103 : decode cX8_load 103 = .ok (.goto 4, 3) := by decide +kernel
theorem dX8_load_106 : decode cX8_load 106 = .ok (.iconst 0, 1) := by decide +kernel
theorem dX8_load_107 : decode cX8_load 107 = .ok (.istore_n 1, 1) := by decide +kernel
theorem dX8_load_108 : decode cX8_load 108 = .ok (.goto (-31), 3) := by decide +kernel
theorem dX8_load_111 : decode cX8_load 111 = .ok (.iload_n 1, 1) := by decide +kernel
theorem dX8_load_112 : decode cX8_load 112 = .ok (.ifCond .eq 25, 3) := by decide +kernel
theorem dX8_load_115 : decode cX8_load 115 = .ok (.aload_n 0, 1) := by decide +kernel
theorem dX8_load_116 : decode cX8_load 116 = .ok (.getfield 16, 3) := by decide +kernel
theorem dX8_load_119 : decode cX8_load 119 = .ok (.iconst 0, 1) := by decide +kernel
theorem dX8_load_120 : decode cX8_load 120 = .ok (.iaload, 1) := by decide +kernel
theorem dX8_load_121 : decode cX8_load 121 = .ok (.iconst 1, 1) := by decide +kernel
theorem dX8_load_122 : decode cX8_load 122 = .ok (.if_icmp .gt 11, 3) := by decide +kernel
theorem dX8_load_125 : decode cX8_load 125 = .ok (.aload_n 0, 1) := by decide +kernel
theorem dX8_load_126 : decode cX8_load 126 = .ok (.iconst 5, 1) := by decide +kernel
theorem dX8_load_127 : decode cX8_load 127 = .ok (.invokevirtual 114, 3) := by decide +kernel
theorem dX8_load_130 : decode cX8_load 130 = .ok (.ifCond .eq 7, 3) := by decide +kernel
theorem dX8_load_133 : decode cX8_load 133 = .ok (.iconst 1, 1) := by decide +kernel
theorem dX8_load_134 : decode cX8_load 134 = .ok (.goto 4, 3) := by decide +kernel
theorem dX8_load_137 : decode cX8_load 137 = .ok (.iconst 0, 1) := by decide +kernel
theorem dX8_load_138 : decode cX8_load 138 = .ok (.istore_n 1, 1) := by decide +kernel
theorem dX8_load_139 : decode cX8_load 139 = .ok (.aload_n 0, 1) := by decide +kernel
theorem dX8_load_140 : decode cX8_load 140 = .ok (.iconst 0, 1) := by decide +kernel
theorem dX8_load_141 : decode cX8_load 141 = .ok (.putfield 68, 3) := by decide +kernel
theorem dX8_load_144 : decode cX8_load 144 = .ok (.iload_n 1, 1) := by decide +kernel
theorem dX8_load_145 : decode cX8_load 145 = .ok (.ifCond .ne 5, 3) := by decide +kernel
theorem dX8_load_148 : decode cX8_load 148 = .ok (.iconst (-1), 1) := by decide +kernel
theorem dX8_load_149 : decode cX8_load 149 = .ok (.ireturn, 1) := by decide +kernel
theorem dX8_load_150 : decode cX8_load 150 = .ok (.aload_n 0, 1) := by decide +kernel
theorem dX8_load_151 : decode cX8_load 151 = .ok (.getfield 16, 3) := by decide +kernel
theorem dX8_load_154 : decode cX8_load 154 = .ok (.bipush 9, 2) := by decide +kernel
theorem dX8_load_156 : decode cX8_load 156 = .ok (.aload_n 0, 1) := by decide +kernel
theorem dX8_load_157 : decode cX8_load 157 = .ok (.getfield 16, 3) := by decide +kernel
theorem dX8_load_160 : decode cX8_load 160 = .ok (.iconst 4, 1) := by decide +kernel
theorem dX8_load_161 : decode cX8_load 161 = .ok (.iaload, 1) := by decide +kernel
theorem dX8_load_162 : decode cX8_load 162 = .ok (.iastore, 1) := by decide +kernel
theorem dX8_load_163 : decode cX8_load 163 = .ok (.aload_n 0, 1) := by decide +kernel
theorem dX8_load_164 : decode cX8_load 164 = .ok (.getfield 16, 3) := by decide +kernel
theorem dX8_load_167 : decode cX8_load 167 = .ok (.iconst 0, 1) := by decide +kernel
theorem dX8_load_168 : decode cX8_load 168 = .ok (.aload_n 0, 1) := by decide +kernel
theorem dX8_load_169 : decode cX8_load 169 = .ok (.getfield 7, 3) := by decide +kernel
theorem dX8_load_172 : decode cX8_load 172 = .ok (.iconst 0, 1) := by decide +kernel
theorem dX8_load_173 : decode cX8_load 173 = .ok (.invokestatic 169, 3) := by decide +kernel
theorem dX8_load_176 : decode cX8_load 176 = .ok (.aload_n 0, 1) := by decide +kernel
theorem dX8_load_177 : decode cX8_load 177 = .ok (.iconst 0, 1) := by decide +kernel
theorem dX8_load_178 : decode cX8_load 178 = .ok (.putfield 173, 3) := by decide +kernel
theorem dX8_load_181 : decode cX8_load 181 = .ok (.aload_n 0, 1) := by decide +kernel
theorem dX8_load_182 : decode cX8_load 182 = .ok (.getfield 7, 3) := by decide +kernel
theorem dX8_load_185 : decode cX8_load 185 = .ok (.iconst 0, 1) := by decide +kernel
theorem dX8_load_186 : decode cX8_load 186 = .ok (.iaload, 1) := by decide +kernel
theorem dX8_load_187 : decode cX8_load 187 = .ok (.ireturn, 1) := by decide +kernel
theorem dX8_copies_0 : decode cX8_copies 0 = .ok (.iconst 0, 1) := by decide +kernel
theorem dX8_copies_1 : decode cX8_copies 1 = .ok (.istore 4, 2) := by decide +kernel
theorem dX8_copies_3 : decode cX8_copies 3 = .ok (.iload 4, 2) := by decide +kernel
theorem dX8_copies_5 : decode cX8_copies 5 = .ok (.sipush 574, 3) := by decide +kernel
theorem dX8_copies_8 : decode cX8_copies 8 = .ok (.if_icmp .ge 21, 3) := by decide +kernel
theorem dX8_copies_11 : decode cX8_copies 11 = .ok (.aload_n 2, 1) := by decide +kernel
theorem dX8_copies_12 : decode cX8_copies 12 = .ok (.iload_n 3, 1) := by decide +kernel
theorem dX8_copies_13 : decode cX8_copies 13 = .ok (.iload 4, 2) := by decide +kernel
theorem dX8_copies_15 : decode cX8_copies 15 = .ok (.iadd, 1) := by decide +kernel
theorem dX8_copies_16 : decode cX8_copies 16 = .ok (.aload_n 0, 1) := by decide +kernel
theorem dX8_copies_17 : decode cX8_copies 17 = .ok (.iload_n 1, 1) := by decide +kernel
theorem dX8_copies_18 : decode cX8_copies 18 = .ok (.iload 4, 2) := by decide +kernel
theorem dX8_copies_20 : decode cX8_copies 20 = .ok (.iadd, 1) := by decide +kernel
theorem dX8_copies_21 : decode cX8_copies 21 = .ok (.iaload, 1) := by decide +kernel
theorem dX8_copies_22 : decode cX8_copies 22 = .ok (.iastore, 1) := by decide +kernel
theorem dX8_copies_23 : decode cX8_copies 23 = .ok (.iinc 4 1, 3) := by decide +kernel
theorem dX8_copies_26 : decode cX8_copies 26 = .ok (.goto (-23), 3) := by decide +kernel
theorem dX8_copies_29 : decode cX8_copies 29 = .ok (.return_, 1) := by decide +kernel
theorem dX8_votes_0 : decode cX8_votes 0 = .ok (.iconst 0, 1) := by decide +kernel
theorem dX8_votes_1 : decode cX8_votes 1 = .ok (.istore_n 2, 1) := by decide +kernel
theorem dX8_votes_2 : decode cX8_votes 2 = .ok (.iconst 0, 1) := by decide +kernel
theorem dX8_votes_3 : decode cX8_votes 3 = .ok (.istore_n 3, 1) := by decide +kernel
theorem dX8_votes_4 : decode cX8_votes 4 = .ok (.iload_n 3, 1) := by decide +kernel
theorem dX8_votes_5 : decode cX8_votes 5 = .ok (.aload_n 0, 1) := by decide +kernel
theorem dX8_votes_6 : decode cX8_votes 6 = .ok (.getfield 7, 3) := by decide +kernel
theorem dX8_votes_9 : decode cX8_votes 9 = .ok (.iconst 0, 1) := by decide +kernel
theorem dX8_votes_10 : decode cX8_votes 10 = .ok (.iaload, 1) := by decide +kernel
theorem dX8_votes_11 : decode cX8_votes 11 = .ok (.if_icmp .ge 33, 3) := by decide +kernel
theorem dX8_votes_14 : decode cX8_votes 14 = .ok (.iload_n 2, 1) := by decide +kernel
theorem dX8_votes_15 : decode cX8_votes 15 = .ok (.iload_n 1, 1) := by decide +kernel
theorem dX8_votes_16 : decode cX8_votes 16 = .ok (.iload_n 3, 1) := by decide +kernel
theorem dX8_votes_17 : decode cX8_votes 17 = .ok (.invokestatic 176, 3) := by decide +kernel
theorem dX8_votes_20 : decode cX8_votes 20 = .ok (.ifCond .eq 15, 3) := by decide +kernel
theorem dX8_votes_23 : decode cX8_votes 23 = .ok (.aload_n 0, 1) := by decide +kernel
theorem dX8_votes_24 : decode cX8_votes 24 = .ok (.getfield 7, 3) := by decide +kernel
theorem dX8_votes_27 : decode cX8_votes 27 = .ok (.bipush 22, 2) := by decide +kernel
theorem dX8_votes_29 : decode cX8_votes 29 = .ok (.iload_n 3, 1) := by decide +kernel
theorem dX8_votes_30 : decode cX8_votes 30 = .ok (.iadd, 1) := by decide +kernel
theorem dX8_votes_31 : decode cX8_votes 31 = .ok (.iaload, 1) := by decide +kernel
theorem dX8_votes_32 : decode cX8_votes 32 = .ok (.goto 4, 3) := by decide +kernel
theorem dX8_votes_35 : decode cX8_votes 35 = .ok (.iconst 0, 1) := by decide +kernel
theorem dX8_votes_36 : decode cX8_votes 36 = .ok (.iadd, 1) := by decide +kernel
theorem dX8_votes_37 : decode cX8_votes 37 = .ok (.istore_n 2, 1) := by decide +kernel
theorem dX8_votes_38 : decode cX8_votes 38 = .ok (.iinc 3 1, 3) := by decide +kernel
theorem dX8_votes_41 : decode cX8_votes 41 = .ok (.goto (-37), 3) := by decide +kernel
theorem dX8_votes_44 : decode cX8_votes 44 = .ok (.iload_n 2, 1) := by decide +kernel
theorem dX8_votes_45 : decode cX8_votes 45 = .ok (.ireturn, 1) := by decide +kernel
theorem dX8_votesUpTo_0 : decode cX8_votesUpTo 0 = .ok (.iconst 0, 1) := by decide +kernel
theorem dX8_votesUpTo_1 : decode cX8_votesUpTo 1 = .ok (.istore_n 3, 1) := by decide +kernel
theorem dX8_votesUpTo_2 : decode cX8_votesUpTo 2 = .ok (.iconst 0, 1) := by decide +kernel
theorem dX8_votesUpTo_3 : decode cX8_votesUpTo 3 = .ok (.istore 4, 2) := by decide +kernel
theorem dX8_votesUpTo_5 : decode cX8_votesUpTo 5 = .ok (.iload 4, 2) := by decide +kernel
theorem dX8_votesUpTo_7 : decode cX8_votesUpTo 7 = .ok (.aload_n 0, 1) := by decide +kernel
theorem dX8_votesUpTo_8 : decode cX8_votesUpTo 8 = .ok (.getfield 7, 3) := by decide +kernel
theorem dX8_votesUpTo_11 : decode cX8_votesUpTo 11 = .ok (.iconst 0, 1) := by decide +kernel
theorem dX8_votesUpTo_12 : decode cX8_votesUpTo 12 = .ok (.iaload, 1) := by decide +kernel
theorem dX8_votesUpTo_13 : decode cX8_votesUpTo 13 = .ok (.if_icmp .ge 46, 3) := by decide +kernel
theorem dX8_votesUpTo_16 : decode cX8_votesUpTo 16 = .ok (.iload_n 3, 1) := by decide +kernel
theorem dX8_votesUpTo_17 : decode cX8_votesUpTo 17 = .ok (.iload_n 1, 1) := by decide +kernel
theorem dX8_votesUpTo_18 : decode cX8_votesUpTo 18 = .ok (.iload 4, 2) := by decide +kernel
theorem dX8_votesUpTo_20 : decode cX8_votesUpTo 20 = .ok (.invokestatic 176, 3) := by decide +kernel
theorem dX8_votesUpTo_23 : decode cX8_votesUpTo 23 = .ok (.ifCond .eq 27, 3) := by decide +kernel
theorem dX8_votesUpTo_26 : decode cX8_votesUpTo 26 = .ok (.aload_n 0, 1) := by decide +kernel
theorem dX8_votesUpTo_27 : decode cX8_votesUpTo 27 = .ok (.getfield 40, 3) := by decide +kernel
theorem dX8_votesUpTo_30 : decode cX8_votesUpTo 30 = .ok (.iload 4, 2) := by decide +kernel
theorem dX8_votesUpTo_32 : decode cX8_votesUpTo 32 = .ok (.iaload, 1) := by decide +kernel
theorem dX8_votesUpTo_33 : decode cX8_votesUpTo 33 = .ok (.iload_n 2, 1) := by decide +kernel
theorem dX8_votesUpTo_34 : decode cX8_votesUpTo 34 = .ok (.if_icmp .gt 16, 3) := by decide +kernel
theorem dX8_votesUpTo_37 : decode cX8_votesUpTo 37 = .ok (.aload_n 0, 1) := by decide +kernel
theorem dX8_votesUpTo_38 : decode cX8_votesUpTo 38 = .ok (.getfield 7, 3) := by decide +kernel
theorem dX8_votesUpTo_41 : decode cX8_votesUpTo 41 = .ok (.bipush 22, 2) := by decide +kernel
theorem dX8_votesUpTo_43 : decode cX8_votesUpTo 43 = .ok (.iload 4, 2) := by decide +kernel
theorem dX8_votesUpTo_45 : decode cX8_votesUpTo 45 = .ok (.iadd, 1) := by decide +kernel
theorem dX8_votesUpTo_46 : decode cX8_votesUpTo 46 = .ok (.iaload, 1) := by decide +kernel
theorem dX8_votesUpTo_47 : decode cX8_votesUpTo 47 = .ok (.goto 4, 3) := by decide +kernel
theorem dX8_votesUpTo_50 : decode cX8_votesUpTo 50 = .ok (.iconst 0, 1) := by decide +kernel
theorem dX8_votesUpTo_51 : decode cX8_votesUpTo 51 = .ok (.iadd, 1) := by decide +kernel
theorem dX8_votesUpTo_52 : decode cX8_votesUpTo 52 = .ok (.istore_n 3, 1) := by decide +kernel
theorem dX8_votesUpTo_53 : decode cX8_votesUpTo 53 = .ok (.iinc 4 1, 3) := by decide +kernel
theorem dX8_votesUpTo_56 : decode cX8_votesUpTo 56 = .ok (.goto (-51), 3) := by decide +kernel
theorem dX8_votesUpTo_59 : decode cX8_votesUpTo 59 = .ok (.iload_n 3, 1) := by decide +kernel
theorem dX8_votesUpTo_60 : decode cX8_votesUpTo 60 = .ok (.ireturn, 1) := by decide +kernel
theorem dX8_tells_0 : decode cX8_tells 0 = .ok (.aload_n 0, 1) := by decide +kernel
theorem dX8_tells_1 : decode cX8_tells 1 = .ok (.iload_n 1, 1) := by decide +kernel
theorem dX8_tells_2 : decode cX8_tells 2 = .ok (.invokevirtual 179, 3) := by decide +kernel
theorem dX8_tells_5 : decode cX8_tells 5 = .ok (.istore_n 2, 1) := by decide +kernel
theorem dX8_tells_6 : decode cX8_tells 6 = .ok (.aload_n 0, 1) := by decide +kernel
theorem dX8_tells_7 : decode cX8_tells 7 = .ok (.iconst 0, 1) := by decide +kernel
theorem dX8_tells_8 : decode cX8_tells 8 = .ok (.putfield 182, 3) := by decide +kernel
theorem dX8_tells_11 : decode cX8_tells 11 = .ok (.aload_n 0, 1) := by decide +kernel
theorem dX8_tells_12 : decode cX8_tells 12 = .ok (.iconst 0, 1) := by decide +kernel
theorem dX8_tells_13 : decode cX8_tells 13 = .ok (.putfield 185, 3) := by decide +kernel
theorem dX8_tells_16 : decode cX8_tells 16 = .ok (.aload_n 0, 1) := by decide +kernel
theorem dX8_tells_17 : decode cX8_tells 17 = .ok (.iconst 0, 1) := by decide +kernel
theorem dX8_tells_18 : decode cX8_tells 18 = .ok (.putfield 189, 3) := by decide +kernel
theorem dX8_tells_21 : decode cX8_tells 21 = .ok (.iload_n 1, 1) := by decide +kernel
theorem dX8_tells_22 : decode cX8_tells 22 = .ok (.ifCond .ne 4, 3) := by decide +kernel
theorem dX8_tells_25 : decode cX8_tells 25 = .ok (.return_, 1) := by decide +kernel
theorem dX8_tells_26 : decode cX8_tells 26 = .ok (.ldc 192, 2) := by decide +kernel
theorem dX8_tells_28 : decode cX8_tells 28 = .ok (.istore_n 3, 1) := by decide +kernel
theorem dX8_tells_29 : decode cX8_tells 29 = .ok (.iconst 0, 1) := by decide +kernel
theorem dX8_tells_30 : decode cX8_tells 30 = .ok (.istore 4, 2) := by decide +kernel
theorem dX8_tells_32 : decode cX8_tells 32 = .ok (.iload 4, 2) := by decide +kernel
theorem dX8_tells_34 : decode cX8_tells 34 = .ok (.aload_n 0, 1) := by decide +kernel
theorem dX8_tells_35 : decode cX8_tells 35 = .ok (.getfield 7, 3) := by decide +kernel
theorem dX8_tells_38 : decode cX8_tells 38 = .ok (.iconst 0, 1) := by decide +kernel
theorem dX8_tells_39 : decode cX8_tells 39 = .ok (.iaload, 1) := by decide +kernel
theorem dX8_tells_40 : decode cX8_tells 40 = .ok (.if_icmp .ge 55, 3) := by decide +kernel
theorem dX8_tells_43 : decode cX8_tells 43 = .ok (.iload_n 1, 1) := by decide +kernel
theorem dX8_tells_44 : decode cX8_tells 44 = .ok (.iload 4, 2) := by decide +kernel
theorem dX8_tells_46 : decode cX8_tells 46 = .ok (.invokestatic 176, 3) := by decide +kernel
theorem dX8_tells_49 : decode cX8_tells 49 = .ok (.ifCond .eq 40, 3) := by decide +kernel
theorem dX8_tells_52 : decode cX8_tells 52 = .ok (.aload_n 0, 1) := by decide +kernel
theorem dX8_tells_53 : decode cX8_tells 53 = .ok (.getfield 40, 3) := by decide +kernel
theorem dX8_tells_56 : decode cX8_tells 56 = .ok (.iload 4, 2) := by decide +kernel
theorem dX8_tells_58 : decode cX8_tells 58 = .ok (.iaload, 1) := by decide +kernel
theorem dX8_tells_59 : decode cX8_tells 59 = .ok (.iload_n 3, 1) := by decide +kernel
theorem dX8_tells_60 : decode cX8_tells 60 = .ok (.if_icmp .ge 29, 3) := by decide +kernel
theorem dX8_tells_63 : decode cX8_tells 63 = .ok (.iconst 2, 1) := by decide +kernel
theorem dX8_tells_64 : decode cX8_tells 64 = .ok (.aload_n 0, 1) := by decide +kernel
theorem dX8_tells_65 : decode cX8_tells 65 = .ok (.iload_n 1, 1) := by decide +kernel
theorem dX8_tells_66 : decode cX8_tells 66 = .ok (.aload_n 0, 1) := by decide +kernel
theorem dX8_tells_67 : decode cX8_tells 67 = .ok (.getfield 40, 3) := by decide +kernel
theorem dX8_tells_70 : decode cX8_tells 70 = .ok (.iload 4, 2) := by decide +kernel
theorem dX8_tells_72 : decode cX8_tells 72 = .ok (.iaload, 1) := by decide +kernel
theorem dX8_tells_73 : decode cX8_tells 73 = .ok (.invokevirtual 193, 3) := by decide +kernel
theorem dX8_tells_76 : decode cX8_tells 76 = .ok (.imul, 1) := by decide +kernel
theorem dX8_tells_77 : decode cX8_tells 77 = .ok (.iload_n 2, 1) := by decide +kernel
theorem dX8_tells_78 : decode cX8_tells 78 = .ok (.if_icmp .lt 11, 3) := by decide +kernel
theorem dX8_tells_81 : decode cX8_tells 81 = .ok (.aload_n 0, 1) := by decide +kernel
theorem dX8_tells_82 : decode cX8_tells 82 = .ok (.getfield 40, 3) := by decide +kernel
theorem dX8_tells_85 : decode cX8_tells 85 = .ok (.iload 4, 2) := by decide +kernel
theorem dX8_tells_87 : decode cX8_tells 87 = .ok (.iaload, 1) := by decide +kernel
theorem dX8_tells_88 : decode cX8_tells 88 = .ok (.istore_n 3, 1) := by decide +kernel
theorem dX8_tells_89 : decode cX8_tells 89 = .ok (.iinc 4 1, 3) := by decide +kernel
theorem dX8_tells_92 : decode cX8_tells 92 = .ok (.goto (-60), 3) := by decide +kernel
theorem dX8_tells_95 : decode cX8_tells 95 = .ok (.iconst 0, 1) := by decide +kernel
theorem dX8_tells_96 : decode cX8_tells 96 = .ok (.istore 4, 2) := by decide +kernel
theorem dX8_tells_98 : decode cX8_tells 98 = .ok (.iconst 0, 1) := by decide +kernel
theorem dX8_tells_99 : decode cX8_tells 99 = .ok (.istore 5, 2) := by decide +kernel
theorem dX8_tells_101 : decode cX8_tells 101 = .ok (.iload 5, 2) := by decide +kernel
theorem dX8_tells_103 : decode cX8_tells 103 = .ok (.aload_n 0, 1) := by decide +kernel
theorem dX8_tells_104 : decode cX8_tells 104 = .ok (.getfield 7, 3) := by decide +kernel
theorem dX8_tells_107 : decode cX8_tells 107 = .ok (.iconst 0, 1) := by decide +kernel
theorem dX8_tells_108 : decode cX8_tells 108 = .ok (.iaload, 1) := by decide +kernel
theorem dX8_tells_109 : decode cX8_tells 109 = .ok (.if_icmp .ge 74, 3) := by decide +kernel
theorem dX8_tells_112 : decode cX8_tells 112 = .ok (.iload_n 1, 1) := by decide +kernel
theorem dX8_tells_113 : decode cX8_tells 113 = .ok (.iload 5, 2) := by decide +kernel
theorem dX8_tells_115 : decode cX8_tells 115 = .ok (.invokestatic 176, 3) := by decide +kernel
theorem dX8_tells_118 : decode cX8_tells 118 = .ok (.ifCond .eq 59, 3) := by decide +kernel
theorem dX8_tells_121 : decode cX8_tells 121 = .ok (.aload_n 0, 1) := by decide +kernel
theorem dX8_tells_122 : decode cX8_tells 122 = .ok (.getfield 40, 3) := by decide +kernel
theorem dX8_tells_125 : decode cX8_tells 125 = .ok (.iload 5, 2) := by decide +kernel
theorem dX8_tells_127 : decode cX8_tells 127 = .ok (.iaload, 1) := by decide +kernel
theorem dX8_tells_128 : decode cX8_tells 128 = .ok (.iload_n 3, 1) := by decide +kernel
theorem dX8_tells_129 : decode cX8_tells 129 = .ok (.invokestatic 197, 3) := by decide +kernel
theorem dX8_tells_132 : decode cX8_tells 132 = .ok (.aload_n 0, 1) := by decide +kernel
theorem dX8_tells_133 : decode cX8_tells 133 = .ok (.getfield 7, 3) := by decide +kernel
theorem dX8_tells_136 : decode cX8_tells 136 = .ok (.iconst 1, 1) := by decide +kernel
theorem dX8_tells_137 : decode cX8_tells 137 = .ok (.iaload, 1) := by decide +kernel
theorem dX8_tells_138 : decode cX8_tells 138 = .ok (.if_icmp .gt 39, 3) := by decide +kernel
theorem dX8_tells_141 : decode cX8_tells 141 = .ok (.aload_n 0, 1) := by decide +kernel
theorem dX8_tells_142 : decode cX8_tells 142 = .ok (.dup, 1) := by decide +kernel
theorem dX8_tells_143 : decode cX8_tells 143 = .ok (.getfield 182, 3) := by decide +kernel
theorem dX8_tells_146 : decode cX8_tells 146 = .ok (.iconst 1, 1) := by decide +kernel
theorem dX8_tells_147 : decode cX8_tells 147 = .ok (.iload 5, 2) := by decide +kernel
theorem dX8_tells_149 : decode cX8_tells 149 = .ok (.ishl, 1) := by decide +kernel
theorem dX8_tells_150 : decode cX8_tells 150 = .ok (.ior, 1) := by decide +kernel
theorem dX8_tells_151 : decode cX8_tells 151 = .ok (.putfield 182, 3) := by decide +kernel
theorem dX8_tells_154 : decode cX8_tells 154 = .ok (.iload 4, 2) := by decide +kernel
theorem dX8_tells_156 : decode cX8_tells 156 = .ok (.aload_n 0, 1) := by decide +kernel
theorem dX8_tells_157 : decode cX8_tells 157 = .ok (.getfield 7, 3) := by decide +kernel
theorem dX8_tells_160 : decode cX8_tells 160 = .ok (.bipush 22, 2) := by decide +kernel
theorem dX8_tells_162 : decode cX8_tells 162 = .ok (.iload 5, 2) := by decide +kernel
theorem dX8_tells_164 : decode cX8_tells 164 = .ok (.iadd, 1) := by decide +kernel
theorem dX8_tells_165 : decode cX8_tells 165 = .ok (.iaload, 1) := by decide +kernel
theorem dX8_tells_166 : decode cX8_tells 166 = .ok (.aload_n 0, 1) := by decide +kernel
theorem dX8_tells_167 : decode cX8_tells 167 = .ok (.getfield 40, 3) := by decide +kernel
theorem dX8_tells_170 : decode cX8_tells 170 = .ok (.iload 5, 2) := by decide +kernel
theorem dX8_tells_172 : decode cX8_tells 172 = .ok (.iaload, 1) := by decide +kernel
theorem dX8_tells_173 : decode cX8_tells 173 = .ok (.imul, 1) := by decide +kernel
theorem dX8_tells_174 : decode cX8_tells 174 = .ok (.iadd, 1) := by decide +kernel
theorem dX8_tells_175 : decode cX8_tells 175 = .ok (.istore 4, 2) := by decide +kernel
theorem dX8_tells_177 : decode cX8_tells 177 = .ok (.iinc 5 1, 3) := by decide +kernel
theorem dX8_tells_180 : decode cX8_tells 180 = .ok (.goto (-79), 3) := by decide +kernel
theorem dX8_tells_183 : decode cX8_tells 183 = .ok (.aload_n 0, 1) := by decide +kernel
theorem dX8_tells_184 : decode cX8_tells 184 = .ok (.aload_n 0, 1) := by decide +kernel
theorem dX8_tells_185 : decode cX8_tells 185 = .ok (.getfield 182, 3) := by decide +kernel
theorem dX8_tells_188 : decode cX8_tells 188 = .ok (.invokevirtual 179, 3) := by decide +kernel
theorem dX8_tells_191 : decode cX8_tells 191 = .ok (.istore 5, 2) := by decide +kernel
theorem dX8_tells_193 : decode cX8_tells 193 = .ok (.aload_n 0, 1) := by decide +kernel
theorem dX8_tells_194 : decode cX8_tells 194 = .ok (.iconst 2, 1) := by decide +kernel
theorem dX8_tells_195 : decode cX8_tells 195 = .ok (.iload 5, 2) := by decide +kernel
theorem dX8_tells_197 : decode cX8_tells 197 = .ok (.imul, 1) := by decide +kernel
theorem dX8_tells_198 : decode cX8_tells 198 = .ok (.iload_n 2, 1) := by decide +kernel
theorem dX8_tells_199 : decode cX8_tells 199 = .ok (.if_icmp .le 7, 3) := by decide +kernel
theorem dX8_tells_202 : decode cX8_tells 202 = .ok (.iconst 1, 1) := by decide +kernel
theorem dX8_tells_203 : decode cX8_tells 203 = .ok (.goto 4, 3) := by decide +kernel
theorem dX8_tells_206 : decode cX8_tells 206 = .ok (.iconst 0, 1) := by decide +kernel
theorem dX8_tells_207 : decode cX8_tells 207 = .ok (.putfield 185, 3) := by decide +kernel
theorem dX8_tells_210 : decode cX8_tells 210 = .ok (.aload_n 0, 1) := by decide +kernel
theorem dX8_tells_211 : decode cX8_tells 211 = .ok (.aload_n 0, 1) := by decide +kernel
theorem dX8_tells_212 : decode cX8_tells 212 = .ok (.getfield 185, 3) := by decide +kernel
theorem dX8_tells_215 : decode cX8_tells 215 = .ok (.ifCond .eq 13, 3) := by decide +kernel
theorem dX8_tells_218 : decode cX8_tells 218 = .ok (.iload 4, 2) := by decide +kernel
theorem dX8_tells_220 : decode cX8_tells 220 = .ok (.iload 5, 2) := by decide +kernel
theorem dX8_tells_222 : decode cX8_tells 222 = .ok (.invokestatic 200, 3) := by decide +kernel
theorem dX8_tells_225 : decode cX8_tells 225 = .ok (.goto 4, 3) := by decide +kernel
theorem dX8_tells_228 : decode cX8_tells 228 = .ok (.iconst 0, 1) := by decide +kernel
theorem dX8_tells_229 : decode cX8_tells 229 = .ok (.putfield 189, 3) := by decide +kernel
theorem dX8_tells_232 : decode cX8_tells 232 = .ok (.return_, 1) := by decide +kernel
theorem dX8_floor_0 : decode cX8_floor 0 = .ok (.iload_n 0, 1) := by decide +kernel
theorem dX8_floor_1 : decode cX8_floor 1 = .ok (.iload_n 1, 1) := by decide +kernel
theorem dX8_floor_2 : decode cX8_floor 2 = .ok (.idiv, 1) := by decide +kernel
theorem dX8_floor_3 : decode cX8_floor 3 = .ok (.istore_n 2, 1) := by decide +kernel
theorem dX8_floor_4 : decode cX8_floor 4 = .ok (.iload_n 0, 1) := by decide +kernel
theorem dX8_floor_5 : decode cX8_floor 5 = .ok (.iload_n 1, 1) := by decide +kernel
theorem dX8_floor_6 : decode cX8_floor 6 = .ok (.irem, 1) := by decide +kernel
theorem dX8_floor_7 : decode cX8_floor 7 = .ok (.ifCond .ge 9, 3) := by decide +kernel
theorem dX8_floor_10 : decode cX8_floor 10 = .ok (.iload_n 2, 1) := by decide +kernel
theorem dX8_floor_11 : decode cX8_floor 11 = .ok (.iconst 1, 1) := by decide +kernel
theorem dX8_floor_12 : decode cX8_floor 12 = .ok (.isub, 1) := by decide +kernel
theorem dX8_floor_13 : decode cX8_floor 13 = .ok (.goto 4, 3) := by decide +kernel
theorem dX8_floor_16 : decode cX8_floor 16 = .ok (.iload_n 2, 1) := by decide +kernel
theorem dX8_floor_17 : decode cX8_floor 17 = .ok (.ireturn, 1) := by decide +kernel
theorem dX8_hourPlace_0 : decode cX8_hourPlace 0 = .ok (.sipush 142, 3) := by decide +kernel
theorem dX8_hourPlace_3 : decode cX8_hourPlace 3 = .ok (.bipush 18, 2) := by decide +kernel
theorem dX8_hourPlace_5 : decode cX8_hourPlace 5 = .ok (.iload_n 1, 1) := by decide +kernel
theorem dX8_hourPlace_6 : decode cX8_hourPlace 6 = .ok (.imul, 1) := by decide +kernel
theorem dX8_hourPlace_7 : decode cX8_hourPlace 7 = .ok (.iadd, 1) := by decide +kernel
theorem dX8_hourPlace_8 : decode cX8_hourPlace 8 = .ok (.ireturn, 1) := by decide +kernel
theorem dX8_firstHour_0 : decode cX8_firstHour 0 = .ok (.aload_n 0, 1) := by decide +kernel
theorem dX8_firstHour_1 : decode cX8_firstHour 1 = .ok (.getfield 7, 3) := by decide +kernel
theorem dX8_firstHour_4 : decode cX8_firstHour 4 = .ok (.iconst 5, 1) := by decide +kernel
theorem dX8_firstHour_5 : decode cX8_firstHour 5 = .ok (.iaload, 1) := by decide +kernel
theorem dX8_firstHour_6 : decode cX8_firstHour 6 = .ok (.aload_n 0, 1) := by decide +kernel
theorem dX8_firstHour_7 : decode cX8_firstHour 7 = .ok (.getfield 7, 3) := by decide +kernel
theorem dX8_firstHour_10 : decode cX8_firstHour 10 = .ok (.bipush 6, 2) := by decide +kernel
theorem dX8_firstHour_12 : decode cX8_firstHour 12 = .ok (.iaload, 1) := by decide +kernel
theorem dX8_firstHour_13 : decode cX8_firstHour 13 = .ok (.isub, 1) := by decide +kernel
theorem dX8_firstHour_14 : decode cX8_firstHour 14 = .ok (.ireturn, 1) := by decide +kernel
theorem dX8_of_0 : decode cX8_of 0 = .ok (.aload_n 0, 1) := by decide +kernel
theorem dX8_of_1 : decode cX8_of 1 = .ok (.getfield 7, 3) := by decide +kernel
theorem dX8_of_4 : decode cX8_of 4 = .ok (.aload_n 0, 1) := by decide +kernel
theorem dX8_of_5 : decode cX8_of 5 = .ok (.iload_n 1, 1) := by decide +kernel
theorem dX8_of_6 : decode cX8_of 6 = .ok (.aload_n 0, 1) := by decide +kernel
theorem dX8_of_7 : decode cX8_of 7 = .ok (.invokevirtual 203, 3) := by decide +kernel
theorem dX8_of_10 : decode cX8_of 10 = .ok (.isub, 1) := by decide +kernel
theorem dX8_of_11 : decode cX8_of 11 = .ok (.invokevirtual 206, 3) := by decide +kernel
theorem dX8_of_14 : decode cX8_of 14 = .ok (.iload_n 2, 1) := by decide +kernel
theorem dX8_of_15 : decode cX8_of 15 = .ok (.iadd, 1) := by decide +kernel
theorem dX8_of_16 : decode cX8_of 16 = .ok (.iaload, 1) := by decide +kernel
theorem dX8_of_17 : decode cX8_of 17 = .ok (.ireturn, 1) := by decide +kernel
theorem dX8_laysValues_0 : decode cX8_laysValues 0 = .ok (.iconst 0, 1) := by decide +kernel
theorem dX8_laysValues_1 : decode cX8_laysValues 1 = .ok (.istore_n 2, 1) := by decide +kernel
theorem dX8_laysValues_2 : decode cX8_laysValues 2 = .ok (.iload_n 2, 1) := by decide +kernel
theorem dX8_laysValues_3 : decode cX8_laysValues 3 = .ok (.bipush 10, 2) := by decide +kernel
theorem dX8_laysValues_5 : decode cX8_laysValues 5 = .ok (.if_icmp .ge 24, 3) := by decide +kernel
theorem dX8_laysValues_8 : decode cX8_laysValues 8 = .ok (.aload_n 0, 1) := by decide +kernel
theorem dX8_laysValues_9 : decode cX8_laysValues 9 = .ok (.getfield 40, 3) := by decide +kernel
theorem dX8_laysValues_12 : decode cX8_laysValues 12 = .ok (.iload_n 2, 1) := by decide +kernel
theorem dX8_laysValues_13 : decode cX8_laysValues 13 = .ok (.aload_n 0, 1) := by decide +kernel
theorem dX8_laysValues_14 : decode cX8_laysValues 14 = .ok (.iload_n 1, 1) := by decide +kernel
theorem dX8_laysValues_15 : decode cX8_laysValues 15 = .ok (.bipush 8, 2) := by decide +kernel
theorem dX8_laysValues_17 : decode cX8_laysValues 17 = .ok (.iload_n 2, 1) := by decide +kernel
theorem dX8_laysValues_18 : decode cX8_laysValues 18 = .ok (.iadd, 1) := by decide +kernel
theorem dX8_laysValues_19 : decode cX8_laysValues 19 = .ok (.invokevirtual 209, 3) := by decide +kernel
theorem dX8_laysValues_22 : decode cX8_laysValues 22 = .ok (.iastore, 1) := by decide +kernel
theorem dX8_laysValues_23 : decode cX8_laysValues 23 = .ok (.iinc 2 1, 3) := by decide +kernel
theorem dX8_laysValues_26 : decode cX8_laysValues 26 = .ok (.goto (-24), 3) := by decide +kernel
theorem dX8_laysValues_29 : decode cX8_laysValues 29 = .ok (.return_, 1) := by decide +kernel
theorem dX8_sets_0 : decode cX8_sets 0 = .ok (.aload_n 0, 1) := by decide +kernel
theorem dX8_sets_1 : decode cX8_sets 1 = .ok (.getfield 7, 3) := by decide +kernel
theorem dX8_sets_4 : decode cX8_sets 4 = .ok (.aload_n 0, 1) := by decide +kernel
theorem dX8_sets_5 : decode cX8_sets 5 = .ok (.iload_n 1, 1) := by decide +kernel
theorem dX8_sets_6 : decode cX8_sets 6 = .ok (.aload_n 0, 1) := by decide +kernel
theorem dX8_sets_7 : decode cX8_sets 7 = .ok (.invokevirtual 203, 3) := by decide +kernel
theorem dX8_sets_10 : decode cX8_sets 10 = .ok (.isub, 1) := by decide +kernel
theorem dX8_sets_11 : decode cX8_sets 11 = .ok (.invokevirtual 206, 3) := by decide +kernel
theorem dX8_sets_14 : decode cX8_sets 14 = .ok (.iload_n 2, 1) := by decide +kernel
theorem dX8_sets_15 : decode cX8_sets 15 = .ok (.iadd, 1) := by decide +kernel
theorem dX8_sets_16 : decode cX8_sets 16 = .ok (.iload_n 3, 1) := by decide +kernel
theorem dX8_sets_17 : decode cX8_sets 17 = .ok (.iastore, 1) := by decide +kernel
theorem dX8_sets_18 : decode cX8_sets 18 = .ok (.return_, 1) := by decide +kernel
theorem dX8_keepsLevel_0 : decode cX8_keepsLevel 0 = .ok (.aload_n 0, 1) := by decide +kernel
theorem dX8_keepsLevel_1 : decode cX8_keepsLevel 1 = .ok (.iload_n 1, 1) := by decide +kernel
theorem dX8_keepsLevel_2 : decode cX8_keepsLevel 2 = .ok (.iconst 1, 1) := by decide +kernel
theorem dX8_keepsLevel_3 : decode cX8_keepsLevel 3 = .ok (.aload_n 0, 1) := by decide +kernel
theorem dX8_keepsLevel_4 : decode cX8_keepsLevel 4 = .ok (.getfield 182, 3) := by decide +kernel
theorem dX8_keepsLevel_7 : decode cX8_keepsLevel 7 = .ok (.invokevirtual 212, 3) := by decide +kernel
theorem dX8_keepsLevel_10 : decode cX8_keepsLevel 10 = .ok (.aload_n 0, 1) := by decide +kernel
theorem dX8_keepsLevel_11 : decode cX8_keepsLevel 11 = .ok (.iload_n 1, 1) := by decide +kernel
theorem dX8_keepsLevel_12 : decode cX8_keepsLevel 12 = .ok (.iconst 2, 1) := by decide +kernel
theorem dX8_keepsLevel_13 : decode cX8_keepsLevel 13 = .ok (.aload_n 0, 1) := by decide +kernel
theorem dX8_keepsLevel_14 : decode cX8_keepsLevel 14 = .ok (.getfield 185, 3) := by decide +kernel
theorem dX8_keepsLevel_17 : decode cX8_keepsLevel 17 = .ok (.ifCond .eq 7, 3) := by decide +kernel
theorem dX8_keepsLevel_20 : decode cX8_keepsLevel 20 = .ok (.iconst 1, 1) := by decide +kernel
theorem dX8_keepsLevel_21 : decode cX8_keepsLevel 21 = .ok (.goto 4, 3) := by decide +kernel
theorem dX8_keepsLevel_24 : decode cX8_keepsLevel 24 = .ok (.iconst 0, 1) := by decide +kernel
theorem dX8_keepsLevel_25 : decode cX8_keepsLevel 25 = .ok (.invokevirtual 212, 3) := by decide +kernel
theorem dX8_keepsLevel_28 : decode cX8_keepsLevel 28 = .ok (.aload_n 0, 1) := by decide +kernel
theorem dX8_keepsLevel_29 : decode cX8_keepsLevel 29 = .ok (.iload_n 1, 1) := by decide +kernel
theorem dX8_keepsLevel_30 : decode cX8_keepsLevel 30 = .ok (.iconst 5, 1) := by decide +kernel
theorem dX8_keepsLevel_31 : decode cX8_keepsLevel 31 = .ok (.aload_n 0, 1) := by decide +kernel
theorem dX8_keepsLevel_32 : decode cX8_keepsLevel 32 = .ok (.getfield 189, 3) := by decide +kernel
theorem dX8_keepsLevel_35 : decode cX8_keepsLevel 35 = .ok (.invokevirtual 212, 3) := by decide +kernel
theorem dX8_keepsLevel_38 : decode cX8_keepsLevel 38 = .ok (.return_, 1) := by decide +kernel
theorem dX8_reporters_0 : decode cX8_reporters 0 = .ok (.iconst 0, 1) := by decide +kernel
theorem dX8_reporters_1 : decode cX8_reporters 1 = .ok (.istore_n 2, 1) := by decide +kernel
theorem dX8_reporters_2 : decode cX8_reporters 2 = .ok (.iconst 0, 1) := by decide +kernel
theorem dX8_reporters_3 : decode cX8_reporters 3 = .ok (.istore_n 3, 1) := by decide +kernel
theorem dX8_reporters_4 : decode cX8_reporters 4 = .ok (.iload_n 3, 1) := by decide +kernel
theorem dX8_reporters_5 : decode cX8_reporters 5 = .ok (.aload_n 0, 1) := by decide +kernel
theorem dX8_reporters_6 : decode cX8_reporters 6 = .ok (.getfield 7, 3) := by decide +kernel
theorem dX8_reporters_9 : decode cX8_reporters 9 = .ok (.iconst 0, 1) := by decide +kernel
theorem dX8_reporters_10 : decode cX8_reporters 10 = .ok (.iaload, 1) := by decide +kernel
theorem dX8_reporters_11 : decode cX8_reporters 11 = .ok (.if_icmp .ge 92, 3) := by decide +kernel
theorem dX8_reporters_14 : decode cX8_reporters 14 = .ok (.aload_n 0, 1) := by decide +kernel
theorem dX8_reporters_15 : decode cX8_reporters 15 = .ok (.getfield 40, 3) := by decide +kernel
theorem dX8_reporters_18 : decode cX8_reporters 18 = .ok (.iload_n 3, 1) := by decide +kernel
theorem dX8_reporters_19 : decode cX8_reporters 19 = .ok (.aload_n 0, 1) := by decide +kernel
theorem dX8_reporters_20 : decode cX8_reporters 20 = .ok (.getfield 7, 3) := by decide +kernel
theorem dX8_reporters_23 : decode cX8_reporters 23 = .ok (.bipush 92, 2) := by decide +kernel
theorem dX8_reporters_25 : decode cX8_reporters 25 = .ok (.iload_n 3, 1) := by decide +kernel
theorem dX8_reporters_26 : decode cX8_reporters 26 = .ok (.iadd, 1) := by decide +kernel
theorem dX8_reporters_27 : decode cX8_reporters 27 = .ok (.iaload, 1) := by decide +kernel
theorem dX8_reporters_28 : decode cX8_reporters 28 = .ok (.iconst 1, 1) := by decide +kernel
theorem dX8_reporters_29 : decode cX8_reporters 29 = .ok (.if_icmp .ne 25, 3) := by decide +kernel
theorem dX8_reporters_32 : decode cX8_reporters 32 = .ok (.aload_n 0, 1) := by decide +kernel
theorem dX8_reporters_33 : decode cX8_reporters 33 = .ok (.getfield 7, 3) := by decide +kernel
theorem dX8_reporters_36 : decode cX8_reporters 36 = .ok (.bipush 102, 2) := by decide +kernel
theorem dX8_reporters_38 : decode cX8_reporters 38 = .ok (.iload_n 3, 1) := by decide +kernel
theorem dX8_reporters_39 : decode cX8_reporters 39 = .ok (.iadd, 1) := by decide +kernel
theorem dX8_reporters_40 : decode cX8_reporters 40 = .ok (.iaload, 1) := by decide +kernel
theorem dX8_reporters_41 : decode cX8_reporters 41 = .ok (.aload_n 0, 1) := by decide +kernel
theorem dX8_reporters_42 : decode cX8_reporters 42 = .ok (.getfield 7, 3) := by decide +kernel
theorem dX8_reporters_45 : decode cX8_reporters 45 = .ok (.bipush 42, 2) := by decide +kernel
theorem dX8_reporters_47 : decode cX8_reporters 47 = .ok (.iload_n 3, 1) := by decide +kernel
theorem dX8_reporters_48 : decode cX8_reporters 48 = .ok (.iadd, 1) := by decide +kernel
theorem dX8_reporters_49 : decode cX8_reporters 49 = .ok (.iaload, 1) := by decide +kernel
theorem dX8_reporters_50 : decode cX8_reporters 50 = .ok (.isub, 1) := by decide +kernel
theorem dX8_reporters_51 : decode cX8_reporters 51 = .ok (.goto 4, 3) := by decide +kernel
theorem dX8_reporters_54 : decode cX8_reporters 54 = .ok (.iconst 0, 1) := by decide +kernel
theorem dX8_reporters_55 : decode cX8_reporters 55 = .ok (.iastore, 1) := by decide +kernel
theorem dX8_reporters_56 : decode cX8_reporters 56 = .ok (.iload_n 2, 1) := by decide +kernel
theorem dX8_reporters_57 : decode cX8_reporters 57 = .ok (.aload_n 0, 1) := by decide +kernel
theorem dX8_reporters_58 : decode cX8_reporters 58 = .ok (.getfield 7, 3) := by decide +kernel
theorem dX8_reporters_61 : decode cX8_reporters 61 = .ok (.bipush 92, 2) := by decide +kernel
theorem dX8_reporters_63 : decode cX8_reporters 63 = .ok (.iload_n 3, 1) := by decide +kernel
theorem dX8_reporters_64 : decode cX8_reporters 64 = .ok (.iadd, 1) := by decide +kernel
theorem dX8_reporters_65 : decode cX8_reporters 65 = .ok (.iaload, 1) := by decide +kernel
theorem dX8_reporters_66 : decode cX8_reporters 66 = .ok (.iconst 1, 1) := by decide +kernel
theorem dX8_reporters_67 : decode cX8_reporters 67 = .ok (.if_icmp .ne 27, 3) := by decide +kernel
theorem dX8_reporters_70 : decode cX8_reporters 70 = .ok (.iload_n 1, 1) := by decide +kernel
theorem dX8_reporters_71 : decode cX8_reporters 71 = .ok (.iconst (-1), 1) := by decide +kernel
theorem dX8_reporters_72 : decode cX8_reporters 72 = .ok (.if_icmp .eq 16, 3) := by decide +kernel
theorem dX8_reporters_75 : decode cX8_reporters 75 = .ok (.aload_n 0, 1) := by decide +kernel
theorem dX8_reporters_76 : decode cX8_reporters 76 = .ok (.getfield 7, 3) := by decide +kernel
theorem dX8_reporters_79 : decode cX8_reporters 79 = .ok (.bipush 52, 2) := by decide +kernel
theorem dX8_reporters_81 : decode cX8_reporters 81 = .ok (.iload_n 3, 1) := by decide +kernel
theorem dX8_reporters_82 : decode cX8_reporters 82 = .ok (.iadd, 1) := by decide +kernel
theorem dX8_reporters_83 : decode cX8_reporters 83 = .ok (.iaload, 1) := by decide +kernel
theorem dX8_reporters_84 : decode cX8_reporters 84 = .ok (.iload_n 1, 1) := by decide +kernel
theorem dX8_reporters_85 : decode cX8_reporters 85 = .ok (.if_icmp .ne 9, 3) := by decide +kernel
theorem dX8_reporters_88 : decode cX8_reporters 88 = .ok (.iconst 1, 1) := by decide +kernel
theorem dX8_reporters_89 : decode cX8_reporters 89 = .ok (.iload_n 3, 1) := by decide +kernel
theorem dX8_reporters_90 : decode cX8_reporters 90 = .ok (.ishl, 1) := by decide +kernel
theorem dX8_reporters_91 : decode cX8_reporters 91 = .ok (.goto 4, 3) := by decide +kernel
theorem dX8_reporters_94 : decode cX8_reporters 94 = .ok (.iconst 0, 1) := by decide +kernel
theorem dX8_reporters_95 : decode cX8_reporters 95 = .ok (.ior, 1) := by decide +kernel
theorem dX8_reporters_96 : decode cX8_reporters 96 = .ok (.istore_n 2, 1) := by decide +kernel
theorem dX8_reporters_97 : decode cX8_reporters 97 = .ok (.iinc 3 1, 3) := by decide +kernel
theorem dX8_reporters_100 : decode cX8_reporters 100 = .ok (.goto (-96), 3) := by decide +kernel
theorem dX8_reporters_103 : decode cX8_reporters 103 = .ok (.iload_n 2, 1) := by decide +kernel
theorem dX8_reporters_104 : decode cX8_reporters 104 = .ok (.ireturn, 1) := by decide +kernel
theorem dX8_newHour_0 : decode cX8_newHour 0 = .ok (.aload_n 0, 1) := by decide +kernel
theorem dX8_newHour_1 : decode cX8_newHour 1 = .ok (.getfield 7, 3) := by decide +kernel
theorem dX8_newHour_4 : decode cX8_newHour 4 = .ok (.bipush 6, 2) := by decide +kernel
theorem dX8_newHour_6 : decode cX8_newHour 6 = .ok (.iaload, 1) := by decide +kernel
theorem dX8_newHour_7 : decode cX8_newHour 7 = .ok (.bipush 24, 2) := by decide +kernel
theorem dX8_newHour_9 : decode cX8_newHour 9 = .ok (.if_icmp .ne 49, 3) := by decide +kernel
theorem dX8_newHour_12 : decode cX8_newHour 12 = .ok (.sipush 142, 3) := by decide +kernel
theorem dX8_newHour_15 : decode cX8_newHour 15 = .ok (.istore_n 1, 1) := by decide +kernel
theorem dX8_newHour_16 : decode cX8_newHour 16 = .ok (.iload_n 1, 1) := by decide +kernel
theorem dX8_newHour_17 : decode cX8_newHour 17 = .ok (.bipush 18, 2) := by decide +kernel
theorem dX8_newHour_19 : decode cX8_newHour 19 = .ok (.iadd, 1) := by decide +kernel
theorem dX8_newHour_20 : decode cX8_newHour 20 = .ok (.sipush 574, 3) := by decide +kernel
theorem dX8_newHour_23 : decode cX8_newHour 23 = .ok (.if_icmp .ge 24, 3) := by decide +kernel
theorem dX8_newHour_26 : decode cX8_newHour 26 = .ok (.aload_n 0, 1) := by decide +kernel
theorem dX8_newHour_27 : decode cX8_newHour 27 = .ok (.getfield 7, 3) := by decide +kernel
theorem dX8_newHour_30 : decode cX8_newHour 30 = .ok (.iload_n 1, 1) := by decide +kernel
theorem dX8_newHour_31 : decode cX8_newHour 31 = .ok (.aload_n 0, 1) := by decide +kernel
theorem dX8_newHour_32 : decode cX8_newHour 32 = .ok (.getfield 7, 3) := by decide +kernel
theorem dX8_newHour_35 : decode cX8_newHour 35 = .ok (.iload_n 1, 1) := by decide +kernel
theorem dX8_newHour_36 : decode cX8_newHour 36 = .ok (.bipush 18, 2) := by decide +kernel
theorem dX8_newHour_38 : decode cX8_newHour 38 = .ok (.iadd, 1) := by decide +kernel
theorem dX8_newHour_39 : decode cX8_newHour 39 = .ok (.iaload, 1) := by decide +kernel
theorem dX8_newHour_40 : decode cX8_newHour 40 = .ok (.iastore, 1) := by decide +kernel
theorem dX8_newHour_41 : decode cX8_newHour 41 = .ok (.iinc 1 1, 3) := by decide +kernel
theorem dX8_newHour_44 : decode cX8_newHour 44 = .ok (.goto (-28), 3) := by decide +kernel
theorem dX8_newHour_47 : decode cX8_newHour 47 = .ok (.aload_n 0, 1) := by decide +kernel
theorem dX8_newHour_48 : decode cX8_newHour 48 = .ok (.getfield 7, 3) := by decide +kernel
theorem dX8_newHour_51 : decode cX8_newHour 51 = .ok (.bipush 6, 2) := by decide +kernel
theorem dX8_newHour_53 : decode cX8_newHour 53 = .ok (.dup2, 1) := by decide +kernel
theorem dX8_newHour_54 : decode cX8_newHour 54 = .ok (.iaload, 1) := by decide +kernel
theorem dX8_newHour_55 : decode cX8_newHour 55 = .ok (.iconst 1, 1) := by decide +kernel
theorem dX8_newHour_56 : decode cX8_newHour 56 = .ok (.isub, 1) := by decide +kernel
theorem dX8_newHour_57 : decode cX8_newHour 57 = .ok (.iastore, 1) := by decide +kernel
theorem dX8_newHour_58 : decode cX8_newHour 58 = .ok (.aload_n 0, 1) := by decide +kernel
theorem dX8_newHour_59 : decode cX8_newHour 59 = .ok (.aload_n 0, 1) := by decide +kernel
theorem dX8_newHour_60 : decode cX8_newHour 60 = .ok (.getfield 7, 3) := by decide +kernel
theorem dX8_newHour_63 : decode cX8_newHour 63 = .ok (.bipush 6, 2) := by decide +kernel
theorem dX8_newHour_65 : decode cX8_newHour 65 = .ok (.iaload, 1) := by decide +kernel
theorem dX8_newHour_66 : decode cX8_newHour 66 = .ok (.invokevirtual 206, 3) := by decide +kernel
theorem dX8_newHour_69 : decode cX8_newHour 69 = .ok (.istore_n 1, 1) := by decide +kernel
theorem dX8_newHour_70 : decode cX8_newHour 70 = .ok (.iconst 0, 1) := by decide +kernel
theorem dX8_newHour_71 : decode cX8_newHour 71 = .ok (.istore_n 2, 1) := by decide +kernel
theorem dX8_newHour_72 : decode cX8_newHour 72 = .ok (.iload_n 2, 1) := by decide +kernel
theorem dX8_newHour_73 : decode cX8_newHour 73 = .ok (.bipush 18, 2) := by decide +kernel
theorem dX8_newHour_75 : decode cX8_newHour 75 = .ok (.if_icmp .ge 18, 3) := by decide +kernel
theorem dX8_newHour_78 : decode cX8_newHour 78 = .ok (.aload_n 0, 1) := by decide +kernel
theorem dX8_newHour_79 : decode cX8_newHour 79 = .ok (.getfield 7, 3) := by decide +kernel
theorem dX8_newHour_82 : decode cX8_newHour 82 = .ok (.iload_n 1, 1) := by decide +kernel
theorem dX8_newHour_83 : decode cX8_newHour 83 = .ok (.iload_n 2, 1) := by decide +kernel
theorem dX8_newHour_84 : decode cX8_newHour 84 = .ok (.iadd, 1) := by decide +kernel
theorem dX8_newHour_85 : decode cX8_newHour 85 = .ok (.iconst 0, 1) := by decide +kernel
theorem dX8_newHour_86 : decode cX8_newHour 86 = .ok (.iastore, 1) := by decide +kernel
theorem dX8_newHour_87 : decode cX8_newHour 87 = .ok (.iinc 2 1, 3) := by decide +kernel
theorem dX8_newHour_90 : decode cX8_newHour 90 = .ok (.goto (-18), 3) := by decide +kernel
theorem dX8_newHour_93 : decode cX8_newHour 93 = .ok (.aload_n 0, 1) := by decide +kernel
theorem dX8_newHour_94 : decode cX8_newHour 94 = .ok (.getfield 7, 3) := by decide +kernel
theorem dX8_newHour_97 : decode cX8_newHour 97 = .ok (.bipush 6, 2) := by decide +kernel
theorem dX8_newHour_99 : decode cX8_newHour 99 = .ok (.dup2, 1) := by decide +kernel
theorem dX8_newHour_100 : decode cX8_newHour 100 = .ok (.iaload, 1) := by decide +kernel
theorem dX8_newHour_101 : decode cX8_newHour 101 = .ok (.iconst 1, 1) := by decide +kernel
theorem dX8_newHour_102 : decode cX8_newHour 102 = .ok (.iadd, 1) := by decide +kernel
theorem dX8_newHour_103 : decode cX8_newHour 103 = .ok (.iastore, 1) := by decide +kernel
theorem dX8_newHour_104 : decode cX8_newHour 104 = .ok (.iload_n 1, 1) := by decide +kernel
theorem dX8_newHour_105 : decode cX8_newHour 105 = .ok (.ireturn, 1) := by decide +kernel
theorem dX8_strikes_0 : decode cX8_strikes 0 = .ok (.iconst 0, 1) := by decide +kernel
theorem dX8_strikes_1 : decode cX8_strikes 1 = .ok (.istore_n 2, 1) := by decide +kernel
theorem dX8_strikes_2 : decode cX8_strikes 2 = .ok (.iload_n 2, 1) := by decide +kernel
theorem dX8_strikes_3 : decode cX8_strikes 3 = .ok (.aload_n 0, 1) := by decide +kernel
theorem dX8_strikes_4 : decode cX8_strikes 4 = .ok (.getfield 7, 3) := by decide +kernel
theorem dX8_strikes_7 : decode cX8_strikes 7 = .ok (.iconst 0, 1) := by decide +kernel
theorem dX8_strikes_8 : decode cX8_strikes 8 = .ok (.iaload, 1) := by decide +kernel
theorem dX8_strikes_9 : decode cX8_strikes 9 = .ok (.if_icmp .ge 106, 3) := by decide +kernel
theorem dX8_strikes_12 : decode cX8_strikes 12 = .ok (.iload_n 1, 1) := by decide +kernel
theorem dX8_strikes_13 : decode cX8_strikes 13 = .ok (.iload_n 2, 1) := by decide +kernel
theorem dX8_strikes_14 : decode cX8_strikes 14 = .ok (.invokestatic 176, 3) := by decide +kernel
theorem dX8_strikes_17 : decode cX8_strikes 17 = .ok (.ifCond .ne 6, 3) := by decide +kernel
theorem dX8_strikes_20 : decode cX8_strikes 20 = .ok (.goto 89, 3) := by decide +kernel
theorem dX8_strikes_23 : decode cX8_strikes 23 = .ok (.aload_n 0, 1) := by decide +kernel
theorem dX8_strikes_24 : decode cX8_strikes 24 = .ok (.getfield 182, 3) := by decide +kernel
theorem dX8_strikes_27 : decode cX8_strikes 27 = .ok (.iload_n 2, 1) := by decide +kernel
theorem dX8_strikes_28 : decode cX8_strikes 28 = .ok (.invokestatic 176, 3) := by decide +kernel
theorem dX8_strikes_31 : decode cX8_strikes 31 = .ok (.ifCond .eq 26, 3) := by decide +kernel
theorem dX8_strikes_34 : decode cX8_strikes 34 = .ok (.aload_n 0, 1) := by decide +kernel
theorem dX8_strikes_35 : decode cX8_strikes 35 = .ok (.getfield 7, 3) := by decide +kernel
theorem dX8_strikes_38 : decode cX8_strikes 38 = .ok (.bipush 62, 2) := by decide +kernel
theorem dX8_strikes_40 : decode cX8_strikes 40 = .ok (.iload_n 2, 1) := by decide +kernel
theorem dX8_strikes_41 : decode cX8_strikes 41 = .ok (.iadd, 1) := by decide +kernel
theorem dX8_strikes_42 : decode cX8_strikes 42 = .ok (.iconst 0, 1) := by decide +kernel
theorem dX8_strikes_43 : decode cX8_strikes 43 = .ok (.iastore, 1) := by decide +kernel
theorem dX8_strikes_44 : decode cX8_strikes 44 = .ok (.aload_n 0, 1) := by decide +kernel
theorem dX8_strikes_45 : decode cX8_strikes 45 = .ok (.getfield 7, 3) := by decide +kernel
theorem dX8_strikes_48 : decode cX8_strikes 48 = .ok (.bipush 82, 2) := by decide +kernel
theorem dX8_strikes_50 : decode cX8_strikes 50 = .ok (.iload_n 2, 1) := by decide +kernel
theorem dX8_strikes_51 : decode cX8_strikes 51 = .ok (.iadd, 1) := by decide +kernel
theorem dX8_strikes_52 : decode cX8_strikes 52 = .ok (.iconst (-1), 1) := by decide +kernel
theorem dX8_strikes_53 : decode cX8_strikes 53 = .ok (.iastore, 1) := by decide +kernel
theorem dX8_strikes_54 : decode cX8_strikes 54 = .ok (.goto 55, 3) := by decide +kernel
theorem dX8_strikes_57 : decode cX8_strikes 57 = .ok (.aload_n 0, 1) := by decide +kernel
theorem dX8_strikes_58 : decode cX8_strikes 58 = .ok (.getfield 7, 3) := by decide +kernel
theorem dX8_strikes_61 : decode cX8_strikes 61 = .ok (.bipush 82, 2) := by decide +kernel
theorem dX8_strikes_63 : decode cX8_strikes 63 = .ok (.iload_n 2, 1) := by decide +kernel
theorem dX8_strikes_64 : decode cX8_strikes 64 = .ok (.iadd, 1) := by decide +kernel
theorem dX8_strikes_65 : decode cX8_strikes 65 = .ok (.aload_n 0, 1) := by decide +kernel
theorem dX8_strikes_66 : decode cX8_strikes 66 = .ok (.getfield 7, 3) := by decide +kernel
theorem dX8_strikes_69 : decode cX8_strikes 69 = .ok (.bipush 62, 2) := by decide +kernel
theorem dX8_strikes_71 : decode cX8_strikes 71 = .ok (.iload_n 2, 1) := by decide +kernel
theorem dX8_strikes_72 : decode cX8_strikes 72 = .ok (.iadd, 1) := by decide +kernel
theorem dX8_strikes_73 : decode cX8_strikes 73 = .ok (.iaload, 1) := by decide +kernel
theorem dX8_strikes_74 : decode cX8_strikes 74 = .ok (.ifCond .ne 12, 3) := by decide +kernel
theorem dX8_strikes_77 : decode cX8_strikes 77 = .ok (.aload_n 0, 1) := by decide +kernel
theorem dX8_strikes_78 : decode cX8_strikes 78 = .ok (.getfield 7, 3) := by decide +kernel
theorem dX8_strikes_81 : decode cX8_strikes 81 = .ok (.iconst 5, 1) := by decide +kernel
theorem dX8_strikes_82 : decode cX8_strikes 82 = .ok (.iaload, 1) := by decide +kernel
theorem dX8_strikes_83 : decode cX8_strikes 83 = .ok (.goto 12, 3) := by decide +kernel
theorem dX8_strikes_86 : decode cX8_strikes 86 = .ok (.aload_n 0, 1) := by decide +kernel
theorem dX8_strikes_87 : decode cX8_strikes 87 = .ok (.getfield 7, 3) := by decide +kernel
theorem dX8_strikes_90 : decode cX8_strikes 90 = .ok (.bipush 82, 2) := by decide +kernel
theorem dX8_strikes_92 : decode cX8_strikes 92 = .ok (.iload_n 2, 1) := by decide +kernel
theorem dX8_strikes_93 : decode cX8_strikes 93 = .ok (.iadd, 1) := by decide +kernel
theorem dX8_strikes_94 : decode cX8_strikes 94 = .ok (.iaload, 1) := by decide +kernel
theorem dX8_strikes_95 : decode cX8_strikes 95 = .ok (.iastore, 1) := by decide +kernel
theorem dX8_strikes_96 : decode cX8_strikes 96 = .ok (.aload_n 0, 1) := by decide +kernel
theorem dX8_strikes_97 : decode cX8_strikes 97 = .ok (.getfield 7, 3) := by decide +kernel
theorem dX8_strikes_100 : decode cX8_strikes 100 = .ok (.bipush 62, 2) := by decide +kernel
theorem dX8_strikes_102 : decode cX8_strikes 102 = .ok (.iload_n 2, 1) := by decide +kernel
theorem dX8_strikes_103 : decode cX8_strikes 103 = .ok (.iadd, 1) := by decide +kernel
theorem dX8_strikes_104 : decode cX8_strikes 104 = .ok (.dup2, 1) := by decide +kernel
theorem dX8_strikes_105 : decode cX8_strikes 105 = .ok (.iaload, 1) := by decide +kernel
theorem dX8_strikes_106 : decode cX8_strikes 106 = .ok (.iconst 1, 1) := by decide +kernel
theorem dX8_strikes_107 : decode cX8_strikes 107 = .ok (.iadd, 1) := by decide +kernel
theorem dX8_strikes_108 : decode cX8_strikes 108 = .ok (.iastore, 1) := by decide +kernel
theorem dX8_strikes_109 : decode cX8_strikes 109 = .ok (.iinc 2 1, 3) := by decide +kernel
theorem dX8_strikes_112 : decode cX8_strikes 112 = .ok (.goto (-110), 3) := by decide +kernel
theorem dX8_strikes_115 : decode cX8_strikes 115 = .ok (.return_, 1) := by decide +kernel
theorem dX8_agrees_0 : decode cX8_agrees 0 = .ok (.iconst 0, 1) := by decide +kernel
theorem dX8_agrees_1 : decode cX8_agrees 1 = .ok (.istore_n 2, 1) := by decide +kernel
theorem dX8_agrees_2 : decode cX8_agrees 2 = .ok (.iload_n 2, 1) := by decide +kernel
theorem dX8_agrees_3 : decode cX8_agrees 3 = .ok (.aload_n 0, 1) := by decide +kernel
theorem dX8_agrees_4 : decode cX8_agrees 4 = .ok (.getfield 7, 3) := by decide +kernel
theorem dX8_agrees_7 : decode cX8_agrees 7 = .ok (.iconst 0, 1) := by decide +kernel
theorem dX8_agrees_8 : decode cX8_agrees 8 = .ok (.iaload, 1) := by decide +kernel
theorem dX8_agrees_9 : decode cX8_agrees 9 = .ok (.if_icmp .ge 63, 3) := by decide +kernel
theorem dX8_agrees_12 : decode cX8_agrees 12 = .ok (.iload_n 1, 1) := by decide +kernel
theorem dX8_agrees_13 : decode cX8_agrees 13 = .ok (.iload_n 2, 1) := by decide +kernel
theorem dX8_agrees_14 : decode cX8_agrees 14 = .ok (.invokestatic 176, 3) := by decide +kernel
theorem dX8_agrees_17 : decode cX8_agrees 17 = .ok (.ifCond .eq 49, 3) := by decide +kernel
theorem dX8_agrees_20 : decode cX8_agrees 20 = .ok (.aload_n 0, 1) := by decide +kernel
theorem dX8_agrees_21 : decode cX8_agrees 21 = .ok (.getfield 7, 3) := by decide +kernel
theorem dX8_agrees_24 : decode cX8_agrees 24 = .ok (.bipush 72, 2) := by decide +kernel
theorem dX8_agrees_26 : decode cX8_agrees 26 = .ok (.iload_n 2, 1) := by decide +kernel
theorem dX8_agrees_27 : decode cX8_agrees 27 = .ok (.iadd, 1) := by decide +kernel
theorem dX8_agrees_28 : decode cX8_agrees 28 = .ok (.aload_n 0, 1) := by decide +kernel
theorem dX8_agrees_29 : decode cX8_agrees 29 = .ok (.getfield 40, 3) := by decide +kernel
theorem dX8_agrees_32 : decode cX8_agrees 32 = .ok (.iload_n 2, 1) := by decide +kernel
theorem dX8_agrees_33 : decode cX8_agrees 33 = .ok (.iaload, 1) := by decide +kernel
theorem dX8_agrees_34 : decode cX8_agrees 34 = .ok (.aload_n 0, 1) := by decide +kernel
theorem dX8_agrees_35 : decode cX8_agrees 35 = .ok (.getfield 189, 3) := by decide +kernel
theorem dX8_agrees_38 : decode cX8_agrees 38 = .ok (.invokestatic 197, 3) := by decide +kernel
theorem dX8_agrees_41 : decode cX8_agrees 41 = .ok (.aload_n 0, 1) := by decide +kernel
theorem dX8_agrees_42 : decode cX8_agrees 42 = .ok (.getfield 7, 3) := by decide +kernel
theorem dX8_agrees_45 : decode cX8_agrees 45 = .ok (.iconst 1, 1) := by decide +kernel
theorem dX8_agrees_46 : decode cX8_agrees 46 = .ok (.iaload, 1) := by decide +kernel
theorem dX8_agrees_47 : decode cX8_agrees 47 = .ok (.if_icmp .gt 17, 3) := by decide +kernel
theorem dX8_agrees_50 : decode cX8_agrees 50 = .ok (.aload_n 0, 1) := by decide +kernel
theorem dX8_agrees_51 : decode cX8_agrees 51 = .ok (.getfield 7, 3) := by decide +kernel
theorem dX8_agrees_54 : decode cX8_agrees 54 = .ok (.bipush 72, 2) := by decide +kernel
theorem dX8_agrees_56 : decode cX8_agrees 56 = .ok (.iload_n 2, 1) := by decide +kernel
theorem dX8_agrees_57 : decode cX8_agrees 57 = .ok (.iadd, 1) := by decide +kernel
theorem dX8_agrees_58 : decode cX8_agrees 58 = .ok (.iaload, 1) := by decide +kernel
theorem dX8_agrees_59 : decode cX8_agrees 59 = .ok (.iconst 1, 1) := by decide +kernel
theorem dX8_agrees_60 : decode cX8_agrees 60 = .ok (.iadd, 1) := by decide +kernel
theorem dX8_agrees_61 : decode cX8_agrees 61 = .ok (.goto 4, 3) := by decide +kernel
theorem dX8_agrees_64 : decode cX8_agrees 64 = .ok (.iconst 0, 1) := by decide +kernel
theorem dX8_agrees_65 : decode cX8_agrees 65 = .ok (.iastore, 1) := by decide +kernel
theorem dX8_agrees_66 : decode cX8_agrees 66 = .ok (.iinc 2 1, 3) := by decide +kernel
theorem dX8_agrees_69 : decode cX8_agrees 69 = .ok (.goto (-67), 3) := by decide +kernel
theorem dX8_agrees_72 : decode cX8_agrees 72 = .ok (.iconst 0, 1) := by decide +kernel
theorem dX8_agrees_73 : decode cX8_agrees 73 = .ok (.istore_n 2, 1) := by decide +kernel
theorem dX8_agrees_74 : decode cX8_agrees 74 = .ok (.iload_n 2, 1) := by decide +kernel
theorem dX8_agrees_75 : decode cX8_agrees 75 = .ok (.aload_n 0, 1) := by decide +kernel
theorem dX8_agrees_76 : decode cX8_agrees 76 = .ok (.getfield 7, 3) := by decide +kernel
theorem dX8_agrees_79 : decode cX8_agrees 79 = .ok (.iconst 0, 1) := by decide +kernel
theorem dX8_agrees_80 : decode cX8_agrees 80 = .ok (.iaload, 1) := by decide +kernel
theorem dX8_agrees_81 : decode cX8_agrees 81 = .ok (.if_icmp .ge 60, 3) := by decide +kernel
theorem dX8_agrees_84 : decode cX8_agrees 84 = .ok (.aload_n 0, 1) := by decide +kernel
theorem dX8_agrees_85 : decode cX8_agrees 85 = .ok (.getfield 7, 3) := by decide +kernel
theorem dX8_agrees_88 : decode cX8_agrees 88 = .ok (.bipush 52, 2) := by decide +kernel
theorem dX8_agrees_90 : decode cX8_agrees 90 = .ok (.iload_n 2, 1) := by decide +kernel
theorem dX8_agrees_91 : decode cX8_agrees 91 = .ok (.iadd, 1) := by decide +kernel
theorem dX8_agrees_92 : decode cX8_agrees 92 = .ok (.iaload, 1) := by decide +kernel
theorem dX8_agrees_93 : decode cX8_agrees 93 = .ok (.iconst 1, 1) := by decide +kernel
theorem dX8_agrees_94 : decode cX8_agrees 94 = .ok (.if_icmp .ne 41, 3) := by decide +kernel
theorem dX8_agrees_97 : decode cX8_agrees 97 = .ok (.aload_n 0, 1) := by decide +kernel
theorem dX8_agrees_98 : decode cX8_agrees 98 = .ok (.getfield 7, 3) := by decide +kernel
theorem dX8_agrees_101 : decode cX8_agrees 101 = .ok (.bipush 72, 2) := by decide +kernel
theorem dX8_agrees_103 : decode cX8_agrees 103 = .ok (.iload_n 2, 1) := by decide +kernel
theorem dX8_agrees_104 : decode cX8_agrees 104 = .ok (.iadd, 1) := by decide +kernel
theorem dX8_agrees_105 : decode cX8_agrees 105 = .ok (.iaload, 1) := by decide +kernel
theorem dX8_agrees_106 : decode cX8_agrees 106 = .ok (.aload_n 0, 1) := by decide +kernel
theorem dX8_agrees_107 : decode cX8_agrees 107 = .ok (.getfield 7, 3) := by decide +kernel
theorem dX8_agrees_110 : decode cX8_agrees 110 = .ok (.iconst 3, 1) := by decide +kernel
theorem dX8_agrees_111 : decode cX8_agrees 111 = .ok (.iaload, 1) := by decide +kernel
theorem dX8_agrees_112 : decode cX8_agrees 112 = .ok (.if_icmp .lt 23, 3) := by decide +kernel
theorem dX8_agrees_115 : decode cX8_agrees 115 = .ok (.aload_n 0, 1) := by decide +kernel
theorem dX8_agrees_116 : decode cX8_agrees 116 = .ok (.getfield 7, 3) := by decide +kernel
theorem dX8_agrees_119 : decode cX8_agrees 119 = .ok (.bipush 52, 2) := by decide +kernel
theorem dX8_agrees_121 : decode cX8_agrees 121 = .ok (.iload_n 2, 1) := by decide +kernel
theorem dX8_agrees_122 : decode cX8_agrees 122 = .ok (.iadd, 1) := by decide +kernel
theorem dX8_agrees_123 : decode cX8_agrees 123 = .ok (.iconst 0, 1) := by decide +kernel
theorem dX8_agrees_124 : decode cX8_agrees 124 = .ok (.iastore, 1) := by decide +kernel
theorem dX8_agrees_125 : decode cX8_agrees 125 = .ok (.aload_n 0, 1) := by decide +kernel
theorem dX8_agrees_126 : decode cX8_agrees 126 = .ok (.getfield 7, 3) := by decide +kernel
theorem dX8_agrees_129 : decode cX8_agrees 129 = .ok (.bipush 72, 2) := by decide +kernel
theorem dX8_agrees_131 : decode cX8_agrees 131 = .ok (.iload_n 2, 1) := by decide +kernel
theorem dX8_agrees_132 : decode cX8_agrees 132 = .ok (.iadd, 1) := by decide +kernel
theorem dX8_agrees_133 : decode cX8_agrees 133 = .ok (.iconst 0, 1) := by decide +kernel
theorem dX8_agrees_134 : decode cX8_agrees 134 = .ok (.iastore, 1) := by decide +kernel
theorem dX8_agrees_135 : decode cX8_agrees 135 = .ok (.iinc 2 1, 3) := by decide +kernel
theorem dX8_agrees_138 : decode cX8_agrees 138 = .ok (.goto (-64), 3) := by decide +kernel
theorem dX8_agrees_141 : decode cX8_agrees 141 = .ok (.return_, 1) := by decide +kernel
theorem dX8_dragsOff_0 : decode cX8_dragsOff 0 = .ok (.iconst 0, 1) := by decide +kernel
theorem dX8_dragsOff_1 : decode cX8_dragsOff 1 = .ok (.istore_n 2, 1) := by decide +kernel
theorem dX8_dragsOff_2 : decode cX8_dragsOff 2 = .ok (.iconst 0, 1) := by decide +kernel
theorem dX8_dragsOff_3 : decode cX8_dragsOff 3 = .ok (.istore_n 3, 1) := by decide +kernel
theorem dX8_dragsOff_4 : decode cX8_dragsOff 4 = .ok (.iload_n 3, 1) := by decide +kernel
theorem dX8_dragsOff_5 : decode cX8_dragsOff 5 = .ok (.aload_n 0, 1) := by decide +kernel
theorem dX8_dragsOff_6 : decode cX8_dragsOff 6 = .ok (.getfield 7, 3) := by decide +kernel
theorem dX8_dragsOff_9 : decode cX8_dragsOff 9 = .ok (.iconst 0, 1) := by decide +kernel
theorem dX8_dragsOff_10 : decode cX8_dragsOff 10 = .ok (.iaload, 1) := by decide +kernel
theorem dX8_dragsOff_11 : decode cX8_dragsOff 11 = .ok (.if_icmp .ge 51, 3) := by decide +kernel
theorem dX8_dragsOff_14 : decode cX8_dragsOff 14 = .ok (.iload_n 1, 1) := by decide +kernel
theorem dX8_dragsOff_15 : decode cX8_dragsOff 15 = .ok (.iload_n 3, 1) := by decide +kernel
theorem dX8_dragsOff_16 : decode cX8_dragsOff 16 = .ok (.invokestatic 176, 3) := by decide +kernel
theorem dX8_dragsOff_19 : decode cX8_dragsOff 19 = .ok (.ifCond .eq 37, 3) := by decide +kernel
theorem dX8_dragsOff_22 : decode cX8_dragsOff 22 = .ok (.aload_n 0, 1) := by decide +kernel
theorem dX8_dragsOff_23 : decode cX8_dragsOff 23 = .ok (.getfield 7, 3) := by decide +kernel
theorem dX8_dragsOff_26 : decode cX8_dragsOff 26 = .ok (.bipush 62, 2) := by decide +kernel
theorem dX8_dragsOff_28 : decode cX8_dragsOff 28 = .ok (.iload_n 3, 1) := by decide +kernel
theorem dX8_dragsOff_29 : decode cX8_dragsOff 29 = .ok (.iadd, 1) := by decide +kernel
theorem dX8_dragsOff_30 : decode cX8_dragsOff 30 = .ok (.iaload, 1) := by decide +kernel
theorem dX8_dragsOff_31 : decode cX8_dragsOff 31 = .ok (.aload_n 0, 1) := by decide +kernel
theorem dX8_dragsOff_32 : decode cX8_dragsOff 32 = .ok (.getfield 7, 3) := by decide +kernel
theorem dX8_dragsOff_35 : decode cX8_dragsOff 35 = .ok (.iconst 2, 1) := by decide +kernel
theorem dX8_dragsOff_36 : decode cX8_dragsOff 36 = .ok (.iaload, 1) := by decide +kernel
theorem dX8_dragsOff_37 : decode cX8_dragsOff 37 = .ok (.if_icmp .lt 19, 3) := by decide +kernel
theorem dX8_dragsOff_40 : decode cX8_dragsOff 40 = .ok (.aload_n 0, 1) := by decide +kernel
theorem dX8_dragsOff_41 : decode cX8_dragsOff 41 = .ok (.getfield 7, 3) := by decide +kernel
theorem dX8_dragsOff_44 : decode cX8_dragsOff 44 = .ok (.bipush 52, 2) := by decide +kernel
theorem dX8_dragsOff_46 : decode cX8_dragsOff 46 = .ok (.iload_n 3, 1) := by decide +kernel
theorem dX8_dragsOff_47 : decode cX8_dragsOff 47 = .ok (.iadd, 1) := by decide +kernel
theorem dX8_dragsOff_48 : decode cX8_dragsOff 48 = .ok (.iconst 2, 1) := by decide +kernel
theorem dX8_dragsOff_49 : decode cX8_dragsOff 49 = .ok (.iastore, 1) := by decide +kernel
theorem dX8_dragsOff_50 : decode cX8_dragsOff 50 = .ok (.iload_n 2, 1) := by decide +kernel
theorem dX8_dragsOff_51 : decode cX8_dragsOff 51 = .ok (.iconst 1, 1) := by decide +kernel
theorem dX8_dragsOff_52 : decode cX8_dragsOff 52 = .ok (.iload_n 3, 1) := by decide +kernel
theorem dX8_dragsOff_53 : decode cX8_dragsOff 53 = .ok (.ishl, 1) := by decide +kernel
theorem dX8_dragsOff_54 : decode cX8_dragsOff 54 = .ok (.ior, 1) := by decide +kernel
theorem dX8_dragsOff_55 : decode cX8_dragsOff 55 = .ok (.istore_n 2, 1) := by decide +kernel
theorem dX8_dragsOff_56 : decode cX8_dragsOff 56 = .ok (.iinc 3 1, 3) := by decide +kernel
theorem dX8_dragsOff_59 : decode cX8_dragsOff 59 = .ok (.goto (-55), 3) := by decide +kernel
theorem dX8_dragsOff_62 : decode cX8_dragsOff 62 = .ok (.iload_n 2, 1) := by decide +kernel
theorem dX8_dragsOff_63 : decode cX8_dragsOff 63 = .ok (.ireturn, 1) := by decide +kernel
theorem dX8_takesOut_0 : decode cX8_takesOut 0 = .ok (.aload_n 0, 1) := by decide +kernel
theorem dX8_takesOut_1 : decode cX8_takesOut 1 = .ok (.invokevirtual 203, 3) := by decide +kernel
theorem dX8_takesOut_4 : decode cX8_takesOut 4 = .ok (.istore_n 2, 1) := by decide +kernel
theorem dX8_takesOut_5 : decode cX8_takesOut 5 = .ok (.iload_n 2, 1) := by decide +kernel
theorem dX8_takesOut_6 : decode cX8_takesOut 6 = .ok (.aload_n 0, 1) := by decide +kernel
theorem dX8_takesOut_7 : decode cX8_takesOut 7 = .ok (.getfield 7, 3) := by decide +kernel
theorem dX8_takesOut_10 : decode cX8_takesOut 10 = .ok (.iconst 5, 1) := by decide +kernel
theorem dX8_takesOut_11 : decode cX8_takesOut 11 = .ok (.iaload, 1) := by decide +kernel
theorem dX8_takesOut_12 : decode cX8_takesOut 12 = .ok (.if_icmp .ge 142, 3) := by decide +kernel
theorem dX8_takesOut_15 : decode cX8_takesOut 15 = .ok (.iconst 0, 1) := by decide +kernel
theorem dX8_takesOut_16 : decode cX8_takesOut 16 = .ok (.istore_n 3, 1) := by decide +kernel
theorem dX8_takesOut_17 : decode cX8_takesOut 17 = .ok (.iconst 0, 1) := by decide +kernel
theorem dX8_takesOut_18 : decode cX8_takesOut 18 = .ok (.istore 4, 2) := by decide +kernel
theorem dX8_takesOut_20 : decode cX8_takesOut 20 = .ok (.iload 4, 2) := by decide +kernel
theorem dX8_takesOut_22 : decode cX8_takesOut 22 = .ok (.aload_n 0, 1) := by decide +kernel
theorem dX8_takesOut_23 : decode cX8_takesOut 23 = .ok (.getfield 7, 3) := by decide +kernel
theorem dX8_takesOut_26 : decode cX8_takesOut 26 = .ok (.iconst 0, 1) := by decide +kernel
theorem dX8_takesOut_27 : decode cX8_takesOut 27 = .ok (.iaload, 1) := by decide +kernel
theorem dX8_takesOut_28 : decode cX8_takesOut 28 = .ok (.if_icmp .ge 43, 3) := by decide +kernel
theorem dX8_takesOut_31 : decode cX8_takesOut 31 = .ok (.iload_n 3, 1) := by decide +kernel
theorem dX8_takesOut_32 : decode cX8_takesOut 32 = .ok (.iload_n 1, 1) := by decide +kernel
theorem dX8_takesOut_33 : decode cX8_takesOut 33 = .ok (.iload 4, 2) := by decide +kernel
theorem dX8_takesOut_35 : decode cX8_takesOut 35 = .ok (.invokestatic 176, 3) := by decide +kernel
theorem dX8_takesOut_38 : decode cX8_takesOut 38 = .ok (.ifCond .eq 24, 3) := by decide +kernel
theorem dX8_takesOut_41 : decode cX8_takesOut 41 = .ok (.iload_n 2, 1) := by decide +kernel
theorem dX8_takesOut_42 : decode cX8_takesOut 42 = .ok (.aload_n 0, 1) := by decide +kernel
theorem dX8_takesOut_43 : decode cX8_takesOut 43 = .ok (.getfield 7, 3) := by decide +kernel
theorem dX8_takesOut_46 : decode cX8_takesOut 46 = .ok (.bipush 82, 2) := by decide +kernel
theorem dX8_takesOut_48 : decode cX8_takesOut 48 = .ok (.iload 4, 2) := by decide +kernel
theorem dX8_takesOut_50 : decode cX8_takesOut 50 = .ok (.iadd, 1) := by decide +kernel
theorem dX8_takesOut_51 : decode cX8_takesOut 51 = .ok (.iaload, 1) := by decide +kernel
theorem dX8_takesOut_52 : decode cX8_takesOut 52 = .ok (.if_icmp .lt 10, 3) := by decide +kernel
theorem dX8_takesOut_55 : decode cX8_takesOut 55 = .ok (.iconst 1, 1) := by decide +kernel
theorem dX8_takesOut_56 : decode cX8_takesOut 56 = .ok (.iload 4, 2) := by decide +kernel
theorem dX8_takesOut_58 : decode cX8_takesOut 58 = .ok (.ishl, 1) := by decide +kernel
theorem dX8_takesOut_59 : decode cX8_takesOut 59 = .ok (.goto 4, 3) := by decide +kernel
theorem dX8_takesOut_62 : decode cX8_takesOut 62 = .ok (.iconst 0, 1) := by decide +kernel
theorem dX8_takesOut_63 : decode cX8_takesOut 63 = .ok (.ior, 1) := by decide +kernel
theorem dX8_takesOut_64 : decode cX8_takesOut 64 = .ok (.istore_n 3, 1) := by decide +kernel
theorem dX8_takesOut_65 : decode cX8_takesOut 65 = .ok (.iinc 4 1, 3) := by decide +kernel
theorem dX8_takesOut_68 : decode cX8_takesOut 68 = .ok (.goto (-48), 3) := by decide +kernel
theorem dX8_takesOut_71 : decode cX8_takesOut 71 = .ok (.iload_n 3, 1) := by decide +kernel
theorem dX8_takesOut_72 : decode cX8_takesOut 72 = .ok (.aload_n 0, 1) := by decide +kernel
theorem dX8_takesOut_73 : decode cX8_takesOut 73 = .ok (.iload_n 2, 1) := by decide +kernel
theorem dX8_takesOut_74 : decode cX8_takesOut 74 = .ok (.iconst 0, 1) := by decide +kernel
theorem dX8_takesOut_75 : decode cX8_takesOut 75 = .ok (.invokevirtual 209, 3) := by decide +kernel
theorem dX8_takesOut_78 : decode cX8_takesOut 78 = .ok (.iand, 1) := by decide +kernel
theorem dX8_takesOut_79 : decode cX8_takesOut 79 = .ok (.istore_n 3, 1) := by decide +kernel
theorem dX8_takesOut_80 : decode cX8_takesOut 80 = .ok (.iload_n 3, 1) := by decide +kernel
theorem dX8_takesOut_81 : decode cX8_takesOut 81 = .ok (.ifCond .ne 6, 3) := by decide +kernel
theorem dX8_takesOut_84 : decode cX8_takesOut 84 = .ok (.goto 64, 3) := by decide +kernel
theorem dX8_takesOut_87 : decode cX8_takesOut 87 = .ok (.aload_n 0, 1) := by decide +kernel
theorem dX8_takesOut_88 : decode cX8_takesOut 88 = .ok (.iload_n 2, 1) := by decide +kernel
theorem dX8_takesOut_89 : decode cX8_takesOut 89 = .ok (.iconst 0, 1) := by decide +kernel
theorem dX8_takesOut_90 : decode cX8_takesOut 90 = .ok (.aload_n 0, 1) := by decide +kernel
theorem dX8_takesOut_91 : decode cX8_takesOut 91 = .ok (.iload_n 2, 1) := by decide +kernel
theorem dX8_takesOut_92 : decode cX8_takesOut 92 = .ok (.iconst 0, 1) := by decide +kernel
theorem dX8_takesOut_93 : decode cX8_takesOut 93 = .ok (.invokevirtual 209, 3) := by decide +kernel
theorem dX8_takesOut_96 : decode cX8_takesOut 96 = .ok (.iload_n 3, 1) := by decide +kernel
theorem dX8_takesOut_97 : decode cX8_takesOut 97 = .ok (.iconst (-1), 1) := by decide +kernel
theorem dX8_takesOut_98 : decode cX8_takesOut 98 = .ok (.ixor, 1) := by decide +kernel
theorem dX8_takesOut_99 : decode cX8_takesOut 99 = .ok (.iand, 1) := by decide +kernel
theorem dX8_takesOut_100 : decode cX8_takesOut 100 = .ok (.invokevirtual 212, 3) := by decide +kernel
theorem dX8_takesOut_103 : decode cX8_takesOut 103 = .ok (.aload_n 0, 1) := by decide +kernel
theorem dX8_takesOut_104 : decode cX8_takesOut 104 = .ok (.iload_n 2, 1) := by decide +kernel
theorem dX8_takesOut_105 : decode cX8_takesOut 105 = .ok (.iconst 4, 1) := by decide +kernel
theorem dX8_takesOut_106 : decode cX8_takesOut 106 = .ok (.aload_n 0, 1) := by decide +kernel
theorem dX8_takesOut_107 : decode cX8_takesOut 107 = .ok (.iload_n 2, 1) := by decide +kernel
theorem dX8_takesOut_108 : decode cX8_takesOut 108 = .ok (.iconst 4, 1) := by decide +kernel
theorem dX8_takesOut_109 : decode cX8_takesOut 109 = .ok (.invokevirtual 209, 3) := by decide +kernel
theorem dX8_takesOut_112 : decode cX8_takesOut 112 = .ok (.iload_n 3, 1) := by decide +kernel
theorem dX8_takesOut_113 : decode cX8_takesOut 113 = .ok (.ior, 1) := by decide +kernel
theorem dX8_takesOut_114 : decode cX8_takesOut 114 = .ok (.invokevirtual 212, 3) := by decide +kernel
theorem dX8_takesOut_117 : decode cX8_takesOut 117 = .ok (.aload_n 0, 1) := by decide +kernel
theorem dX8_takesOut_118 : decode cX8_takesOut 118 = .ok (.iload_n 2, 1) := by decide +kernel
theorem dX8_takesOut_119 : decode cX8_takesOut 119 = .ok (.invokevirtual 216, 3) := by decide +kernel
theorem dX8_takesOut_122 : decode cX8_takesOut 122 = .ok (.aload_n 0, 1) := by decide +kernel
theorem dX8_takesOut_123 : decode cX8_takesOut 123 = .ok (.aload_n 0, 1) := by decide +kernel
theorem dX8_takesOut_124 : decode cX8_takesOut 124 = .ok (.iload_n 2, 1) := by decide +kernel
theorem dX8_takesOut_125 : decode cX8_takesOut 125 = .ok (.iconst 0, 1) := by decide +kernel
theorem dX8_takesOut_126 : decode cX8_takesOut 126 = .ok (.invokevirtual 209, 3) := by decide +kernel
theorem dX8_takesOut_129 : decode cX8_takesOut 129 = .ok (.invokevirtual 219, 3) := by decide +kernel
theorem dX8_takesOut_132 : decode cX8_takesOut 132 = .ok (.aload_n 0, 1) := by decide +kernel
theorem dX8_takesOut_133 : decode cX8_takesOut 133 = .ok (.iload_n 2, 1) := by decide +kernel
theorem dX8_takesOut_134 : decode cX8_takesOut 134 = .ok (.invokevirtual 222, 3) := by decide +kernel
theorem dX8_takesOut_137 : decode cX8_takesOut 137 = .ok (.aload_n 0, 1) := by decide +kernel
theorem dX8_takesOut_138 : decode cX8_takesOut 138 = .ok (.getfield 7, 3) := by decide +kernel
theorem dX8_takesOut_141 : decode cX8_takesOut 141 = .ok (.bipush 8, 2) := by decide +kernel
theorem dX8_takesOut_143 : decode cX8_takesOut 143 = .ok (.dup2, 1) := by decide +kernel
theorem dX8_takesOut_144 : decode cX8_takesOut 144 = .ok (.iaload, 1) := by decide +kernel
theorem dX8_takesOut_145 : decode cX8_takesOut 145 = .ok (.iconst 1, 1) := by decide +kernel
theorem dX8_takesOut_146 : decode cX8_takesOut 146 = .ok (.iadd, 1) := by decide +kernel
theorem dX8_takesOut_147 : decode cX8_takesOut 147 = .ok (.iastore, 1) := by decide +kernel
theorem dX8_takesOut_148 : decode cX8_takesOut 148 = .ok (.iinc 2 1, 3) := by decide +kernel
theorem dX8_takesOut_151 : decode cX8_takesOut 151 = .ok (.goto (-146), 3) := by decide +kernel
theorem dX8_takesOut_154 : decode cX8_takesOut 154 = .ok (.return_, 1) := by decide +kernel
theorem dX8_ends_0 : decode cX8_ends 0 = .ok (.aload_n 0, 1) := by decide +kernel
theorem dX8_ends_1 : decode cX8_ends 1 = .ok (.iconst (-1), 1) := by decide +kernel
theorem dX8_ends_2 : decode cX8_ends 2 = .ok (.invokevirtual 225, 3) := by decide +kernel
theorem dX8_ends_5 : decode cX8_ends 5 = .ok (.istore_n 1, 1) := by decide +kernel
theorem dX8_ends_6 : decode cX8_ends 6 = .ok (.aload_n 0, 1) := by decide +kernel
theorem dX8_ends_7 : decode cX8_ends 7 = .ok (.iconst 1, 1) := by decide +kernel
theorem dX8_ends_8 : decode cX8_ends 8 = .ok (.invokevirtual 225, 3) := by decide +kernel
theorem dX8_ends_11 : decode cX8_ends 11 = .ok (.istore_n 2, 1) := by decide +kernel
theorem dX8_ends_12 : decode cX8_ends 12 = .ok (.aload_n 0, 1) := by decide +kernel
theorem dX8_ends_13 : decode cX8_ends 13 = .ok (.iconst 0, 1) := by decide +kernel
theorem dX8_ends_14 : decode cX8_ends 14 = .ok (.invokevirtual 225, 3) := by decide +kernel
theorem dX8_ends_17 : decode cX8_ends 17 = .ok (.istore_n 3, 1) := by decide +kernel
theorem dX8_ends_18 : decode cX8_ends 18 = .ok (.aload_n 0, 1) := by decide +kernel
theorem dX8_ends_19 : decode cX8_ends 19 = .ok (.iload_n 3, 1) := by decide +kernel
theorem dX8_ends_20 : decode cX8_ends 20 = .ok (.invokevirtual 219, 3) := by decide +kernel
theorem dX8_ends_23 : decode cX8_ends 23 = .ok (.iconst 0, 1) := by decide +kernel
theorem dX8_ends_24 : decode cX8_ends 24 = .ok (.istore 4, 2) := by decide +kernel
theorem dX8_ends_26 : decode cX8_ends 26 = .ok (.aload_n 0, 1) := by decide +kernel
theorem dX8_ends_27 : decode cX8_ends 27 = .ok (.getfield 185, 3) := by decide +kernel
theorem dX8_ends_30 : decode cX8_ends 30 = .ok (.ifCond .eq 20, 3) := by decide +kernel
theorem dX8_ends_33 : decode cX8_ends 33 = .ok (.aload_n 0, 1) := by decide +kernel
theorem dX8_ends_34 : decode cX8_ends 34 = .ok (.iload_n 3, 1) := by decide +kernel
theorem dX8_ends_35 : decode cX8_ends 35 = .ok (.invokevirtual 228, 3) := by decide +kernel
theorem dX8_ends_38 : decode cX8_ends 38 = .ok (.aload_n 0, 1) := by decide +kernel
theorem dX8_ends_39 : decode cX8_ends 39 = .ok (.iload_n 2, 1) := by decide +kernel
theorem dX8_ends_40 : decode cX8_ends 40 = .ok (.invokevirtual 231, 3) := by decide +kernel
theorem dX8_ends_43 : decode cX8_ends 43 = .ok (.aload_n 0, 1) := by decide +kernel
theorem dX8_ends_44 : decode cX8_ends 44 = .ok (.iload_n 3, 1) := by decide +kernel
theorem dX8_ends_45 : decode cX8_ends 45 = .ok (.invokevirtual 234, 3) := by decide +kernel
theorem dX8_ends_48 : decode cX8_ends 48 = .ok (.istore 4, 2) := by decide +kernel
theorem dX8_ends_50 : decode cX8_ends 50 = .ok (.aload_n 0, 1) := by decide +kernel
theorem dX8_ends_51 : decode cX8_ends 51 = .ok (.invokevirtual 237, 3) := by decide +kernel
theorem dX8_ends_54 : decode cX8_ends 54 = .ok (.istore 5, 2) := by decide +kernel
theorem dX8_ends_56 : decode cX8_ends 56 = .ok (.aload_n 0, 1) := by decide +kernel
theorem dX8_ends_57 : decode cX8_ends 57 = .ok (.getfield 7, 3) := by decide +kernel
theorem dX8_ends_60 : decode cX8_ends 60 = .ok (.iconst 5, 1) := by decide +kernel
theorem dX8_ends_61 : decode cX8_ends 61 = .ok (.dup2, 1) := by decide +kernel
theorem dX8_ends_62 : decode cX8_ends 62 = .ok (.iaload, 1) := by decide +kernel
theorem dX8_ends_63 : decode cX8_ends 63 = .ok (.iconst 1, 1) := by decide +kernel
theorem dX8_ends_64 : decode cX8_ends 64 = .ok (.iadd, 1) := by decide +kernel
theorem dX8_ends_65 : decode cX8_ends 65 = .ok (.iastore, 1) := by decide +kernel
theorem dX8_ends_66 : decode cX8_ends 66 = .ok (.aload_n 0, 1) := by decide +kernel
theorem dX8_ends_67 : decode cX8_ends 67 = .ok (.getfield 7, 3) := by decide +kernel
theorem dX8_ends_70 : decode cX8_ends 70 = .ok (.iload 5, 2) := by decide +kernel
theorem dX8_ends_72 : decode cX8_ends 72 = .ok (.iconst 0, 1) := by decide +kernel
theorem dX8_ends_73 : decode cX8_ends 73 = .ok (.iadd, 1) := by decide +kernel
theorem dX8_ends_74 : decode cX8_ends 74 = .ok (.iload_n 3, 1) := by decide +kernel
theorem dX8_ends_75 : decode cX8_ends 75 = .ok (.iastore, 1) := by decide +kernel
theorem dX8_ends_76 : decode cX8_ends 76 = .ok (.aload_n 0, 1) := by decide +kernel
theorem dX8_ends_77 : decode cX8_ends 77 = .ok (.getfield 7, 3) := by decide +kernel
theorem dX8_ends_80 : decode cX8_ends 80 = .ok (.iload 5, 2) := by decide +kernel
theorem dX8_ends_82 : decode cX8_ends 82 = .ok (.iconst 3, 1) := by decide +kernel
theorem dX8_ends_83 : decode cX8_ends 83 = .ok (.iadd, 1) := by decide +kernel
theorem dX8_ends_84 : decode cX8_ends 84 = .ok (.iload_n 1, 1) := by decide +kernel
theorem dX8_ends_85 : decode cX8_ends 85 = .ok (.iastore, 1) := by decide +kernel
theorem dX8_ends_86 : decode cX8_ends 86 = .ok (.aload_n 0, 1) := by decide +kernel
theorem dX8_ends_87 : decode cX8_ends 87 = .ok (.getfield 7, 3) := by decide +kernel
theorem dX8_ends_90 : decode cX8_ends 90 = .ok (.iload 5, 2) := by decide +kernel
theorem dX8_ends_92 : decode cX8_ends 92 = .ok (.bipush 6, 2) := by decide +kernel
theorem dX8_ends_94 : decode cX8_ends 94 = .ok (.iadd, 1) := by decide +kernel
theorem dX8_ends_95 : decode cX8_ends 95 = .ok (.iload_n 2, 1) := by decide +kernel
theorem dX8_ends_96 : decode cX8_ends 96 = .ok (.iastore, 1) := by decide +kernel
theorem dX8_ends_97 : decode cX8_ends 97 = .ok (.iconst 0, 1) := by decide +kernel
theorem dX8_ends_98 : decode cX8_ends 98 = .ok (.istore 6, 2) := by decide +kernel
theorem dX8_ends_100 : decode cX8_ends 100 = .ok (.iload 6, 2) := by decide +kernel
theorem dX8_ends_102 : decode cX8_ends 102 = .ok (.bipush 10, 2) := by decide +kernel
theorem dX8_ends_104 : decode cX8_ends 104 = .ok (.if_icmp .ge 44, 3) := by decide +kernel
theorem dX8_ends_107 : decode cX8_ends 107 = .ok (.aload_n 0, 1) := by decide +kernel
theorem dX8_ends_108 : decode cX8_ends 108 = .ok (.getfield 7, 3) := by decide +kernel
theorem dX8_ends_111 : decode cX8_ends 111 = .ok (.iload 5, 2) := by decide +kernel
theorem dX8_ends_113 : decode cX8_ends 113 = .ok (.bipush 8, 2) := by decide +kernel
theorem dX8_ends_115 : decode cX8_ends 115 = .ok (.iadd, 1) := by decide +kernel
theorem dX8_ends_116 : decode cX8_ends 116 = .ok (.iload 6, 2) := by decide +kernel
theorem dX8_ends_118 : decode cX8_ends 118 = .ok (.iadd, 1) := by decide +kernel
theorem dX8_ends_119 : decode cX8_ends 119 = .ok (.iload 6, 2) := by decide +kernel
theorem dX8_ends_121 : decode cX8_ends 121 = .ok (.aload_n 0, 1) := by decide +kernel
theorem dX8_ends_122 : decode cX8_ends 122 = .ok (.getfield 7, 3) := by decide +kernel
theorem dX8_ends_125 : decode cX8_ends 125 = .ok (.iconst 0, 1) := by decide +kernel
theorem dX8_ends_126 : decode cX8_ends 126 = .ok (.iaload, 1) := by decide +kernel
theorem dX8_ends_127 : decode cX8_ends 127 = .ok (.if_icmp .ge 13, 3) := by decide +kernel
theorem dX8_ends_130 : decode cX8_ends 130 = .ok (.aload_n 0, 1) := by decide +kernel
theorem dX8_ends_131 : decode cX8_ends 131 = .ok (.getfield 40, 3) := by decide +kernel
theorem dX8_ends_134 : decode cX8_ends 134 = .ok (.iload 6, 2) := by decide +kernel
theorem dX8_ends_136 : decode cX8_ends 136 = .ok (.iaload, 1) := by decide +kernel
theorem dX8_ends_137 : decode cX8_ends 137 = .ok (.goto 4, 3) := by decide +kernel
theorem dX8_ends_140 : decode cX8_ends 140 = .ok (.iconst 0, 1) := by decide +kernel
theorem dX8_ends_141 : decode cX8_ends 141 = .ok (.iastore, 1) := by decide +kernel
theorem dX8_ends_142 : decode cX8_ends 142 = .ok (.iinc 6 1, 3) := by decide +kernel
theorem dX8_ends_145 : decode cX8_ends 145 = .ok (.goto (-45), 3) := by decide +kernel
theorem dX8_ends_148 : decode cX8_ends 148 = .ok (.aload_n 0, 1) := by decide +kernel
theorem dX8_ends_149 : decode cX8_ends 149 = .ok (.aload_n 0, 1) := by decide +kernel
theorem dX8_ends_150 : decode cX8_ends 150 = .ok (.getfield 7, 3) := by decide +kernel
theorem dX8_ends_153 : decode cX8_ends 153 = .ok (.iconst 5, 1) := by decide +kernel
theorem dX8_ends_154 : decode cX8_ends 154 = .ok (.iaload, 1) := by decide +kernel
theorem dX8_ends_155 : decode cX8_ends 155 = .ok (.iconst 1, 1) := by decide +kernel
theorem dX8_ends_156 : decode cX8_ends 156 = .ok (.isub, 1) := by decide +kernel
theorem dX8_ends_157 : decode cX8_ends 157 = .ok (.invokevirtual 222, 3) := by decide +kernel
theorem dX8_ends_160 : decode cX8_ends 160 = .ok (.aload_n 0, 1) := by decide +kernel
theorem dX8_ends_161 : decode cX8_ends 161 = .ok (.iload 4, 2) := by decide +kernel
theorem dX8_ends_163 : decode cX8_ends 163 = .ok (.invokevirtual 240, 3) := by decide +kernel
theorem dX8_ends_166 : decode cX8_ends 166 = .ok (.iconst 0, 1) := by decide +kernel
theorem dX8_ends_167 : decode cX8_ends 167 = .ok (.istore 6, 2) := by decide +kernel
theorem dX8_ends_169 : decode cX8_ends 169 = .ok (.iload 6, 2) := by decide +kernel
theorem dX8_ends_171 : decode cX8_ends 171 = .ok (.bipush 10, 2) := by decide +kernel
theorem dX8_ends_173 : decode cX8_ends 173 = .ok (.if_icmp .ge 31, 3) := by decide +kernel
theorem dX8_ends_176 : decode cX8_ends 176 = .ok (.aload_n 0, 1) := by decide +kernel
theorem dX8_ends_177 : decode cX8_ends 177 = .ok (.getfield 7, 3) := by decide +kernel
theorem dX8_ends_180 : decode cX8_ends 180 = .ok (.bipush 92, 2) := by decide +kernel
theorem dX8_ends_182 : decode cX8_ends 182 = .ok (.iload 6, 2) := by decide +kernel
theorem dX8_ends_184 : decode cX8_ends 184 = .ok (.iadd, 1) := by decide +kernel
theorem dX8_ends_185 : decode cX8_ends 185 = .ok (.iconst 0, 1) := by decide +kernel
theorem dX8_ends_186 : decode cX8_ends 186 = .ok (.iastore, 1) := by decide +kernel
theorem dX8_ends_187 : decode cX8_ends 187 = .ok (.aload_n 0, 1) := by decide +kernel
theorem dX8_ends_188 : decode cX8_ends 188 = .ok (.getfield 7, 3) := by decide +kernel
theorem dX8_ends_191 : decode cX8_ends 191 = .ok (.bipush 102, 2) := by decide +kernel
theorem dX8_ends_193 : decode cX8_ends 193 = .ok (.iload 6, 2) := by decide +kernel
theorem dX8_ends_195 : decode cX8_ends 195 = .ok (.iadd, 1) := by decide +kernel
theorem dX8_ends_196 : decode cX8_ends 196 = .ok (.iconst 0, 1) := by decide +kernel
theorem dX8_ends_197 : decode cX8_ends 197 = .ok (.iastore, 1) := by decide +kernel
theorem dX8_ends_198 : decode cX8_ends 198 = .ok (.iinc 6 1, 3) := by decide +kernel
theorem dX8_ends_201 : decode cX8_ends 201 = .ok (.goto (-32), 3) := by decide +kernel
theorem dX8_ends_204 : decode cX8_ends 204 = .ok (.iload 4, 2) := by decide +kernel
theorem dX8_ends_206 : decode cX8_ends 206 = .ok (.invokestatic 243, 3) := by decide +kernel
theorem dX8_ends_209 : decode cX8_ends 209 = .ok (.ireturn, 1) := by decide +kernel
theorem dX8_inState_0 : decode cX8_inState 0 = .ok (.iconst 0, 1) := by decide +kernel
theorem dX8_inState_1 : decode cX8_inState 1 = .ok (.istore_n 2, 1) := by decide +kernel
theorem dX8_inState_2 : decode cX8_inState 2 = .ok (.iconst 0, 1) := by decide +kernel
theorem dX8_inState_3 : decode cX8_inState 3 = .ok (.istore_n 3, 1) := by decide +kernel
theorem dX8_inState_4 : decode cX8_inState 4 = .ok (.iload_n 3, 1) := by decide +kernel
theorem dX8_inState_5 : decode cX8_inState 5 = .ok (.aload_n 0, 1) := by decide +kernel
theorem dX8_inState_6 : decode cX8_inState 6 = .ok (.getfield 7, 3) := by decide +kernel
theorem dX8_inState_9 : decode cX8_inState 9 = .ok (.iconst 0, 1) := by decide +kernel
theorem dX8_inState_10 : decode cX8_inState 10 = .ok (.iaload, 1) := by decide +kernel
theorem dX8_inState_11 : decode cX8_inState 11 = .ok (.if_icmp .ge 30, 3) := by decide +kernel
theorem dX8_inState_14 : decode cX8_inState 14 = .ok (.iload_n 2, 1) := by decide +kernel
theorem dX8_inState_15 : decode cX8_inState 15 = .ok (.aload_n 0, 1) := by decide +kernel
theorem dX8_inState_16 : decode cX8_inState 16 = .ok (.getfield 7, 3) := by decide +kernel
theorem dX8_inState_19 : decode cX8_inState 19 = .ok (.bipush 52, 2) := by decide +kernel
theorem dX8_inState_21 : decode cX8_inState 21 = .ok (.iload_n 3, 1) := by decide +kernel
theorem dX8_inState_22 : decode cX8_inState 22 = .ok (.iadd, 1) := by decide +kernel
theorem dX8_inState_23 : decode cX8_inState 23 = .ok (.iaload, 1) := by decide +kernel
theorem dX8_inState_24 : decode cX8_inState 24 = .ok (.iload_n 1, 1) := by decide +kernel
theorem dX8_inState_25 : decode cX8_inState 25 = .ok (.if_icmp .ne 7, 3) := by decide +kernel
theorem dX8_inState_28 : decode cX8_inState 28 = .ok (.iconst 1, 1) := by decide +kernel
theorem dX8_inState_29 : decode cX8_inState 29 = .ok (.goto 4, 3) := by decide +kernel
theorem dX8_inState_32 : decode cX8_inState 32 = .ok (.iconst 0, 1) := by decide +kernel
theorem dX8_inState_33 : decode cX8_inState 33 = .ok (.iadd, 1) := by decide +kernel
theorem dX8_inState_34 : decode cX8_inState 34 = .ok (.istore_n 2, 1) := by decide +kernel
theorem dX8_inState_35 : decode cX8_inState 35 = .ok (.iinc 3 1, 3) := by decide +kernel
theorem dX8_inState_38 : decode cX8_inState 38 = .ok (.goto (-34), 3) := by decide +kernel
theorem dX8_inState_41 : decode cX8_inState 41 = .ok (.iload_n 2, 1) := by decide +kernel
theorem dX8_inState_42 : decode cX8_inState 42 = .ok (.ireturn, 1) := by decide +kernel
theorem dX8_brokenSet_0 : decode cX8_brokenSet 0 = .ok (.iconst 0, 1) := by decide +kernel
theorem dX8_brokenSet_1 : decode cX8_brokenSet 1 = .ok (.istore_n 1, 1) := by decide +kernel
theorem dX8_brokenSet_2 : decode cX8_brokenSet 2 = .ok (.iconst 0, 1) := by decide +kernel
theorem dX8_brokenSet_3 : decode cX8_brokenSet 3 = .ok (.istore_n 2, 1) := by decide +kernel
theorem dX8_brokenSet_4 : decode cX8_brokenSet 4 = .ok (.iload_n 2, 1) := by decide +kernel
theorem dX8_brokenSet_5 : decode cX8_brokenSet 5 = .ok (.iconst 1, 1) := by decide +kernel
theorem dX8_brokenSet_6 : decode cX8_brokenSet 6 = .ok (.iadd, 1) := by decide +kernel
theorem dX8_brokenSet_7 : decode cX8_brokenSet 7 = .ok (.aload_n 0, 1) := by decide +kernel
theorem dX8_brokenSet_8 : decode cX8_brokenSet 8 = .ok (.getfield 7, 3) := by decide +kernel
theorem dX8_brokenSet_11 : decode cX8_brokenSet 11 = .ok (.iconst 0, 1) := by decide +kernel
theorem dX8_brokenSet_12 : decode cX8_brokenSet 12 = .ok (.iaload, 1) := by decide +kernel
theorem dX8_brokenSet_13 : decode cX8_brokenSet 13 = .ok (.if_icmp .ge 33, 3) := by decide +kernel
theorem dX8_brokenSet_16 : decode cX8_brokenSet 16 = .ok (.iload_n 1, 1) := by decide +kernel
theorem dX8_brokenSet_17 : decode cX8_brokenSet 17 = .ok (.aload_n 0, 1) := by decide +kernel
theorem dX8_brokenSet_18 : decode cX8_brokenSet 18 = .ok (.getfield 7, 3) := by decide +kernel
theorem dX8_brokenSet_21 : decode cX8_brokenSet 21 = .ok (.sipush 132, 3) := by decide +kernel
theorem dX8_brokenSet_24 : decode cX8_brokenSet 24 = .ok (.iload_n 2, 1) := by decide +kernel
theorem dX8_brokenSet_25 : decode cX8_brokenSet 25 = .ok (.iadd, 1) := by decide +kernel
theorem dX8_brokenSet_26 : decode cX8_brokenSet 26 = .ok (.iaload, 1) := by decide +kernel
theorem dX8_brokenSet_27 : decode cX8_brokenSet 27 = .ok (.iconst 1, 1) := by decide +kernel
theorem dX8_brokenSet_28 : decode cX8_brokenSet 28 = .ok (.if_icmp .ne 9, 3) := by decide +kernel
theorem dX8_brokenSet_31 : decode cX8_brokenSet 31 = .ok (.iconst 1, 1) := by decide +kernel
theorem dX8_brokenSet_32 : decode cX8_brokenSet 32 = .ok (.iload_n 2, 1) := by decide +kernel
theorem dX8_brokenSet_33 : decode cX8_brokenSet 33 = .ok (.ishl, 1) := by decide +kernel
theorem dX8_brokenSet_34 : decode cX8_brokenSet 34 = .ok (.goto 4, 3) := by decide +kernel
theorem dX8_brokenSet_37 : decode cX8_brokenSet 37 = .ok (.iconst 0, 1) := by decide +kernel
theorem dX8_brokenSet_38 : decode cX8_brokenSet 38 = .ok (.ior, 1) := by decide +kernel
theorem dX8_brokenSet_39 : decode cX8_brokenSet 39 = .ok (.istore_n 1, 1) := by decide +kernel
theorem dX8_brokenSet_40 : decode cX8_brokenSet 40 = .ok (.iinc 2 1, 3) := by decide +kernel
theorem dX8_brokenSet_43 : decode cX8_brokenSet 43 = .ok (.goto (-39), 3) := by decide +kernel
theorem dX8_brokenSet_46 : decode cX8_brokenSet 46 = .ok (.iload_n 1, 1) := by decide +kernel
theorem dX8_brokenSet_47 : decode cX8_brokenSet 47 = .ok (.ireturn, 1) := by decide +kernel
theorem dX8_levelled_0 : decode cX8_levelled 0 = .ok (.iconst 0, 1) := by decide +kernel
theorem dX8_levelled_1 : decode cX8_levelled 1 = .ok (.istore_n 1, 1) := by decide +kernel
theorem dX8_levelled_2 : decode cX8_levelled 2 = .ok (.aload_n 0, 1) := by decide +kernel
theorem dX8_levelled_3 : decode cX8_levelled 3 = .ok (.invokevirtual 203, 3) := by decide +kernel
theorem dX8_levelled_6 : decode cX8_levelled 6 = .ok (.istore_n 2, 1) := by decide +kernel
theorem dX8_levelled_7 : decode cX8_levelled 7 = .ok (.iload_n 2, 1) := by decide +kernel
theorem dX8_levelled_8 : decode cX8_levelled 8 = .ok (.aload_n 0, 1) := by decide +kernel
theorem dX8_levelled_9 : decode cX8_levelled 9 = .ok (.getfield 7, 3) := by decide +kernel
theorem dX8_levelled_12 : decode cX8_levelled 12 = .ok (.iconst 5, 1) := by decide +kernel
theorem dX8_levelled_13 : decode cX8_levelled 13 = .ok (.iaload, 1) := by decide +kernel
theorem dX8_levelled_14 : decode cX8_levelled 14 = .ok (.if_icmp .ge 18, 3) := by decide +kernel
theorem dX8_levelled_17 : decode cX8_levelled 17 = .ok (.iload_n 1, 1) := by decide +kernel
theorem dX8_levelled_18 : decode cX8_levelled 18 = .ok (.aload_n 0, 1) := by decide +kernel
theorem dX8_levelled_19 : decode cX8_levelled 19 = .ok (.iload_n 2, 1) := by decide +kernel
theorem dX8_levelled_20 : decode cX8_levelled 20 = .ok (.iconst 2, 1) := by decide +kernel
theorem dX8_levelled_21 : decode cX8_levelled 21 = .ok (.invokevirtual 209, 3) := by decide +kernel
theorem dX8_levelled_24 : decode cX8_levelled 24 = .ok (.iadd, 1) := by decide +kernel
theorem dX8_levelled_25 : decode cX8_levelled 25 = .ok (.istore_n 1, 1) := by decide +kernel
theorem dX8_levelled_26 : decode cX8_levelled 26 = .ok (.iinc 2 1, 3) := by decide +kernel
theorem dX8_levelled_29 : decode cX8_levelled 29 = .ok (.goto (-22), 3) := by decide +kernel
theorem dX8_levelled_32 : decode cX8_levelled 32 = .ok (.iload_n 1, 1) := by decide +kernel
theorem dX8_levelled_33 : decode cX8_levelled 33 = .ok (.ireturn, 1) := by decide +kernel
theorem dX8_size_0 : decode cX8_size 0 = .ok (.aload_n 0, 1) := by decide +kernel
theorem dX8_size_1 : decode cX8_size 1 = .ok (.iconst 0, 1) := by decide +kernel
theorem dX8_size_2 : decode cX8_size 2 = .ok (.putfield 57, 3) := by decide +kernel
theorem dX8_size_5 : decode cX8_size 5 = .ok (.aload_n 0, 1) := by decide +kernel
theorem dX8_size_6 : decode cX8_size 6 = .ok (.iload_n 1, 1) := by decide +kernel
theorem dX8_size_7 : decode cX8_size 7 = .ok (.iconst 0, 1) := by decide +kernel
theorem dX8_size_8 : decode cX8_size 8 = .ok (.bipush 16, 2) := by decide +kernel
theorem dX8_size_10 : decode cX8_size 10 = .ok (.invokestatic 60, 3) := by decide +kernel
theorem dX8_size_13 : decode cX8_size 13 = .ok (.ifCond .ne 7, 3) := by decide +kernel
theorem dX8_size_16 : decode cX8_size 16 = .ok (.iconst 1, 1) := by decide +kernel
theorem dX8_size_17 : decode cX8_size 17 = .ok (.goto 4, 3) := by decide +kernel
theorem dX8_size_20 : decode cX8_size 20 = .ok (.iconst 0, 1) := by decide +kernel
theorem dX8_size_21 : decode cX8_size 21 = .ok (.iconst 1, 1) := by decide +kernel
theorem dX8_size_22 : decode cX8_size 22 = .ok (.invokevirtual 64, 3) := by decide +kernel
theorem dX8_size_25 : decode cX8_size 25 = .ok (.ifCond .eq 5, 3) := by decide +kernel
theorem dX8_size_28 : decode cX8_size 28 = .ok (.iconst 0, 1) := by decide +kernel
theorem dX8_size_29 : decode cX8_size 29 = .ok (.ireturn, 1) := by decide +kernel
theorem dX8_size_30 : decode cX8_size 30 = .ok (.iload_n 1, 1) := by decide +kernel
theorem dX8_size_31 : decode cX8_size 31 = .ok (.tableswitch 187 0 15 #[77, 84, 91, 99, 105, 111, 117, 125, 132, 139, 146, 153, 161, 166, 171, 179], 77) := by decide +kernel
theorem dX8_size_108 : decode cX8_size 108 = .ok (.aload_n 0, 1) := by decide +kernel
theorem dX8_size_109 : decode cX8_size 109 = .ok (.getfield 7, 3) := by decide +kernel
theorem dX8_size_112 : decode cX8_size 112 = .ok (.iconst 0, 1) := by decide +kernel
theorem dX8_size_113 : decode cX8_size 113 = .ok (.iaload, 1) := by decide +kernel
theorem dX8_size_114 : decode cX8_size 114 = .ok (.ireturn, 1) := by decide +kernel
theorem dX8_size_115 : decode cX8_size 115 = .ok (.aload_n 0, 1) := by decide +kernel
theorem dX8_size_116 : decode cX8_size 116 = .ok (.getfield 7, 3) := by decide +kernel
theorem dX8_size_119 : decode cX8_size 119 = .ok (.iconst 5, 1) := by decide +kernel
theorem dX8_size_120 : decode cX8_size 120 = .ok (.iaload, 1) := by decide +kernel
theorem dX8_size_121 : decode cX8_size 121 = .ok (.ireturn, 1) := by decide +kernel
theorem dX8_size_122 : decode cX8_size 122 = .ok (.aload_n 0, 1) := by decide +kernel
theorem dX8_size_123 : decode cX8_size 123 = .ok (.getfield 7, 3) := by decide +kernel
theorem dX8_size_126 : decode cX8_size 126 = .ok (.bipush 6, 2) := by decide +kernel
theorem dX8_size_128 : decode cX8_size 128 = .ok (.iaload, 1) := by decide +kernel
theorem dX8_size_129 : decode cX8_size 129 = .ok (.ireturn, 1) := by decide +kernel
theorem dX8_size_130 : decode cX8_size 130 = .ok (.aload_n 0, 1) := by decide +kernel
theorem dX8_size_131 : decode cX8_size 131 = .ok (.iconst 0, 1) := by decide +kernel
theorem dX8_size_132 : decode cX8_size 132 = .ok (.invokevirtual 246, 3) := by decide +kernel
theorem dX8_size_135 : decode cX8_size 135 = .ok (.ireturn, 1) := by decide +kernel
theorem dX8_size_136 : decode cX8_size 136 = .ok (.aload_n 0, 1) := by decide +kernel
theorem dX8_size_137 : decode cX8_size 137 = .ok (.iconst 1, 1) := by decide +kernel
theorem dX8_size_138 : decode cX8_size 138 = .ok (.invokevirtual 246, 3) := by decide +kernel
theorem dX8_size_141 : decode cX8_size 141 = .ok (.ireturn, 1) := by decide +kernel
theorem dX8_size_142 : decode cX8_size 142 = .ok (.aload_n 0, 1) := by decide +kernel
theorem dX8_size_143 : decode cX8_size 143 = .ok (.iconst 2, 1) := by decide +kernel
theorem dX8_size_144 : decode cX8_size 144 = .ok (.invokevirtual 246, 3) := by decide +kernel
theorem dX8_size_147 : decode cX8_size 147 = .ok (.ireturn, 1) := by decide +kernel
theorem dX8_size_148 : decode cX8_size 148 = .ok (.aload_n 0, 1) := by decide +kernel
theorem dX8_size_149 : decode cX8_size 149 = .ok (.invokevirtual 249, 3) := by decide +kernel
theorem dX8_size_152 : decode cX8_size 152 = .ok (.invokestatic 243, 3) := by decide +kernel
theorem dX8_size_155 : decode cX8_size 155 = .ok (.ireturn, 1) := by decide +kernel
theorem dX8_size_156 : decode cX8_size 156 = .ok (.aload_n 0, 1) := by decide +kernel
theorem dX8_size_157 : decode cX8_size 157 = .ok (.getfield 7, 3) := by decide +kernel
theorem dX8_size_160 : decode cX8_size 160 = .ok (.iconst 4, 1) := by decide +kernel
theorem dX8_size_161 : decode cX8_size 161 = .ok (.iaload, 1) := by decide +kernel
theorem dX8_size_162 : decode cX8_size 162 = .ok (.ireturn, 1) := by decide +kernel
theorem dX8_size_163 : decode cX8_size 163 = .ok (.aload_n 0, 1) := by decide +kernel
theorem dX8_size_164 : decode cX8_size 164 = .ok (.getfield 7, 3) := by decide +kernel
theorem dX8_size_167 : decode cX8_size 167 = .ok (.iconst 1, 1) := by decide +kernel
theorem dX8_size_168 : decode cX8_size 168 = .ok (.iaload, 1) := by decide +kernel
theorem dX8_size_169 : decode cX8_size 169 = .ok (.ireturn, 1) := by decide +kernel
theorem dX8_size_170 : decode cX8_size 170 = .ok (.aload_n 0, 1) := by decide +kernel
theorem dX8_size_171 : decode cX8_size 171 = .ok (.getfield 7, 3) := by decide +kernel
theorem dX8_size_174 : decode cX8_size 174 = .ok (.iconst 2, 1) := by decide +kernel
theorem dX8_size_175 : decode cX8_size 175 = .ok (.iaload, 1) := by decide +kernel
theorem dX8_size_176 : decode cX8_size 176 = .ok (.ireturn, 1) := by decide +kernel
theorem dX8_size_177 : decode cX8_size 177 = .ok (.aload_n 0, 1) := by decide +kernel
theorem dX8_size_178 : decode cX8_size 178 = .ok (.getfield 7, 3) := by decide +kernel
theorem dX8_size_181 : decode cX8_size 181 = .ok (.iconst 3, 1) := by decide +kernel
theorem dX8_size_182 : decode cX8_size 182 = .ok (.iaload, 1) := by decide +kernel
theorem dX8_size_183 : decode cX8_size 183 = .ok (.ireturn, 1) := by decide +kernel
theorem dX8_size_184 : decode cX8_size 184 = .ok (.aload_n 0, 1) := by decide +kernel
theorem dX8_size_185 : decode cX8_size 185 = .ok (.getfield 7, 3) := by decide +kernel
theorem dX8_size_188 : decode cX8_size 188 = .ok (.bipush 7, 2) := by decide +kernel
theorem dX8_size_190 : decode cX8_size 190 = .ok (.iaload, 1) := by decide +kernel
theorem dX8_size_191 : decode cX8_size 191 = .ok (.ireturn, 1) := by decide +kernel
theorem dX8_size_192 : decode cX8_size 192 = .ok (.aload_n 0, 1) := by decide +kernel
theorem dX8_size_193 : decode cX8_size 193 = .ok (.getfield 173, 3) := by decide +kernel
theorem dX8_size_196 : decode cX8_size 196 = .ok (.ireturn, 1) := by decide +kernel
theorem dX8_size_197 : decode cX8_size 197 = .ok (.aload_n 0, 1) := by decide +kernel
theorem dX8_size_198 : decode cX8_size 198 = .ok (.invokevirtual 252, 3) := by decide +kernel
theorem dX8_size_201 : decode cX8_size 201 = .ok (.ireturn, 1) := by decide +kernel
theorem dX8_size_202 : decode cX8_size 202 = .ok (.aload_n 0, 1) := by decide +kernel
theorem dX8_size_203 : decode cX8_size 203 = .ok (.getfield 7, 3) := by decide +kernel
theorem dX8_size_206 : decode cX8_size 206 = .ok (.bipush 8, 2) := by decide +kernel
theorem dX8_size_208 : decode cX8_size 208 = .ok (.iaload, 1) := by decide +kernel
theorem dX8_size_209 : decode cX8_size 209 = .ok (.ireturn, 1) := by decide +kernel
theorem dX8_size_210 : decode cX8_size 210 = .ok (.aload_n 0, 1) := by decide +kernel
theorem dX8_size_211 : decode cX8_size 211 = .ok (.getfield 7, 3) := by decide +kernel
theorem dX8_size_214 : decode cX8_size 214 = .ok (.bipush 9, 2) := by decide +kernel
theorem dX8_size_216 : decode cX8_size 216 = .ok (.iaload, 1) := by decide +kernel
theorem dX8_size_217 : decode cX8_size 217 = .ok (.ireturn, 1) := by decide +kernel
theorem dX8_size_218 : decode cX8_size 218 = .ok (.aload_n 0, 1) := by decide +kernel
theorem dX8_size_219 : decode cX8_size 219 = .ok (.getfield 7, 3) := by decide +kernel
theorem dX8_size_222 : decode cX8_size 222 = .ok (.bipush 10, 2) := by decide +kernel
theorem dX8_size_224 : decode cX8_size 224 = .ok (.iaload, 1) := by decide +kernel
theorem dX8_size_225 : decode cX8_size 225 = .ok (.ireturn, 1) := by decide +kernel
theorem dX8_buoy_0 : decode cX8_buoy 0 = .ok (.aload_n 0, 1) := by decide +kernel
theorem dX8_buoy_1 : decode cX8_buoy 1 = .ok (.iconst 0, 1) := by decide +kernel
theorem dX8_buoy_2 : decode cX8_buoy 2 = .ok (.putfield 57, 3) := by decide +kernel
theorem dX8_buoy_5 : decode cX8_buoy 5 = .ok (.aload_n 0, 1) := by decide +kernel
theorem dX8_buoy_6 : decode cX8_buoy 6 = .ok (.iload_n 1, 1) := by decide +kernel
theorem dX8_buoy_7 : decode cX8_buoy 7 = .ok (.invokevirtual 255, 3) := by decide +kernel
theorem dX8_buoy_10 : decode cX8_buoy 10 = .ok (.ifCond .ne 26, 3) := by decide +kernel
theorem dX8_buoy_13 : decode cX8_buoy 13 = .ok (.aload_n 0, 1) := by decide +kernel
theorem dX8_buoy_14 : decode cX8_buoy 14 = .ok (.iload_n 2, 1) := by decide +kernel
theorem dX8_buoy_15 : decode cX8_buoy 15 = .ok (.iconst 0, 1) := by decide +kernel
theorem dX8_buoy_16 : decode cX8_buoy 16 = .ok (.bipush 9, 2) := by decide +kernel
theorem dX8_buoy_18 : decode cX8_buoy 18 = .ok (.invokestatic 60, 3) := by decide +kernel
theorem dX8_buoy_21 : decode cX8_buoy 21 = .ok (.ifCond .ne 7, 3) := by decide +kernel
theorem dX8_buoy_24 : decode cX8_buoy 24 = .ok (.iconst 1, 1) := by decide +kernel
theorem dX8_buoy_25 : decode cX8_buoy 25 = .ok (.goto 4, 3) := by decide +kernel
theorem dX8_buoy_28 : decode cX8_buoy 28 = .ok (.iconst 0, 1) := by decide +kernel
theorem dX8_buoy_29 : decode cX8_buoy 29 = .ok (.iconst 2, 1) := by decide +kernel
theorem dX8_buoy_30 : decode cX8_buoy 30 = .ok (.invokevirtual 64, 3) := by decide +kernel
theorem dX8_buoy_33 : decode cX8_buoy 33 = .ok (.ifCond .eq 5, 3) := by decide +kernel
theorem dX8_buoy_36 : decode cX8_buoy 36 = .ok (.iconst 0, 1) := by decide +kernel
theorem dX8_buoy_37 : decode cX8_buoy 37 = .ok (.ireturn, 1) := by decide +kernel
theorem dX8_buoy_38 : decode cX8_buoy 38 = .ok (.aload_n 0, 1) := by decide +kernel
theorem dX8_buoy_39 : decode cX8_buoy 39 = .ok (.getfield 7, 3) := by decide +kernel
theorem dX8_buoy_42 : decode cX8_buoy 42 = .ok (.bipush 12, 2) := by decide +kernel
theorem dX8_buoy_44 : decode cX8_buoy 44 = .ok (.bipush 10, 2) := by decide +kernel
theorem dX8_buoy_46 : decode cX8_buoy 46 = .ok (.iload_n 2, 1) := by decide +kernel
theorem dX8_buoy_47 : decode cX8_buoy 47 = .ok (.imul, 1) := by decide +kernel
theorem dX8_buoy_48 : decode cX8_buoy 48 = .ok (.iadd, 1) := by decide +kernel
theorem dX8_buoy_49 : decode cX8_buoy 49 = .ok (.iload_n 1, 1) := by decide +kernel
theorem dX8_buoy_50 : decode cX8_buoy 50 = .ok (.iadd, 1) := by decide +kernel
theorem dX8_buoy_51 : decode cX8_buoy 51 = .ok (.iaload, 1) := by decide +kernel
theorem dX8_buoy_52 : decode cX8_buoy 52 = .ok (.ireturn, 1) := by decide +kernel
theorem dX8_long0_0 : decode cX8_long0 0 = .ok (.aload_n 0, 1) := by decide +kernel
theorem dX8_long0_1 : decode cX8_long0 1 = .ok (.getfield 7, 3) := by decide +kernel
theorem dX8_long0_4 : decode cX8_long0 4 = .ok (.bipush 12, 2) := by decide +kernel
theorem dX8_long0_6 : decode cX8_long0 6 = .ok (.iload_n 1, 1) := by decide +kernel
theorem dX8_long0_7 : decode cX8_long0 7 = .ok (.iadd, 1) := by decide +kernel
theorem dX8_long0_8 : decode cX8_long0 8 = .ok (.iconst 1, 1) := by decide +kernel
theorem dX8_long0_9 : decode cX8_long0 9 = .ok (.iadd, 1) := by decide +kernel
theorem dX8_long0_10 : decode cX8_long0 10 = .ok (.iaload, 1) := by decide +kernel
theorem dX8_long0_11 : decode cX8_long0 11 = .ok (.aload_n 0, 1) := by decide +kernel
theorem dX8_long0_12 : decode cX8_long0 12 = .ok (.getfield 7, 3) := by decide +kernel
theorem dX8_long0_15 : decode cX8_long0 15 = .ok (.bipush 12, 2) := by decide +kernel
theorem dX8_long0_17 : decode cX8_long0 17 = .ok (.iload_n 1, 1) := by decide +kernel
theorem dX8_long0_18 : decode cX8_long0 18 = .ok (.iadd, 1) := by decide +kernel
theorem dX8_long0_19 : decode cX8_long0 19 = .ok (.iaload, 1) := by decide +kernel
theorem dX8_long0_20 : decode cX8_long0 20 = .ok (.isub, 1) := by decide +kernel
theorem dX8_long0_21 : decode cX8_long0 21 = .ok (.ireturn, 1) := by decide +kernel
theorem dX8_rope_0 : decode cX8_rope 0 = .ok (.aload_n 0, 1) := by decide +kernel
theorem dX8_rope_1 : decode cX8_rope 1 = .ok (.iconst 0, 1) := by decide +kernel
theorem dX8_rope_2 : decode cX8_rope 2 = .ok (.putfield 57, 3) := by decide +kernel
theorem dX8_rope_5 : decode cX8_rope 5 = .ok (.aload_n 0, 1) := by decide +kernel
theorem dX8_rope_6 : decode cX8_rope 6 = .ok (.iload_n 1, 1) := by decide +kernel
theorem dX8_rope_7 : decode cX8_rope 7 = .ok (.invokevirtual 258, 3) := by decide +kernel
theorem dX8_rope_10 : decode cX8_rope 10 = .ok (.ifCond .ne 25, 3) := by decide +kernel
theorem dX8_rope_13 : decode cX8_rope 13 = .ok (.aload_n 0, 1) := by decide +kernel
theorem dX8_rope_14 : decode cX8_rope 14 = .ok (.iload_n 2, 1) := by decide +kernel
theorem dX8_rope_15 : decode cX8_rope 15 = .ok (.iconst 0, 1) := by decide +kernel
theorem dX8_rope_16 : decode cX8_rope 16 = .ok (.iconst 3, 1) := by decide +kernel
theorem dX8_rope_17 : decode cX8_rope 17 = .ok (.invokestatic 60, 3) := by decide +kernel
theorem dX8_rope_20 : decode cX8_rope 20 = .ok (.ifCond .ne 7, 3) := by decide +kernel
theorem dX8_rope_23 : decode cX8_rope 23 = .ok (.iconst 1, 1) := by decide +kernel
theorem dX8_rope_24 : decode cX8_rope 24 = .ok (.goto 4, 3) := by decide +kernel
theorem dX8_rope_27 : decode cX8_rope 27 = .ok (.iconst 0, 1) := by decide +kernel
theorem dX8_rope_28 : decode cX8_rope 28 = .ok (.iconst 2, 1) := by decide +kernel
theorem dX8_rope_29 : decode cX8_rope 29 = .ok (.invokevirtual 64, 3) := by decide +kernel
theorem dX8_rope_32 : decode cX8_rope 32 = .ok (.ifCond .eq 5, 3) := by decide +kernel
theorem dX8_rope_35 : decode cX8_rope 35 = .ok (.iconst 0, 1) := by decide +kernel
theorem dX8_rope_36 : decode cX8_rope 36 = .ok (.ireturn, 1) := by decide +kernel
theorem dX8_rope_37 : decode cX8_rope 37 = .ok (.iload_n 2, 1) := by decide +kernel
theorem dX8_rope_38 : decode cX8_rope 38 = .ok (.ifCond .ne 11, 3) := by decide +kernel
theorem dX8_rope_41 : decode cX8_rope 41 = .ok (.aload_n 0, 1) := by decide +kernel
theorem dX8_rope_42 : decode cX8_rope 42 = .ok (.iload_n 1, 1) := by decide +kernel
theorem dX8_rope_43 : decode cX8_rope 43 = .ok (.invokevirtual 261, 3) := by decide +kernel
theorem dX8_rope_46 : decode cX8_rope 46 = .ok (.goto 19, 3) := by decide +kernel
theorem dX8_rope_49 : decode cX8_rope 49 = .ok (.aload_n 0, 1) := by decide +kernel
theorem dX8_rope_50 : decode cX8_rope 50 = .ok (.getfield 7, 3) := by decide +kernel
theorem dX8_rope_53 : decode cX8_rope 53 = .ok (.bipush 112, 2) := by decide +kernel
theorem dX8_rope_55 : decode cX8_rope 55 = .ok (.bipush 10, 2) := by decide +kernel
theorem dX8_rope_57 : decode cX8_rope 57 = .ok (.iload_n 2, 1) := by decide +kernel
theorem dX8_rope_58 : decode cX8_rope 58 = .ok (.iconst 1, 1) := by decide +kernel
theorem dX8_rope_59 : decode cX8_rope 59 = .ok (.isub, 1) := by decide +kernel
theorem dX8_rope_60 : decode cX8_rope 60 = .ok (.imul, 1) := by decide +kernel
theorem dX8_rope_61 : decode cX8_rope 61 = .ok (.iadd, 1) := by decide +kernel
theorem dX8_rope_62 : decode cX8_rope 62 = .ok (.iload_n 1, 1) := by decide +kernel
theorem dX8_rope_63 : decode cX8_rope 63 = .ok (.iadd, 1) := by decide +kernel
theorem dX8_rope_64 : decode cX8_rope 64 = .ok (.iaload, 1) := by decide +kernel
theorem dX8_rope_65 : decode cX8_rope 65 = .ok (.ireturn, 1) := by decide +kernel
theorem dX8_account_0 : decode cX8_account 0 = .ok (.aload_n 0, 1) := by decide +kernel
theorem dX8_account_1 : decode cX8_account 1 = .ok (.iconst 0, 1) := by decide +kernel
theorem dX8_account_2 : decode cX8_account 2 = .ok (.putfield 57, 3) := by decide +kernel
theorem dX8_account_5 : decode cX8_account 5 = .ok (.aload_n 0, 1) := by decide +kernel
theorem dX8_account_6 : decode cX8_account 6 = .ok (.iload_n 1, 1) := by decide +kernel
theorem dX8_account_7 : decode cX8_account 7 = .ok (.iconst 0, 1) := by decide +kernel
theorem dX8_account_8 : decode cX8_account 8 = .ok (.iconst 4, 1) := by decide +kernel
theorem dX8_account_9 : decode cX8_account 9 = .ok (.invokestatic 60, 3) := by decide +kernel
theorem dX8_account_12 : decode cX8_account 12 = .ok (.ifCond .ne 7, 3) := by decide +kernel
theorem dX8_account_15 : decode cX8_account 15 = .ok (.iconst 1, 1) := by decide +kernel
theorem dX8_account_16 : decode cX8_account 16 = .ok (.goto 4, 3) := by decide +kernel
theorem dX8_account_19 : decode cX8_account 19 = .ok (.iconst 0, 1) := by decide +kernel
theorem dX8_account_20 : decode cX8_account 20 = .ok (.iconst 1, 1) := by decide +kernel
theorem dX8_account_21 : decode cX8_account 21 = .ok (.invokevirtual 64, 3) := by decide +kernel
theorem dX8_account_24 : decode cX8_account 24 = .ok (.ifCond .eq 7, 3) := by decide +kernel
theorem dX8_account_27 : decode cX8_account 27 = .ok (.iconst 0, 1) := by decide +kernel
theorem dX8_account_28 : decode cX8_account 28 = .ok (.goto 9, 3) := by decide +kernel
theorem dX8_account_31 : decode cX8_account 31 = .ok (.aload_n 0, 1) := by decide +kernel
theorem dX8_account_32 : decode cX8_account 32 = .ok (.getfield 29, 3) := by decide +kernel
theorem dX8_account_35 : decode cX8_account 35 = .ok (.iload_n 1, 1) := by decide +kernel
theorem dX8_account_36 : decode cX8_account 36 = .ok (.iaload, 1) := by decide +kernel
theorem dX8_account_37 : decode cX8_account 37 = .ok (.ireturn, 1) := by decide +kernel
theorem dX8_noHour_0 : decode cX8_noHour 0 = .ok (.aload_n 0, 1) := by decide +kernel
theorem dX8_noHour_1 : decode cX8_noHour 1 = .ok (.iload_n 1, 1) := by decide +kernel
theorem dX8_noHour_2 : decode cX8_noHour 2 = .ok (.aload_n 0, 1) := by decide +kernel
theorem dX8_noHour_3 : decode cX8_noHour 3 = .ok (.invokevirtual 203, 3) := by decide +kernel
theorem dX8_noHour_6 : decode cX8_noHour 6 = .ok (.aload_n 0, 1) := by decide +kernel
theorem dX8_noHour_7 : decode cX8_noHour 7 = .ok (.getfield 7, 3) := by decide +kernel
theorem dX8_noHour_10 : decode cX8_noHour 10 = .ok (.iconst 5, 1) := by decide +kernel
theorem dX8_noHour_11 : decode cX8_noHour 11 = .ok (.iaload, 1) := by decide +kernel
theorem dX8_noHour_12 : decode cX8_noHour 12 = .ok (.iconst 1, 1) := by decide +kernel
theorem dX8_noHour_13 : decode cX8_noHour 13 = .ok (.isub, 1) := by decide +kernel
theorem dX8_noHour_14 : decode cX8_noHour 14 = .ok (.invokestatic 60, 3) := by decide +kernel
theorem dX8_noHour_17 : decode cX8_noHour 17 = .ok (.ifCond .ne 7, 3) := by decide +kernel
theorem dX8_noHour_20 : decode cX8_noHour 20 = .ok (.iconst 1, 1) := by decide +kernel
theorem dX8_noHour_21 : decode cX8_noHour 21 = .ok (.goto 4, 3) := by decide +kernel
theorem dX8_noHour_24 : decode cX8_noHour 24 = .ok (.iconst 0, 1) := by decide +kernel
theorem dX8_noHour_25 : decode cX8_noHour 25 = .ok (.iconst 1, 1) := by decide +kernel
theorem dX8_noHour_26 : decode cX8_noHour 26 = .ok (.invokevirtual 64, 3) := by decide +kernel
theorem dX8_noHour_29 : decode cX8_noHour 29 = .ok (.ireturn, 1) := by decide +kernel
theorem dX8_hour_0 : decode cX8_hour 0 = .ok (.aload_n 0, 1) := by decide +kernel
theorem dX8_hour_1 : decode cX8_hour 1 = .ok (.iconst 0, 1) := by decide +kernel
theorem dX8_hour_2 : decode cX8_hour 2 = .ok (.putfield 57, 3) := by decide +kernel
theorem dX8_hour_5 : decode cX8_hour 5 = .ok (.aload_n 0, 1) := by decide +kernel
theorem dX8_hour_6 : decode cX8_hour 6 = .ok (.iload_n 1, 1) := by decide +kernel
theorem dX8_hour_7 : decode cX8_hour 7 = .ok (.invokevirtual 264, 3) := by decide +kernel
theorem dX8_hour_10 : decode cX8_hour 10 = .ok (.ifCond .ne 25, 3) := by decide +kernel
theorem dX8_hour_13 : decode cX8_hour 13 = .ok (.aload_n 0, 1) := by decide +kernel
theorem dX8_hour_14 : decode cX8_hour 14 = .ok (.iload_n 2, 1) := by decide +kernel
theorem dX8_hour_15 : decode cX8_hour 15 = .ok (.iconst 0, 1) := by decide +kernel
theorem dX8_hour_16 : decode cX8_hour 16 = .ok (.iconst 4, 1) := by decide +kernel
theorem dX8_hour_17 : decode cX8_hour 17 = .ok (.invokestatic 60, 3) := by decide +kernel
theorem dX8_hour_20 : decode cX8_hour 20 = .ok (.ifCond .ne 7, 3) := by decide +kernel
theorem dX8_hour_23 : decode cX8_hour 23 = .ok (.iconst 1, 1) := by decide +kernel
theorem dX8_hour_24 : decode cX8_hour 24 = .ok (.goto 4, 3) := by decide +kernel
theorem dX8_hour_27 : decode cX8_hour 27 = .ok (.iconst 0, 1) := by decide +kernel
theorem dX8_hour_28 : decode cX8_hour 28 = .ok (.iconst 2, 1) := by decide +kernel
theorem dX8_hour_29 : decode cX8_hour 29 = .ok (.invokevirtual 64, 3) := by decide +kernel
theorem dX8_hour_32 : decode cX8_hour 32 = .ok (.ifCond .eq 5, 3) := by decide +kernel
theorem dX8_hour_35 : decode cX8_hour 35 = .ok (.iconst 0, 1) := by decide +kernel
theorem dX8_hour_36 : decode cX8_hour 36 = .ok (.ireturn, 1) := by decide +kernel
theorem dX8_hour_37 : decode cX8_hour 37 = .ok (.iload_n 2, 1) := by decide +kernel
theorem dX8_hour_38 : decode cX8_hour 38 = .ok (.iconst 3, 1) := by decide +kernel
theorem dX8_hour_39 : decode cX8_hour 39 = .ok (.if_icmp .ne 15, 3) := by decide +kernel
theorem dX8_hour_42 : decode cX8_hour 42 = .ok (.aload_n 0, 1) := by decide +kernel
theorem dX8_hour_43 : decode cX8_hour 43 = .ok (.iload_n 1, 1) := by decide +kernel
theorem dX8_hour_44 : decode cX8_hour 44 = .ok (.iconst 3, 1) := by decide +kernel
theorem dX8_hour_45 : decode cX8_hour 45 = .ok (.invokevirtual 209, 3) := by decide +kernel
theorem dX8_hour_48 : decode cX8_hour 48 = .ok (.invokestatic 243, 3) := by decide +kernel
theorem dX8_hour_51 : decode cX8_hour 51 = .ok (.goto 9, 3) := by decide +kernel
theorem dX8_hour_54 : decode cX8_hour 54 = .ok (.aload_n 0, 1) := by decide +kernel
theorem dX8_hour_55 : decode cX8_hour 55 = .ok (.iload_n 1, 1) := by decide +kernel
theorem dX8_hour_56 : decode cX8_hour 56 = .ok (.iload_n 2, 1) := by decide +kernel
theorem dX8_hour_57 : decode cX8_hour 57 = .ok (.invokevirtual 209, 3) := by decide +kernel
theorem dX8_hour_60 : decode cX8_hour 60 = .ok (.ireturn, 1) := by decide +kernel
theorem dX8_level_0 : decode cX8_level 0 = .ok (.aload_n 0, 1) := by decide +kernel
theorem dX8_level_1 : decode cX8_level 1 = .ok (.iconst 0, 1) := by decide +kernel
theorem dX8_level_2 : decode cX8_level 2 = .ok (.putfield 57, 3) := by decide +kernel
theorem dX8_level_5 : decode cX8_level 5 = .ok (.aload_n 0, 1) := by decide +kernel
theorem dX8_level_6 : decode cX8_level 6 = .ok (.iload_n 1, 1) := by decide +kernel
theorem dX8_level_7 : decode cX8_level 7 = .ok (.invokevirtual 264, 3) := by decide +kernel
theorem dX8_level_10 : decode cX8_level 10 = .ok (.ifCond .ne 25, 3) := by decide +kernel
theorem dX8_level_13 : decode cX8_level 13 = .ok (.aload_n 0, 1) := by decide +kernel
theorem dX8_level_14 : decode cX8_level 14 = .ok (.aload_n 0, 1) := by decide +kernel
theorem dX8_level_15 : decode cX8_level 15 = .ok (.iload_n 1, 1) := by decide +kernel
theorem dX8_level_16 : decode cX8_level 16 = .ok (.iconst 2, 1) := by decide +kernel
theorem dX8_level_17 : decode cX8_level 17 = .ok (.invokevirtual 209, 3) := by decide +kernel
theorem dX8_level_20 : decode cX8_level 20 = .ok (.ifCond .ne 7, 3) := by decide +kernel
theorem dX8_level_23 : decode cX8_level 23 = .ok (.iconst 1, 1) := by decide +kernel
theorem dX8_level_24 : decode cX8_level 24 = .ok (.goto 4, 3) := by decide +kernel
theorem dX8_level_27 : decode cX8_level 27 = .ok (.iconst 0, 1) := by decide +kernel
theorem dX8_level_28 : decode cX8_level 28 = .ok (.iconst 2, 1) := by decide +kernel
theorem dX8_level_29 : decode cX8_level 29 = .ok (.invokevirtual 64, 3) := by decide +kernel
theorem dX8_level_32 : decode cX8_level 32 = .ok (.ifCond .eq 7, 3) := by decide +kernel
theorem dX8_level_35 : decode cX8_level 35 = .ok (.iconst 0, 1) := by decide +kernel
theorem dX8_level_36 : decode cX8_level 36 = .ok (.goto 9, 3) := by decide +kernel
theorem dX8_level_39 : decode cX8_level 39 = .ok (.aload_n 0, 1) := by decide +kernel
theorem dX8_level_40 : decode cX8_level 40 = .ok (.iload_n 1, 1) := by decide +kernel
theorem dX8_level_41 : decode cX8_level 41 = .ok (.iconst 5, 1) := by decide +kernel
theorem dX8_level_42 : decode cX8_level 42 = .ok (.invokevirtual 209, 3) := by decide +kernel
theorem dX8_level_45 : decode cX8_level 45 = .ok (.ireturn, 1) := by decide +kernel
theorem dX8_value_0 : decode cX8_value 0 = .ok (.aload_n 0, 1) := by decide +kernel
theorem dX8_value_1 : decode cX8_value 1 = .ok (.iconst 0, 1) := by decide +kernel
theorem dX8_value_2 : decode cX8_value 2 = .ok (.putfield 57, 3) := by decide +kernel
theorem dX8_value_5 : decode cX8_value 5 = .ok (.aload_n 0, 1) := by decide +kernel
theorem dX8_value_6 : decode cX8_value 6 = .ok (.iload_n 1, 1) := by decide +kernel
theorem dX8_value_7 : decode cX8_value 7 = .ok (.invokevirtual 264, 3) := by decide +kernel
theorem dX8_value_10 : decode cX8_value 10 = .ok (.ifCond .ne 37, 3) := by decide +kernel
theorem dX8_value_13 : decode cX8_value 13 = .ok (.aload_n 0, 1) := by decide +kernel
theorem dX8_value_14 : decode cX8_value 14 = .ok (.iload_n 2, 1) := by decide +kernel
theorem dX8_value_15 : decode cX8_value 15 = .ok (.invokevirtual 255, 3) := by decide +kernel
theorem dX8_value_18 : decode cX8_value 18 = .ok (.ifCond .ne 29, 3) := by decide +kernel
theorem dX8_value_21 : decode cX8_value 21 = .ok (.aload_n 0, 1) := by decide +kernel
theorem dX8_value_22 : decode cX8_value 22 = .ok (.aload_n 0, 1) := by decide +kernel
theorem dX8_value_23 : decode cX8_value 23 = .ok (.iload_n 1, 1) := by decide +kernel
theorem dX8_value_24 : decode cX8_value 24 = .ok (.iconst 3, 1) := by decide +kernel
theorem dX8_value_25 : decode cX8_value 25 = .ok (.invokevirtual 209, 3) := by decide +kernel
theorem dX8_value_28 : decode cX8_value 28 = .ok (.iload_n 2, 1) := by decide +kernel
theorem dX8_value_29 : decode cX8_value 29 = .ok (.invokestatic 176, 3) := by decide +kernel
theorem dX8_value_32 : decode cX8_value 32 = .ok (.ifCond .ne 7, 3) := by decide +kernel
theorem dX8_value_35 : decode cX8_value 35 = .ok (.iconst 1, 1) := by decide +kernel
theorem dX8_value_36 : decode cX8_value 36 = .ok (.goto 4, 3) := by decide +kernel
theorem dX8_value_39 : decode cX8_value 39 = .ok (.iconst 0, 1) := by decide +kernel
theorem dX8_value_40 : decode cX8_value 40 = .ok (.iconst 2, 1) := by decide +kernel
theorem dX8_value_41 : decode cX8_value 41 = .ok (.invokevirtual 64, 3) := by decide +kernel
theorem dX8_value_44 : decode cX8_value 44 = .ok (.ifCond .eq 7, 3) := by decide +kernel
theorem dX8_value_47 : decode cX8_value 47 = .ok (.iconst 0, 1) := by decide +kernel
theorem dX8_value_48 : decode cX8_value 48 = .ok (.goto 12, 3) := by decide +kernel
theorem dX8_value_51 : decode cX8_value 51 = .ok (.aload_n 0, 1) := by decide +kernel
theorem dX8_value_52 : decode cX8_value 52 = .ok (.iload_n 1, 1) := by decide +kernel
theorem dX8_value_53 : decode cX8_value 53 = .ok (.bipush 8, 2) := by decide +kernel
theorem dX8_value_55 : decode cX8_value 55 = .ok (.iload_n 2, 1) := by decide +kernel
theorem dX8_value_56 : decode cX8_value 56 = .ok (.iadd, 1) := by decide +kernel
theorem dX8_value_57 : decode cX8_value 57 = .ok (.invokevirtual 209, 3) := by decide +kernel
theorem dX8_value_60 : decode cX8_value 60 = .ok (.ireturn, 1) := by decide +kernel
theorem dX8_why_0 : decode cX8_why 0 = .ok (.aload_n 0, 1) := by decide +kernel
theorem dX8_why_1 : decode cX8_why 1 = .ok (.iconst 0, 1) := by decide +kernel
theorem dX8_why_2 : decode cX8_why 2 = .ok (.putfield 57, 3) := by decide +kernel
theorem dX8_why_5 : decode cX8_why 5 = .ok (.aload_n 0, 1) := by decide +kernel
theorem dX8_why_6 : decode cX8_why 6 = .ok (.iload_n 1, 1) := by decide +kernel
theorem dX8_why_7 : decode cX8_why 7 = .ok (.invokevirtual 264, 3) := by decide +kernel
theorem dX8_why_10 : decode cX8_why 10 = .ok (.ifCond .ne 11, 3) := by decide +kernel
theorem dX8_why_13 : decode cX8_why 13 = .ok (.aload_n 0, 1) := by decide +kernel
theorem dX8_why_14 : decode cX8_why 14 = .ok (.iload_n 2, 1) := by decide +kernel
theorem dX8_why_15 : decode cX8_why 15 = .ok (.invokevirtual 255, 3) := by decide +kernel
theorem dX8_why_18 : decode cX8_why 18 = .ok (.ifCond .eq 5, 3) := by decide +kernel
theorem dX8_why_21 : decode cX8_why 21 = .ok (.iconst 0, 1) := by decide +kernel
theorem dX8_why_22 : decode cX8_why 22 = .ok (.ireturn, 1) := by decide +kernel
theorem dX8_why_23 : decode cX8_why 23 = .ok (.aload_n 0, 1) := by decide +kernel
theorem dX8_why_24 : decode cX8_why 24 = .ok (.iload_n 1, 1) := by decide +kernel
theorem dX8_why_25 : decode cX8_why 25 = .ok (.iconst 3, 1) := by decide +kernel
theorem dX8_why_26 : decode cX8_why 26 = .ok (.invokevirtual 209, 3) := by decide +kernel
theorem dX8_why_29 : decode cX8_why 29 = .ok (.iload_n 2, 1) := by decide +kernel
theorem dX8_why_30 : decode cX8_why 30 = .ok (.invokestatic 176, 3) := by decide +kernel
theorem dX8_why_33 : decode cX8_why 33 = .ok (.ifCond .ne 5, 3) := by decide +kernel
theorem dX8_why_36 : decode cX8_why 36 = .ok (.iconst 1, 1) := by decide +kernel
theorem dX8_why_37 : decode cX8_why 37 = .ok (.ireturn, 1) := by decide +kernel
theorem dX8_why_38 : decode cX8_why 38 = .ok (.aload_n 0, 1) := by decide +kernel
theorem dX8_why_39 : decode cX8_why 39 = .ok (.iload_n 1, 1) := by decide +kernel
theorem dX8_why_40 : decode cX8_why 40 = .ok (.iconst 4, 1) := by decide +kernel
theorem dX8_why_41 : decode cX8_why 41 = .ok (.invokevirtual 209, 3) := by decide +kernel
theorem dX8_why_44 : decode cX8_why 44 = .ok (.iload_n 2, 1) := by decide +kernel
theorem dX8_why_45 : decode cX8_why 45 = .ok (.invokestatic 176, 3) := by decide +kernel
theorem dX8_why_48 : decode cX8_why 48 = .ok (.ifCond .eq 5, 3) := by decide +kernel
theorem dX8_why_51 : decode cX8_why 51 = .ok (.iconst 5, 1) := by decide +kernel
theorem dX8_why_52 : decode cX8_why 52 = .ok (.ireturn, 1) := by decide +kernel
theorem dX8_why_53 : decode cX8_why 53 = .ok (.aload_n 0, 1) := by decide +kernel
theorem dX8_why_54 : decode cX8_why 54 = .ok (.iload_n 1, 1) := by decide +kernel
theorem dX8_why_55 : decode cX8_why 55 = .ok (.iconst 0, 1) := by decide +kernel
theorem dX8_why_56 : decode cX8_why 56 = .ok (.invokevirtual 209, 3) := by decide +kernel
theorem dX8_why_59 : decode cX8_why 59 = .ok (.iload_n 2, 1) := by decide +kernel
theorem dX8_why_60 : decode cX8_why 60 = .ok (.invokestatic 176, 3) := by decide +kernel
theorem dX8_why_63 : decode cX8_why 63 = .ok (.ifCond .ne 23, 3) := by decide +kernel
theorem dX8_why_66 : decode cX8_why 66 = .ok (.aload_n 0, 1) := by decide +kernel
theorem dX8_why_67 : decode cX8_why 67 = .ok (.iload_n 1, 1) := by decide +kernel
theorem dX8_why_68 : decode cX8_why 68 = .ok (.bipush 6, 2) := by decide +kernel
theorem dX8_why_70 : decode cX8_why 70 = .ok (.invokevirtual 209, 3) := by decide +kernel
theorem dX8_why_73 : decode cX8_why 73 = .ok (.iload_n 2, 1) := by decide +kernel
theorem dX8_why_74 : decode cX8_why 74 = .ok (.invokestatic 176, 3) := by decide +kernel
theorem dX8_why_77 : decode cX8_why 77 = .ok (.ifCond .eq 7, 3) := by decide +kernel
theorem dX8_why_80 : decode cX8_why 80 = .ok (.iconst 2, 1) := by decide +kernel
theorem dX8_why_81 : decode cX8_why 81 = .ok (.goto 4, 3) := by decide +kernel
theorem dX8_why_84 : decode cX8_why 84 = .ok (.iconst 3, 1) := by decide +kernel
theorem dX8_why_85 : decode cX8_why 85 = .ok (.ireturn, 1) := by decide +kernel
theorem dX8_why_86 : decode cX8_why 86 = .ok (.aload_n 0, 1) := by decide +kernel
theorem dX8_why_87 : decode cX8_why 87 = .ok (.iload_n 1, 1) := by decide +kernel
theorem dX8_why_88 : decode cX8_why 88 = .ok (.iconst 2, 1) := by decide +kernel
theorem dX8_why_89 : decode cX8_why 89 = .ok (.invokevirtual 209, 3) := by decide +kernel
theorem dX8_why_92 : decode cX8_why 92 = .ok (.ifCond .ne 8, 3) := by decide +kernel
theorem dX8_why_95 : decode cX8_why 95 = .ok (.bipush 6, 2) := by decide +kernel
theorem dX8_why_97 : decode cX8_why 97 = .ok (.goto 21, 3) := by decide +kernel
theorem dX8_why_100 : decode cX8_why 100 = .ok (.aload_n 0, 1) := by decide +kernel
theorem dX8_why_101 : decode cX8_why 101 = .ok (.iload_n 1, 1) := by decide +kernel
theorem dX8_why_102 : decode cX8_why 102 = .ok (.iconst 1, 1) := by decide +kernel
theorem dX8_why_103 : decode cX8_why 103 = .ok (.invokevirtual 209, 3) := by decide +kernel
theorem dX8_why_106 : decode cX8_why 106 = .ok (.iload_n 2, 1) := by decide +kernel
theorem dX8_why_107 : decode cX8_why 107 = .ok (.invokestatic 176, 3) := by decide +kernel
theorem dX8_why_110 : decode cX8_why 110 = .ok (.ifCond .eq 7, 3) := by decide +kernel
theorem dX8_why_113 : decode cX8_why 113 = .ok (.iconst 0, 1) := by decide +kernel
theorem dX8_why_114 : decode cX8_why 114 = .ok (.goto 4, 3) := by decide +kernel
theorem dX8_why_117 : decode cX8_why 117 = .ok (.iconst 4, 1) := by decide +kernel
theorem dX8_why_118 : decode cX8_why 118 = .ok (.ireturn, 1) := by decide +kernel
theorem dX8_tide_0 : decode cX8_tide 0 = .ok (.aload_n 0, 1) := by decide +kernel
theorem dX8_tide_1 : decode cX8_tide 1 = .ok (.iconst 0, 1) := by decide +kernel
theorem dX8_tide_2 : decode cX8_tide 2 = .ok (.putfield 57, 3) := by decide +kernel
theorem dX8_tide_5 : decode cX8_tide 5 = .ok (.aload_n 0, 1) := by decide +kernel
theorem dX8_tide_6 : decode cX8_tide 6 = .ok (.iload_n 1, 1) := by decide +kernel
theorem dX8_tide_7 : decode cX8_tide 7 = .ok (.invokevirtual 264, 3) := by decide +kernel
theorem dX8_tide_10 : decode cX8_tide 10 = .ok (.ifCond .ne 25, 3) := by decide +kernel
theorem dX8_tide_13 : decode cX8_tide 13 = .ok (.aload_n 0, 1) := by decide +kernel
theorem dX8_tide_14 : decode cX8_tide 14 = .ok (.aload_n 0, 1) := by decide +kernel
theorem dX8_tide_15 : decode cX8_tide 15 = .ok (.iload_n 1, 1) := by decide +kernel
theorem dX8_tide_16 : decode cX8_tide 16 = .ok (.iconst 2, 1) := by decide +kernel
theorem dX8_tide_17 : decode cX8_tide 17 = .ok (.invokevirtual 209, 3) := by decide +kernel
theorem dX8_tide_20 : decode cX8_tide 20 = .ok (.ifCond .ne 7, 3) := by decide +kernel
theorem dX8_tide_23 : decode cX8_tide 23 = .ok (.iconst 1, 1) := by decide +kernel
theorem dX8_tide_24 : decode cX8_tide 24 = .ok (.goto 4, 3) := by decide +kernel
theorem dX8_tide_27 : decode cX8_tide 27 = .ok (.iconst 0, 1) := by decide +kernel
theorem dX8_tide_28 : decode cX8_tide 28 = .ok (.iconst 2, 1) := by decide +kernel
theorem dX8_tide_29 : decode cX8_tide 29 = .ok (.invokevirtual 64, 3) := by decide +kernel
theorem dX8_tide_32 : decode cX8_tide 32 = .ok (.ifCond .eq 5, 3) := by decide +kernel
theorem dX8_tide_35 : decode cX8_tide 35 = .ok (.iconst 0, 1) := by decide +kernel
theorem dX8_tide_36 : decode cX8_tide 36 = .ok (.ireturn, 1) := by decide +kernel
theorem dX8_tide_37 : decode cX8_tide 37 = .ok (.iload_n 1, 1) := by decide +kernel
theorem dX8_tide_38 : decode cX8_tide 38 = .ok (.iconst 1, 1) := by decide +kernel
theorem dX8_tide_39 : decode cX8_tide 39 = .ok (.isub, 1) := by decide +kernel
theorem dX8_tide_40 : decode cX8_tide 40 = .ok (.istore_n 2, 1) := by decide +kernel
theorem dX8_tide_41 : decode cX8_tide 41 = .ok (.iload_n 2, 1) := by decide +kernel
theorem dX8_tide_42 : decode cX8_tide 42 = .ok (.aload_n 0, 1) := by decide +kernel
theorem dX8_tide_43 : decode cX8_tide 43 = .ok (.invokevirtual 203, 3) := by decide +kernel
theorem dX8_tide_46 : decode cX8_tide 46 = .ok (.if_icmp .lt 18, 3) := by decide +kernel
theorem dX8_tide_49 : decode cX8_tide 49 = .ok (.aload_n 0, 1) := by decide +kernel
theorem dX8_tide_50 : decode cX8_tide 50 = .ok (.iload_n 2, 1) := by decide +kernel
theorem dX8_tide_51 : decode cX8_tide 51 = .ok (.iconst 2, 1) := by decide +kernel
theorem dX8_tide_52 : decode cX8_tide 52 = .ok (.invokevirtual 209, 3) := by decide +kernel
theorem dX8_tide_55 : decode cX8_tide 55 = .ok (.ifCond .ne 9, 3) := by decide +kernel
theorem dX8_tide_58 : decode cX8_tide 58 = .ok (.iinc 2 (-1), 3) := by decide +kernel
theorem dX8_tide_61 : decode cX8_tide 61 = .ok (.goto (-20), 3) := by decide +kernel
theorem dX8_tide_64 : decode cX8_tide 64 = .ok (.aload_n 0, 1) := by decide +kernel
theorem dX8_tide_65 : decode cX8_tide 65 = .ok (.iload_n 2, 1) := by decide +kernel
theorem dX8_tide_66 : decode cX8_tide 66 = .ok (.aload_n 0, 1) := by decide +kernel
theorem dX8_tide_67 : decode cX8_tide 67 = .ok (.invokevirtual 203, 3) := by decide +kernel
theorem dX8_tide_70 : decode cX8_tide 70 = .ok (.if_icmp .ge 7, 3) := by decide +kernel
theorem dX8_tide_73 : decode cX8_tide 73 = .ok (.iconst 1, 1) := by decide +kernel
theorem dX8_tide_74 : decode cX8_tide 74 = .ok (.goto 4, 3) := by decide +kernel
theorem dX8_tide_77 : decode cX8_tide 77 = .ok (.iconst 0, 1) := by decide +kernel
theorem dX8_tide_78 : decode cX8_tide 78 = .ok (.iconst 2, 1) := by decide +kernel
theorem dX8_tide_79 : decode cX8_tide 79 = .ok (.invokevirtual 64, 3) := by decide +kernel
theorem dX8_tide_82 : decode cX8_tide 82 = .ok (.ifCond .eq 5, 3) := by decide +kernel
theorem dX8_tide_85 : decode cX8_tide 85 = .ok (.iconst 0, 1) := by decide +kernel
theorem dX8_tide_86 : decode cX8_tide 86 = .ok (.ireturn, 1) := by decide +kernel
theorem dX8_tide_87 : decode cX8_tide 87 = .ok (.aload_n 0, 1) := by decide +kernel
theorem dX8_tide_88 : decode cX8_tide 88 = .ok (.iload_n 1, 1) := by decide +kernel
theorem dX8_tide_89 : decode cX8_tide 89 = .ok (.iconst 5, 1) := by decide +kernel
theorem dX8_tide_90 : decode cX8_tide 90 = .ok (.invokevirtual 209, 3) := by decide +kernel
theorem dX8_tide_93 : decode cX8_tide 93 = .ok (.aload_n 0, 1) := by decide +kernel
theorem dX8_tide_94 : decode cX8_tide 94 = .ok (.iload_n 2, 1) := by decide +kernel
theorem dX8_tide_95 : decode cX8_tide 95 = .ok (.iconst 5, 1) := by decide +kernel
theorem dX8_tide_96 : decode cX8_tide 96 = .ok (.invokevirtual 209, 3) := by decide +kernel
theorem dX8_tide_99 : decode cX8_tide 99 = .ok (.isub, 1) := by decide +kernel
theorem dX8_tide_100 : decode cX8_tide 100 = .ok (.istore_n 3, 1) := by decide +kernel
theorem dX8_tide_101 : decode cX8_tide 101 = .ok (.iload_n 3, 1) := by decide +kernel
theorem dX8_tide_102 : decode cX8_tide 102 = .ok (.ifCond .le 7, 3) := by decide +kernel
theorem dX8_tide_105 : decode cX8_tide 105 = .ok (.iconst 1, 1) := by decide +kernel
theorem dX8_tide_106 : decode cX8_tide 106 = .ok (.goto 12, 3) := by decide +kernel
theorem dX8_tide_109 : decode cX8_tide 109 = .ok (.iload_n 3, 1) := by decide +kernel
theorem dX8_tide_110 : decode cX8_tide 110 = .ok (.ifCond .ge 7, 3) := by decide +kernel
theorem dX8_tide_113 : decode cX8_tide 113 = .ok (.iconst (-1), 1) := by decide +kernel
theorem dX8_tide_114 : decode cX8_tide 114 = .ok (.goto 4, 3) := by decide +kernel
theorem dX8_tide_117 : decode cX8_tide 117 = .ok (.iconst 0, 1) := by decide +kernel
theorem dX8_tide_118 : decode cX8_tide 118 = .ok (.ireturn, 1) := by decide +kernel
theorem dX8_extreme_0 : decode cX8_extreme 0 = .ok (.aload_n 0, 1) := by decide +kernel
theorem dX8_extreme_1 : decode cX8_extreme 1 = .ok (.iconst 0, 1) := by decide +kernel
theorem dX8_extreme_2 : decode cX8_extreme 2 = .ok (.putfield 57, 3) := by decide +kernel
theorem dX8_extreme_5 : decode cX8_extreme 5 = .ok (.iconst (-1), 1) := by decide +kernel
theorem dX8_extreme_6 : decode cX8_extreme 6 = .ok (.istore_n 2, 1) := by decide +kernel
theorem dX8_extreme_7 : decode cX8_extreme 7 = .ok (.aload_n 0, 1) := by decide +kernel
theorem dX8_extreme_8 : decode cX8_extreme 8 = .ok (.invokevirtual 203, 3) := by decide +kernel
theorem dX8_extreme_11 : decode cX8_extreme 11 = .ok (.istore_n 3, 1) := by decide +kernel
theorem dX8_extreme_12 : decode cX8_extreme 12 = .ok (.iload_n 3, 1) := by decide +kernel
theorem dX8_extreme_13 : decode cX8_extreme 13 = .ok (.aload_n 0, 1) := by decide +kernel
theorem dX8_extreme_14 : decode cX8_extreme 14 = .ok (.getfield 7, 3) := by decide +kernel
theorem dX8_extreme_17 : decode cX8_extreme 17 = .ok (.iconst 5, 1) := by decide +kernel
theorem dX8_extreme_18 : decode cX8_extreme 18 = .ok (.iaload, 1) := by decide +kernel
theorem dX8_extreme_19 : decode cX8_extreme 19 = .ok (.if_icmp .ge 81, 3) := by decide +kernel
theorem dX8_extreme_22 : decode cX8_extreme 22 = .ok (.aload_n 0, 1) := by decide +kernel
theorem dX8_extreme_23 : decode cX8_extreme 23 = .ok (.iload_n 3, 1) := by decide +kernel
theorem dX8_extreme_24 : decode cX8_extreme 24 = .ok (.iconst 2, 1) := by decide +kernel
theorem dX8_extreme_25 : decode cX8_extreme 25 = .ok (.invokevirtual 209, 3) := by decide +kernel
theorem dX8_extreme_28 : decode cX8_extreme 28 = .ok (.ifCond .ne 6, 3) := by decide +kernel
theorem dX8_extreme_31 : decode cX8_extreme 31 = .ok (.goto 63, 3) := by decide +kernel
theorem dX8_extreme_34 : decode cX8_extreme 34 = .ok (.iload_n 2, 1) := by decide +kernel
theorem dX8_extreme_35 : decode cX8_extreme 35 = .ok (.iconst (-1), 1) := by decide +kernel
theorem dX8_extreme_36 : decode cX8_extreme 36 = .ok (.if_icmp .eq 40, 3) := by decide +kernel
theorem dX8_extreme_39 : decode cX8_extreme 39 = .ok (.iload_n 1, 1) := by decide +kernel
theorem dX8_extreme_40 : decode cX8_extreme 40 = .ok (.ifCond .eq 21, 3) := by decide +kernel
theorem dX8_extreme_43 : decode cX8_extreme 43 = .ok (.aload_n 0, 1) := by decide +kernel
theorem dX8_extreme_44 : decode cX8_extreme 44 = .ok (.iload_n 3, 1) := by decide +kernel
theorem dX8_extreme_45 : decode cX8_extreme 45 = .ok (.iconst 5, 1) := by decide +kernel
theorem dX8_extreme_46 : decode cX8_extreme 46 = .ok (.invokevirtual 209, 3) := by decide +kernel
theorem dX8_extreme_49 : decode cX8_extreme 49 = .ok (.aload_n 0, 1) := by decide +kernel
theorem dX8_extreme_50 : decode cX8_extreme 50 = .ok (.iload_n 2, 1) := by decide +kernel
theorem dX8_extreme_51 : decode cX8_extreme 51 = .ok (.iconst 5, 1) := by decide +kernel
theorem dX8_extreme_52 : decode cX8_extreme 52 = .ok (.invokevirtual 209, 3) := by decide +kernel
theorem dX8_extreme_55 : decode cX8_extreme 55 = .ok (.if_icmp .ge 25, 3) := by decide +kernel
theorem dX8_extreme_58 : decode cX8_extreme 58 = .ok (.goto 18, 3) := by decide +kernel
theorem dX8_extreme_61 : decode cX8_extreme 61 = .ok (.aload_n 0, 1) := by decide +kernel
theorem dX8_extreme_62 : decode cX8_extreme 62 = .ok (.iload_n 3, 1) := by decide +kernel
theorem dX8_extreme_63 : decode cX8_extreme 63 = .ok (.iconst 5, 1) := by decide +kernel
theorem dX8_extreme_64 : decode cX8_extreme 64 = .ok (.invokevirtual 209, 3) := by decide +kernel
theorem dX8_extreme_67 : decode cX8_extreme 67 = .ok (.aload_n 0, 1) := by decide +kernel
theorem dX8_extreme_68 : decode cX8_extreme 68 = .ok (.iload_n 2, 1) := by decide +kernel
theorem dX8_extreme_69 : decode cX8_extreme 69 = .ok (.iconst 5, 1) := by decide +kernel
theorem dX8_extreme_70 : decode cX8_extreme 70 = .ok (.invokevirtual 209, 3) := by decide +kernel
theorem dX8_extreme_73 : decode cX8_extreme 73 = .ok (.if_icmp .le 7, 3) := by decide +kernel
theorem dX8_extreme_76 : decode cX8_extreme 76 = .ok (.iconst 1, 1) := by decide +kernel
theorem dX8_extreme_77 : decode cX8_extreme 77 = .ok (.goto 4, 3) := by decide +kernel
theorem dX8_extreme_80 : decode cX8_extreme 80 = .ok (.iconst 0, 1) := by decide +kernel
theorem dX8_extreme_81 : decode cX8_extreme 81 = .ok (.istore 4, 2) := by decide +kernel
theorem dX8_extreme_83 : decode cX8_extreme 83 = .ok (.iload 4, 2) := by decide +kernel
theorem dX8_extreme_85 : decode cX8_extreme 85 = .ok (.ifCond .eq 7, 3) := by decide +kernel
theorem dX8_extreme_88 : decode cX8_extreme 88 = .ok (.iload_n 3, 1) := by decide +kernel
theorem dX8_extreme_89 : decode cX8_extreme 89 = .ok (.goto 4, 3) := by decide +kernel
theorem dX8_extreme_92 : decode cX8_extreme 92 = .ok (.iload_n 2, 1) := by decide +kernel
theorem dX8_extreme_93 : decode cX8_extreme 93 = .ok (.istore_n 2, 1) := by decide +kernel
theorem dX8_extreme_94 : decode cX8_extreme 94 = .ok (.iinc 3 1, 3) := by decide +kernel
theorem dX8_extreme_97 : decode cX8_extreme 97 = .ok (.goto (-85), 3) := by decide +kernel
theorem dX8_extreme_100 : decode cX8_extreme 100 = .ok (.iload_n 2, 1) := by decide +kernel
theorem dX8_extreme_101 : decode cX8_extreme 101 = .ok (.ireturn, 1) := by decide +kernel
theorem dX8_meanLevel_0 : decode cX8_meanLevel 0 = .ok (.aload_n 0, 1) := by decide +kernel
theorem dX8_meanLevel_1 : decode cX8_meanLevel 1 = .ok (.iconst 0, 1) := by decide +kernel
theorem dX8_meanLevel_2 : decode cX8_meanLevel 2 = .ok (.putfield 57, 3) := by decide +kernel
theorem dX8_meanLevel_5 : decode cX8_meanLevel 5 = .ok (.iconst 0, 1) := by decide +kernel
theorem dX8_meanLevel_6 : decode cX8_meanLevel 6 = .ok (.istore_n 1, 1) := by decide +kernel
theorem dX8_meanLevel_7 : decode cX8_meanLevel 7 = .ok (.aload_n 0, 1) := by decide +kernel
theorem dX8_meanLevel_8 : decode cX8_meanLevel 8 = .ok (.invokevirtual 203, 3) := by decide +kernel
theorem dX8_meanLevel_11 : decode cX8_meanLevel 11 = .ok (.istore_n 2, 1) := by decide +kernel
theorem dX8_meanLevel_12 : decode cX8_meanLevel 12 = .ok (.iload_n 2, 1) := by decide +kernel
theorem dX8_meanLevel_13 : decode cX8_meanLevel 13 = .ok (.aload_n 0, 1) := by decide +kernel
theorem dX8_meanLevel_14 : decode cX8_meanLevel 14 = .ok (.getfield 7, 3) := by decide +kernel
theorem dX8_meanLevel_17 : decode cX8_meanLevel 17 = .ok (.iconst 5, 1) := by decide +kernel
theorem dX8_meanLevel_18 : decode cX8_meanLevel 18 = .ok (.iaload, 1) := by decide +kernel
theorem dX8_meanLevel_19 : decode cX8_meanLevel 19 = .ok (.if_icmp .ge 32, 3) := by decide +kernel
theorem dX8_meanLevel_22 : decode cX8_meanLevel 22 = .ok (.iload_n 1, 1) := by decide +kernel
theorem dX8_meanLevel_23 : decode cX8_meanLevel 23 = .ok (.aload_n 0, 1) := by decide +kernel
theorem dX8_meanLevel_24 : decode cX8_meanLevel 24 = .ok (.iload_n 2, 1) := by decide +kernel
theorem dX8_meanLevel_25 : decode cX8_meanLevel 25 = .ok (.iconst 2, 1) := by decide +kernel
theorem dX8_meanLevel_26 : decode cX8_meanLevel 26 = .ok (.invokevirtual 209, 3) := by decide +kernel
theorem dX8_meanLevel_29 : decode cX8_meanLevel 29 = .ok (.iconst 1, 1) := by decide +kernel
theorem dX8_meanLevel_30 : decode cX8_meanLevel 30 = .ok (.if_icmp .ne 12, 3) := by decide +kernel
theorem dX8_meanLevel_33 : decode cX8_meanLevel 33 = .ok (.aload_n 0, 1) := by decide +kernel
theorem dX8_meanLevel_34 : decode cX8_meanLevel 34 = .ok (.iload_n 2, 1) := by decide +kernel
theorem dX8_meanLevel_35 : decode cX8_meanLevel 35 = .ok (.iconst 5, 1) := by decide +kernel
theorem dX8_meanLevel_36 : decode cX8_meanLevel 36 = .ok (.invokevirtual 209, 3) := by decide +kernel
theorem dX8_meanLevel_39 : decode cX8_meanLevel 39 = .ok (.goto 4, 3) := by decide +kernel
theorem dX8_meanLevel_42 : decode cX8_meanLevel 42 = .ok (.iconst 0, 1) := by decide +kernel
theorem dX8_meanLevel_43 : decode cX8_meanLevel 43 = .ok (.iadd, 1) := by decide +kernel
theorem dX8_meanLevel_44 : decode cX8_meanLevel 44 = .ok (.istore_n 1, 1) := by decide +kernel
theorem dX8_meanLevel_45 : decode cX8_meanLevel 45 = .ok (.iinc 2 1, 3) := by decide +kernel
theorem dX8_meanLevel_48 : decode cX8_meanLevel 48 = .ok (.goto (-36), 3) := by decide +kernel
theorem dX8_meanLevel_51 : decode cX8_meanLevel 51 = .ok (.aload_n 0, 1) := by decide +kernel
theorem dX8_meanLevel_52 : decode cX8_meanLevel 52 = .ok (.invokevirtual 252, 3) := by decide +kernel
theorem dX8_meanLevel_55 : decode cX8_meanLevel 55 = .ok (.ifCond .ne 7, 3) := by decide +kernel
theorem dX8_meanLevel_58 : decode cX8_meanLevel 58 = .ok (.dconst 0, 1) := by decide +kernel
theorem dX8_meanLevel_59 : decode cX8_meanLevel 59 = .ok (.goto 11, 3) := by decide +kernel
theorem dX8_meanLevel_62 : decode cX8_meanLevel 62 = .ok (.iload_n 1, 1) := by decide +kernel
theorem dX8_meanLevel_63 : decode cX8_meanLevel 63 = .ok (.i2d, 1) := by decide +kernel
theorem dX8_meanLevel_64 : decode cX8_meanLevel 64 = .ok (.aload_n 0, 1) := by decide +kernel
theorem dX8_meanLevel_65 : decode cX8_meanLevel 65 = .ok (.invokevirtual 252, 3) := by decide +kernel
theorem dX8_meanLevel_68 : decode cX8_meanLevel 68 = .ok (.i2d, 1) := by decide +kernel
theorem dX8_meanLevel_69 : decode cX8_meanLevel 69 = .ok (.ddiv, 1) := by decide +kernel
theorem dX8_meanLevel_70 : decode cX8_meanLevel 70 = .ok (.dreturn, 1) := by decide +kernel
theorem dX8_agreement_0 : decode cX8_agreement 0 = .ok (.aload_n 0, 1) := by decide +kernel
theorem dX8_agreement_1 : decode cX8_agreement 1 = .ok (.iconst 0, 1) := by decide +kernel
theorem dX8_agreement_2 : decode cX8_agreement 2 = .ok (.putfield 57, 3) := by decide +kernel
theorem dX8_agreement_5 : decode cX8_agreement 5 = .ok (.aload_n 0, 1) := by decide +kernel
theorem dX8_agreement_6 : decode cX8_agreement 6 = .ok (.iload_n 1, 1) := by decide +kernel
theorem dX8_agreement_7 : decode cX8_agreement 7 = .ok (.invokevirtual 264, 3) := by decide +kernel
theorem dX8_agreement_10 : decode cX8_agreement 10 = .ok (.ifCond .eq 5, 3) := by decide +kernel
theorem dX8_agreement_13 : decode cX8_agreement 13 = .ok (.fconst 0, 1) := by decide +kernel
theorem dX8_agreement_14 : decode cX8_agreement 14 = .ok (.freturn, 1) := by decide +kernel
theorem dX8_agreement_15 : decode cX8_agreement 15 = .ok (.aload_n 0, 1) := by decide +kernel
theorem dX8_agreement_16 : decode cX8_agreement 16 = .ok (.iload_n 1, 1) := by decide +kernel
theorem dX8_agreement_17 : decode cX8_agreement 17 = .ok (.iconst 0, 1) := by decide +kernel
theorem dX8_agreement_18 : decode cX8_agreement 18 = .ok (.invokevirtual 209, 3) := by decide +kernel
theorem dX8_agreement_21 : decode cX8_agreement 21 = .ok (.ifCond .ne 7, 3) := by decide +kernel
theorem dX8_agreement_24 : decode cX8_agreement 24 = .ok (.fconst 0, 1) := by decide +kernel
theorem dX8_agreement_25 : decode cX8_agreement 25 = .ok (.goto 26, 3) := by decide +kernel
theorem dX8_agreement_28 : decode cX8_agreement 28 = .ok (.aload_n 0, 1) := by decide +kernel
theorem dX8_agreement_29 : decode cX8_agreement 29 = .ok (.aload_n 0, 1) := by decide +kernel
theorem dX8_agreement_30 : decode cX8_agreement 30 = .ok (.iload_n 1, 1) := by decide +kernel
theorem dX8_agreement_31 : decode cX8_agreement 31 = .ok (.iconst 1, 1) := by decide +kernel
theorem dX8_agreement_32 : decode cX8_agreement 32 = .ok (.invokevirtual 209, 3) := by decide +kernel
theorem dX8_agreement_35 : decode cX8_agreement 35 = .ok (.invokevirtual 179, 3) := by decide +kernel
theorem dX8_agreement_38 : decode cX8_agreement 38 = .ok (.i2f, 1) := by decide +kernel
theorem dX8_agreement_39 : decode cX8_agreement 39 = .ok (.aload_n 0, 1) := by decide +kernel
theorem dX8_agreement_40 : decode cX8_agreement 40 = .ok (.aload_n 0, 1) := by decide +kernel
theorem dX8_agreement_41 : decode cX8_agreement 41 = .ok (.iload_n 1, 1) := by decide +kernel
theorem dX8_agreement_42 : decode cX8_agreement 42 = .ok (.iconst 0, 1) := by decide +kernel
theorem dX8_agreement_43 : decode cX8_agreement 43 = .ok (.invokevirtual 209, 3) := by decide +kernel
theorem dX8_agreement_46 : decode cX8_agreement 46 = .ok (.invokevirtual 179, 3) := by decide +kernel
theorem dX8_agreement_49 : decode cX8_agreement 49 = .ok (.i2f, 1) := by decide +kernel
theorem dX8_agreement_50 : decode cX8_agreement 50 = .ok (.fdiv, 1) := by decide +kernel
theorem dX8_agreement_51 : decode cX8_agreement 51 = .ok (.freturn, 1) := by decide +kernel
theorem dX8_levelNow_0 : decode cX8_levelNow 0 = .ok (.aload_n 0, 1) := by decide +kernel
theorem dX8_levelNow_1 : decode cX8_levelNow 1 = .ok (.iconst 0, 1) := by decide +kernel
theorem dX8_levelNow_2 : decode cX8_levelNow 2 = .ok (.putfield 57, 3) := by decide +kernel
theorem dX8_levelNow_5 : decode cX8_levelNow 5 = .ok (.aload_n 0, 1) := by decide +kernel
theorem dX8_levelNow_6 : decode cX8_levelNow 6 = .ok (.aload_n 0, 1) := by decide +kernel
theorem dX8_levelNow_7 : decode cX8_levelNow 7 = .ok (.iconst 0, 1) := by decide +kernel
theorem dX8_levelNow_8 : decode cX8_levelNow 8 = .ok (.invokevirtual 225, 3) := by decide +kernel
theorem dX8_levelNow_11 : decode cX8_levelNow 11 = .ok (.invokevirtual 219, 3) := by decide +kernel
theorem dX8_levelNow_14 : decode cX8_levelNow 14 = .ok (.aload_n 0, 1) := by decide +kernel
theorem dX8_levelNow_15 : decode cX8_levelNow 15 = .ok (.aload_n 0, 1) := by decide +kernel
theorem dX8_levelNow_16 : decode cX8_levelNow 16 = .ok (.getfield 185, 3) := by decide +kernel
theorem dX8_levelNow_19 : decode cX8_levelNow 19 = .ok (.ifCond .ne 7, 3) := by decide +kernel
theorem dX8_levelNow_22 : decode cX8_levelNow 22 = .ok (.iconst 1, 1) := by decide +kernel
theorem dX8_levelNow_23 : decode cX8_levelNow 23 = .ok (.goto 4, 3) := by decide +kernel
theorem dX8_levelNow_26 : decode cX8_levelNow 26 = .ok (.iconst 0, 1) := by decide +kernel
theorem dX8_levelNow_27 : decode cX8_levelNow 27 = .ok (.iconst 1, 1) := by decide +kernel
theorem dX8_levelNow_28 : decode cX8_levelNow 28 = .ok (.invokevirtual 64, 3) := by decide +kernel
theorem dX8_levelNow_31 : decode cX8_levelNow 31 = .ok (.ifCond .eq 7, 3) := by decide +kernel
theorem dX8_levelNow_34 : decode cX8_levelNow 34 = .ok (.iconst 0, 1) := by decide +kernel
theorem dX8_levelNow_35 : decode cX8_levelNow 35 = .ok (.goto 7, 3) := by decide +kernel
theorem dX8_levelNow_38 : decode cX8_levelNow 38 = .ok (.aload_n 0, 1) := by decide +kernel
theorem dX8_levelNow_39 : decode cX8_levelNow 39 = .ok (.getfield 189, 3) := by decide +kernel
theorem dX8_levelNow_42 : decode cX8_levelNow 42 = .ok (.ireturn, 1) := by decide +kernel
theorem dX8_levelWithout_0 : decode cX8_levelWithout 0 = .ok (.aload_n 0, 1) := by decide +kernel
theorem dX8_levelWithout_1 : decode cX8_levelWithout 1 = .ok (.iconst 0, 1) := by decide +kernel
theorem dX8_levelWithout_2 : decode cX8_levelWithout 2 = .ok (.putfield 57, 3) := by decide +kernel
theorem dX8_levelWithout_5 : decode cX8_levelWithout 5 = .ok (.aload_n 0, 1) := by decide +kernel
theorem dX8_levelWithout_6 : decode cX8_levelWithout 6 = .ok (.iload_n 1, 1) := by decide +kernel
theorem dX8_levelWithout_7 : decode cX8_levelWithout 7 = .ok (.invokevirtual 264, 3) := by decide +kernel
theorem dX8_levelWithout_10 : decode cX8_levelWithout 10 = .ok (.ifCond .eq 5, 3) := by decide +kernel
theorem dX8_levelWithout_13 : decode cX8_levelWithout 13 = .ok (.iconst 0, 1) := by decide +kernel
theorem dX8_levelWithout_14 : decode cX8_levelWithout 14 = .ok (.ireturn, 1) := by decide +kernel
theorem dX8_levelWithout_15 : decode cX8_levelWithout 15 = .ok (.aload_n 0, 1) := by decide +kernel
theorem dX8_levelWithout_16 : decode cX8_levelWithout 16 = .ok (.iload_n 1, 1) := by decide +kernel
theorem dX8_levelWithout_17 : decode cX8_levelWithout 17 = .ok (.invokevirtual 216, 3) := by decide +kernel
theorem dX8_levelWithout_20 : decode cX8_levelWithout 20 = .ok (.aload_n 0, 1) := by decide +kernel
theorem dX8_levelWithout_21 : decode cX8_levelWithout 21 = .ok (.aload_n 0, 1) := by decide +kernel
theorem dX8_levelWithout_22 : decode cX8_levelWithout 22 = .ok (.iload_n 1, 1) := by decide +kernel
theorem dX8_levelWithout_23 : decode cX8_levelWithout 23 = .ok (.iconst 0, 1) := by decide +kernel
theorem dX8_levelWithout_24 : decode cX8_levelWithout 24 = .ok (.invokevirtual 209, 3) := by decide +kernel
theorem dX8_levelWithout_27 : decode cX8_levelWithout 27 = .ok (.iload_n 2, 1) := by decide +kernel
theorem dX8_levelWithout_28 : decode cX8_levelWithout 28 = .ok (.iconst (-1), 1) := by decide +kernel
theorem dX8_levelWithout_29 : decode cX8_levelWithout 29 = .ok (.ixor, 1) := by decide +kernel
theorem dX8_levelWithout_30 : decode cX8_levelWithout 30 = .ok (.iand, 1) := by decide +kernel
theorem dX8_levelWithout_31 : decode cX8_levelWithout 31 = .ok (.invokevirtual 219, 3) := by decide +kernel
theorem dX8_levelWithout_34 : decode cX8_levelWithout 34 = .ok (.aload_n 0, 1) := by decide +kernel
theorem dX8_levelWithout_35 : decode cX8_levelWithout 35 = .ok (.aload_n 0, 1) := by decide +kernel
theorem dX8_levelWithout_36 : decode cX8_levelWithout 36 = .ok (.getfield 185, 3) := by decide +kernel
theorem dX8_levelWithout_39 : decode cX8_levelWithout 39 = .ok (.ifCond .ne 7, 3) := by decide +kernel
theorem dX8_levelWithout_42 : decode cX8_levelWithout 42 = .ok (.iconst 1, 1) := by decide +kernel
theorem dX8_levelWithout_43 : decode cX8_levelWithout 43 = .ok (.goto 4, 3) := by decide +kernel
theorem dX8_levelWithout_46 : decode cX8_levelWithout 46 = .ok (.iconst 0, 1) := by decide +kernel
theorem dX8_levelWithout_47 : decode cX8_levelWithout 47 = .ok (.iconst 2, 1) := by decide +kernel
theorem dX8_levelWithout_48 : decode cX8_levelWithout 48 = .ok (.invokevirtual 64, 3) := by decide +kernel
theorem dX8_levelWithout_51 : decode cX8_levelWithout 51 = .ok (.ifCond .eq 7, 3) := by decide +kernel
theorem dX8_levelWithout_54 : decode cX8_levelWithout 54 = .ok (.iconst 0, 1) := by decide +kernel
theorem dX8_levelWithout_55 : decode cX8_levelWithout 55 = .ok (.goto 7, 3) := by decide +kernel
theorem dX8_levelWithout_58 : decode cX8_levelWithout 58 = .ok (.aload_n 0, 1) := by decide +kernel
theorem dX8_levelWithout_59 : decode cX8_levelWithout 59 = .ok (.getfield 189, 3) := by decide +kernel
theorem dX8_levelWithout_62 : decode cX8_levelWithout 62 = .ok (.ireturn, 1) := by decide +kernel
theorem dX8_needed_0 : decode cX8_needed 0 = .ok (.aload_n 0, 1) := by decide +kernel
theorem dX8_needed_1 : decode cX8_needed 1 = .ok (.iconst 0, 1) := by decide +kernel
theorem dX8_needed_2 : decode cX8_needed 2 = .ok (.putfield 57, 3) := by decide +kernel
theorem dX8_needed_5 : decode cX8_needed 5 = .ok (.aload_n 0, 1) := by decide +kernel
theorem dX8_needed_6 : decode cX8_needed 6 = .ok (.iload_n 1, 1) := by decide +kernel
theorem dX8_needed_7 : decode cX8_needed 7 = .ok (.invokevirtual 264, 3) := by decide +kernel
theorem dX8_needed_10 : decode cX8_needed 10 = .ok (.ifCond .eq 5, 3) := by decide +kernel
theorem dX8_needed_13 : decode cX8_needed 13 = .ok (.iconst 0, 1) := by decide +kernel
theorem dX8_needed_14 : decode cX8_needed 14 = .ok (.ireturn, 1) := by decide +kernel
theorem dX8_needed_15 : decode cX8_needed 15 = .ok (.iconst 0, 1) := by decide +kernel
theorem dX8_needed_16 : decode cX8_needed 16 = .ok (.istore_n 2, 1) := by decide +kernel
theorem dX8_needed_17 : decode cX8_needed 17 = .ok (.aload_n 0, 1) := by decide +kernel
theorem dX8_needed_18 : decode cX8_needed 18 = .ok (.iload_n 1, 1) := by decide +kernel
theorem dX8_needed_19 : decode cX8_needed 19 = .ok (.invokevirtual 216, 3) := by decide +kernel
theorem dX8_needed_22 : decode cX8_needed 22 = .ok (.iconst 0, 1) := by decide +kernel
theorem dX8_needed_23 : decode cX8_needed 23 = .ok (.istore_n 3, 1) := by decide +kernel
theorem dX8_needed_24 : decode cX8_needed 24 = .ok (.iload_n 3, 1) := by decide +kernel
theorem dX8_needed_25 : decode cX8_needed 25 = .ok (.aload_n 0, 1) := by decide +kernel
theorem dX8_needed_26 : decode cX8_needed 26 = .ok (.getfield 7, 3) := by decide +kernel
theorem dX8_needed_29 : decode cX8_needed 29 = .ok (.iconst 0, 1) := by decide +kernel
theorem dX8_needed_30 : decode cX8_needed 30 = .ok (.iaload, 1) := by decide +kernel
theorem dX8_needed_31 : decode cX8_needed 31 = .ok (.if_icmp .ge 55, 3) := by decide +kernel
theorem dX8_needed_34 : decode cX8_needed 34 = .ok (.aload_n 0, 1) := by decide +kernel
theorem dX8_needed_35 : decode cX8_needed 35 = .ok (.iload_n 1, 1) := by decide +kernel
theorem dX8_needed_36 : decode cX8_needed 36 = .ok (.iconst 0, 1) := by decide +kernel
theorem dX8_needed_37 : decode cX8_needed 37 = .ok (.invokevirtual 209, 3) := by decide +kernel
theorem dX8_needed_40 : decode cX8_needed 40 = .ok (.iload_n 3, 1) := by decide +kernel
theorem dX8_needed_41 : decode cX8_needed 41 = .ok (.invokestatic 176, 3) := by decide +kernel
theorem dX8_needed_44 : decode cX8_needed 44 = .ok (.ifCond .eq 36, 3) := by decide +kernel
theorem dX8_needed_47 : decode cX8_needed 47 = .ok (.aload_n 0, 1) := by decide +kernel
theorem dX8_needed_48 : decode cX8_needed 48 = .ok (.aload_n 0, 1) := by decide +kernel
theorem dX8_needed_49 : decode cX8_needed 49 = .ok (.iload_n 1, 1) := by decide +kernel
theorem dX8_needed_50 : decode cX8_needed 50 = .ok (.iconst 0, 1) := by decide +kernel
theorem dX8_needed_51 : decode cX8_needed 51 = .ok (.invokevirtual 209, 3) := by decide +kernel
theorem dX8_needed_54 : decode cX8_needed 54 = .ok (.iconst 1, 1) := by decide +kernel
theorem dX8_needed_55 : decode cX8_needed 55 = .ok (.iload_n 3, 1) := by decide +kernel
theorem dX8_needed_56 : decode cX8_needed 56 = .ok (.ishl, 1) := by decide +kernel
theorem dX8_needed_57 : decode cX8_needed 57 = .ok (.iconst (-1), 1) := by decide +kernel
theorem dX8_needed_58 : decode cX8_needed 58 = .ok (.ixor, 1) := by decide +kernel
theorem dX8_needed_59 : decode cX8_needed 59 = .ok (.iand, 1) := by decide +kernel
theorem dX8_needed_60 : decode cX8_needed 60 = .ok (.invokevirtual 219, 3) := by decide +kernel
theorem dX8_needed_63 : decode cX8_needed 63 = .ok (.iload_n 2, 1) := by decide +kernel
theorem dX8_needed_64 : decode cX8_needed 64 = .ok (.aload_n 0, 1) := by decide +kernel
theorem dX8_needed_65 : decode cX8_needed 65 = .ok (.getfield 185, 3) := by decide +kernel
theorem dX8_needed_68 : decode cX8_needed 68 = .ok (.ifCond .eq 7, 3) := by decide +kernel
theorem dX8_needed_71 : decode cX8_needed 71 = .ok (.iconst 0, 1) := by decide +kernel
theorem dX8_needed_72 : decode cX8_needed 72 = .ok (.goto 6, 3) := by decide +kernel
theorem dX8_needed_75 : decode cX8_needed 75 = .ok (.iconst 1, 1) := by decide +kernel
theorem dX8_needed_76 : decode cX8_needed 76 = .ok (.iload_n 3, 1) := by decide +kernel
theorem dX8_needed_77 : decode cX8_needed 77 = .ok (.ishl, 1) := by decide +kernel
theorem dX8_needed_78 : decode cX8_needed 78 = .ok (.ior, 1) := by decide +kernel
theorem dX8_needed_79 : decode cX8_needed 79 = .ok (.istore_n 2, 1) := by decide +kernel
theorem dX8_needed_80 : decode cX8_needed 80 = .ok (.iinc 3 1, 3) := by decide +kernel
theorem dX8_needed_83 : decode cX8_needed 83 = .ok (.goto (-59), 3) := by decide +kernel
theorem dX8_needed_86 : decode cX8_needed 86 = .ok (.iload_n 2, 1) := by decide +kernel
theorem dX8_needed_87 : decode cX8_needed 87 = .ok (.ireturn, 1) := by decide +kernel
theorem dX8_lastOf_0 : decode cX8_lastOf 0 = .ok (.iload_n 1, 1) := by decide +kernel
theorem dX8_lastOf_1 : decode cX8_lastOf 1 = .ok (.istore_n 3, 1) := by decide +kernel
theorem dX8_lastOf_2 : decode cX8_lastOf 2 = .ok (.iload_n 3, 1) := by decide +kernel
theorem dX8_lastOf_3 : decode cX8_lastOf 3 = .ok (.iconst 1, 1) := by decide +kernel
theorem dX8_lastOf_4 : decode cX8_lastOf 4 = .ok (.iadd, 1) := by decide +kernel
theorem dX8_lastOf_5 : decode cX8_lastOf 5 = .ok (.aload_n 0, 1) := by decide +kernel
theorem dX8_lastOf_6 : decode cX8_lastOf 6 = .ok (.getfield 7, 3) := by decide +kernel
theorem dX8_lastOf_9 : decode cX8_lastOf 9 = .ok (.iconst 0, 1) := by decide +kernel
theorem dX8_lastOf_10 : decode cX8_lastOf 10 = .ok (.iaload, 1) := by decide +kernel
theorem dX8_lastOf_11 : decode cX8_lastOf 11 = .ok (.if_icmp .ge 17, 3) := by decide +kernel
theorem dX8_lastOf_14 : decode cX8_lastOf 14 = .ok (.iload_n 2, 1) := by decide +kernel
theorem dX8_lastOf_15 : decode cX8_lastOf 15 = .ok (.iload_n 3, 1) := by decide +kernel
theorem dX8_lastOf_16 : decode cX8_lastOf 16 = .ok (.invokestatic 176, 3) := by decide +kernel
theorem dX8_lastOf_19 : decode cX8_lastOf 19 = .ok (.ifCond .ne 9, 3) := by decide +kernel
theorem dX8_lastOf_22 : decode cX8_lastOf 22 = .ok (.iinc 3 1, 3) := by decide +kernel
theorem dX8_lastOf_25 : decode cX8_lastOf 25 = .ok (.goto (-23), 3) := by decide +kernel
theorem dX8_lastOf_28 : decode cX8_lastOf 28 = .ok (.iload_n 3, 1) := by decide +kernel
theorem dX8_lastOf_29 : decode cX8_lastOf 29 = .ok (.ireturn, 1) := by decide +kernel
theorem dX8_setOf_0 : decode cX8_setOf 0 = .ok (.iconst 1, 1) := by decide +kernel
theorem dX8_setOf_1 : decode cX8_setOf 1 = .ok (.iload_n 1, 1) := by decide +kernel
theorem dX8_setOf_2 : decode cX8_setOf 2 = .ok (.iconst 1, 1) := by decide +kernel
theorem dX8_setOf_3 : decode cX8_setOf 3 = .ok (.iadd, 1) := by decide +kernel
theorem dX8_setOf_4 : decode cX8_setOf 4 = .ok (.ishl, 1) := by decide +kernel
theorem dX8_setOf_5 : decode cX8_setOf 5 = .ok (.iconst 1, 1) := by decide +kernel
theorem dX8_setOf_6 : decode cX8_setOf 6 = .ok (.iload_n 0, 1) := by decide +kernel
theorem dX8_setOf_7 : decode cX8_setOf 7 = .ok (.ishl, 1) := by decide +kernel
theorem dX8_setOf_8 : decode cX8_setOf 8 = .ok (.isub, 1) := by decide +kernel
theorem dX8_setOf_9 : decode cX8_setOf 9 = .ok (.ireturn, 1) := by decide +kernel
theorem dX8_holds_0 : decode cX8_holds 0 = .ok (.iconst 0, 1) := by decide +kernel
theorem dX8_holds_1 : decode cX8_holds 1 = .ok (.istore_n 3, 1) := by decide +kernel
theorem dX8_holds_2 : decode cX8_holds 2 = .ok (.iload_n 1, 1) := by decide +kernel
theorem dX8_holds_3 : decode cX8_holds 3 = .ok (.istore 4, 2) := by decide +kernel
theorem dX8_holds_5 : decode cX8_holds 5 = .ok (.iload 4, 2) := by decide +kernel
theorem dX8_holds_7 : decode cX8_holds 7 = .ok (.iload_n 2, 1) := by decide +kernel
theorem dX8_holds_8 : decode cX8_holds 8 = .ok (.if_icmp .gt 22, 3) := by decide +kernel
theorem dX8_holds_11 : decode cX8_holds 11 = .ok (.iload_n 3, 1) := by decide +kernel
theorem dX8_holds_12 : decode cX8_holds 12 = .ok (.aload_n 0, 1) := by decide +kernel
theorem dX8_holds_13 : decode cX8_holds 13 = .ok (.getfield 7, 3) := by decide +kernel
theorem dX8_holds_16 : decode cX8_holds 16 = .ok (.bipush 32, 2) := by decide +kernel
theorem dX8_holds_18 : decode cX8_holds 18 = .ok (.iload 4, 2) := by decide +kernel
theorem dX8_holds_20 : decode cX8_holds 20 = .ok (.iadd, 1) := by decide +kernel
theorem dX8_holds_21 : decode cX8_holds 21 = .ok (.iaload, 1) := by decide +kernel
theorem dX8_holds_22 : decode cX8_holds 22 = .ok (.iadd, 1) := by decide +kernel
theorem dX8_holds_23 : decode cX8_holds 23 = .ok (.istore_n 3, 1) := by decide +kernel
theorem dX8_holds_24 : decode cX8_holds 24 = .ok (.iinc 4 1, 3) := by decide +kernel
theorem dX8_holds_27 : decode cX8_holds 27 = .ok (.goto (-22), 3) := by decide +kernel
theorem dX8_holds_30 : decode cX8_holds 30 = .ok (.iload_n 3, 1) := by decide +kernel
theorem dX8_holds_31 : decode cX8_holds 31 = .ok (.ireturn, 1) := by decide +kernel
theorem dX8_segments_0 : decode cX8_segments 0 = .ok (.aload_n 0, 1) := by decide +kernel
theorem dX8_segments_1 : decode cX8_segments 1 = .ok (.iconst 0, 1) := by decide +kernel
theorem dX8_segments_2 : decode cX8_segments 2 = .ok (.putfield 57, 3) := by decide +kernel
theorem dX8_segments_5 : decode cX8_segments 5 = .ok (.aload_n 0, 1) := by decide +kernel
theorem dX8_segments_6 : decode cX8_segments 6 = .ok (.invokevirtual 249, 3) := by decide +kernel
theorem dX8_segments_9 : decode cX8_segments 9 = .ok (.invokestatic 243, 3) := by decide +kernel
theorem dX8_segments_12 : decode cX8_segments 12 = .ok (.iconst 1, 1) := by decide +kernel
theorem dX8_segments_13 : decode cX8_segments 13 = .ok (.iadd, 1) := by decide +kernel
theorem dX8_segments_14 : decode cX8_segments 14 = .ok (.ireturn, 1) := by decide +kernel
theorem dX8_segmentOf_0 : decode cX8_segmentOf 0 = .ok (.aload_n 0, 1) := by decide +kernel
theorem dX8_segmentOf_1 : decode cX8_segmentOf 1 = .ok (.iconst 0, 1) := by decide +kernel
theorem dX8_segmentOf_2 : decode cX8_segmentOf 2 = .ok (.putfield 57, 3) := by decide +kernel
theorem dX8_segmentOf_5 : decode cX8_segmentOf 5 = .ok (.aload_n 0, 1) := by decide +kernel
theorem dX8_segmentOf_6 : decode cX8_segmentOf 6 = .ok (.iload_n 1, 1) := by decide +kernel
theorem dX8_segmentOf_7 : decode cX8_segmentOf 7 = .ok (.invokevirtual 255, 3) := by decide +kernel
theorem dX8_segmentOf_10 : decode cX8_segmentOf 10 = .ok (.ifCond .eq 5, 3) := by decide +kernel
theorem dX8_segmentOf_13 : decode cX8_segmentOf 13 = .ok (.iconst 0, 1) := by decide +kernel
theorem dX8_segmentOf_14 : decode cX8_segmentOf 14 = .ok (.ireturn, 1) := by decide +kernel
theorem dX8_segmentOf_15 : decode cX8_segmentOf 15 = .ok (.iload_n 1, 1) := by decide +kernel
theorem dX8_segmentOf_16 : decode cX8_segmentOf 16 = .ok (.istore_n 2, 1) := by decide +kernel
theorem dX8_segmentOf_17 : decode cX8_segmentOf 17 = .ok (.iload_n 2, 1) := by decide +kernel
theorem dX8_segmentOf_18 : decode cX8_segmentOf 18 = .ok (.ifCond .le 24, 3) := by decide +kernel
theorem dX8_segmentOf_21 : decode cX8_segmentOf 21 = .ok (.aload_n 0, 1) := by decide +kernel
theorem dX8_segmentOf_22 : decode cX8_segmentOf 22 = .ok (.getfield 7, 3) := by decide +kernel
theorem dX8_segmentOf_25 : decode cX8_segmentOf 25 = .ok (.sipush 132, 3) := by decide +kernel
theorem dX8_segmentOf_28 : decode cX8_segmentOf 28 = .ok (.iload_n 2, 1) := by decide +kernel
theorem dX8_segmentOf_29 : decode cX8_segmentOf 29 = .ok (.iadd, 1) := by decide +kernel
theorem dX8_segmentOf_30 : decode cX8_segmentOf 30 = .ok (.iconst 1, 1) := by decide +kernel
theorem dX8_segmentOf_31 : decode cX8_segmentOf 31 = .ok (.isub, 1) := by decide +kernel
theorem dX8_segmentOf_32 : decode cX8_segmentOf 32 = .ok (.iaload, 1) := by decide +kernel
theorem dX8_segmentOf_33 : decode cX8_segmentOf 33 = .ok (.ifCond .ne 9, 3) := by decide +kernel
theorem dX8_segmentOf_36 : decode cX8_segmentOf 36 = .ok (.iinc 2 (-1), 3) := by decide +kernel
theorem dX8_segmentOf_39 : decode cX8_segmentOf 39 = .ok (.goto (-22), 3) := by decide +kernel
theorem dX8_segmentOf_42 : decode cX8_segmentOf 42 = .ok (.iload_n 2, 1) := by decide +kernel
theorem dX8_segmentOf_43 : decode cX8_segmentOf 43 = .ok (.aload_n 0, 1) := by decide +kernel
theorem dX8_segmentOf_44 : decode cX8_segmentOf 44 = .ok (.iload_n 1, 1) := by decide +kernel
theorem dX8_segmentOf_45 : decode cX8_segmentOf 45 = .ok (.aload_n 0, 1) := by decide +kernel
theorem dX8_segmentOf_46 : decode cX8_segmentOf 46 = .ok (.invokevirtual 249, 3) := by decide +kernel
theorem dX8_segmentOf_49 : decode cX8_segmentOf 49 = .ok (.invokevirtual 267, 3) := by decide +kernel
theorem dX8_segmentOf_52 : decode cX8_segmentOf 52 = .ok (.invokestatic 270, 3) := by decide +kernel
theorem dX8_segmentOf_55 : decode cX8_segmentOf 55 = .ok (.ireturn, 1) := by decide +kernel
theorem dX8_weakest_0 : decode cX8_weakest 0 = .ok (.aload_n 0, 1) := by decide +kernel
theorem dX8_weakest_1 : decode cX8_weakest 1 = .ok (.iconst 0, 1) := by decide +kernel
theorem dX8_weakest_2 : decode cX8_weakest 2 = .ok (.putfield 57, 3) := by decide +kernel
theorem dX8_weakest_5 : decode cX8_weakest 5 = .ok (.iconst (-1), 1) := by decide +kernel
theorem dX8_weakest_6 : decode cX8_weakest 6 = .ok (.istore_n 1, 1) := by decide +kernel
theorem dX8_weakest_7 : decode cX8_weakest 7 = .ok (.iconst 0, 1) := by decide +kernel
theorem dX8_weakest_8 : decode cX8_weakest 8 = .ok (.istore_n 2, 1) := by decide +kernel
theorem dX8_weakest_9 : decode cX8_weakest 9 = .ok (.iload_n 2, 1) := by decide +kernel
theorem dX8_weakest_10 : decode cX8_weakest 10 = .ok (.iconst 1, 1) := by decide +kernel
theorem dX8_weakest_11 : decode cX8_weakest 11 = .ok (.iadd, 1) := by decide +kernel
theorem dX8_weakest_12 : decode cX8_weakest 12 = .ok (.aload_n 0, 1) := by decide +kernel
theorem dX8_weakest_13 : decode cX8_weakest 13 = .ok (.getfield 7, 3) := by decide +kernel
theorem dX8_weakest_16 : decode cX8_weakest 16 = .ok (.iconst 0, 1) := by decide +kernel
theorem dX8_weakest_17 : decode cX8_weakest 17 = .ok (.iaload, 1) := by decide +kernel
theorem dX8_weakest_18 : decode cX8_weakest 18 = .ok (.if_icmp .ge 70, 3) := by decide +kernel
theorem dX8_weakest_21 : decode cX8_weakest 21 = .ok (.aload_n 0, 1) := by decide +kernel
theorem dX8_weakest_22 : decode cX8_weakest 22 = .ok (.getfield 7, 3) := by decide +kernel
theorem dX8_weakest_25 : decode cX8_weakest 25 = .ok (.sipush 132, 3) := by decide +kernel
theorem dX8_weakest_28 : decode cX8_weakest 28 = .ok (.iload_n 2, 1) := by decide +kernel
theorem dX8_weakest_29 : decode cX8_weakest 29 = .ok (.iadd, 1) := by decide +kernel
theorem dX8_weakest_30 : decode cX8_weakest 30 = .ok (.iaload, 1) := by decide +kernel
theorem dX8_weakest_31 : decode cX8_weakest 31 = .ok (.ifCond .ne 51, 3) := by decide +kernel
theorem dX8_weakest_34 : decode cX8_weakest 34 = .ok (.iload_n 1, 1) := by decide +kernel
theorem dX8_weakest_35 : decode cX8_weakest 35 = .ok (.iconst (-1), 1) := by decide +kernel
theorem dX8_weakest_36 : decode cX8_weakest 36 = .ok (.if_icmp .eq 44, 3) := by decide +kernel
theorem dX8_weakest_39 : decode cX8_weakest 39 = .ok (.aload_n 0, 1) := by decide +kernel
theorem dX8_weakest_40 : decode cX8_weakest 40 = .ok (.getfield 7, 3) := by decide +kernel
theorem dX8_weakest_43 : decode cX8_weakest 43 = .ok (.bipush 112, 2) := by decide +kernel
theorem dX8_weakest_45 : decode cX8_weakest 45 = .ok (.iload_n 2, 1) := by decide +kernel
theorem dX8_weakest_46 : decode cX8_weakest 46 = .ok (.iadd, 1) := by decide +kernel
theorem dX8_weakest_47 : decode cX8_weakest 47 = .ok (.iaload, 1) := by decide +kernel
theorem dX8_weakest_48 : decode cX8_weakest 48 = .ok (.aload_n 0, 1) := by decide +kernel
theorem dX8_weakest_49 : decode cX8_weakest 49 = .ok (.getfield 7, 3) := by decide +kernel
theorem dX8_weakest_52 : decode cX8_weakest 52 = .ok (.bipush 122, 2) := by decide +kernel
theorem dX8_weakest_54 : decode cX8_weakest 54 = .ok (.iload_n 2, 1) := by decide +kernel
theorem dX8_weakest_55 : decode cX8_weakest 55 = .ok (.iadd, 1) := by decide +kernel
theorem dX8_weakest_56 : decode cX8_weakest 56 = .ok (.iaload, 1) := by decide +kernel
theorem dX8_weakest_57 : decode cX8_weakest 57 = .ok (.isub, 1) := by decide +kernel
theorem dX8_weakest_58 : decode cX8_weakest 58 = .ok (.aload_n 0, 1) := by decide +kernel
theorem dX8_weakest_59 : decode cX8_weakest 59 = .ok (.getfield 7, 3) := by decide +kernel
theorem dX8_weakest_62 : decode cX8_weakest 62 = .ok (.bipush 112, 2) := by decide +kernel
theorem dX8_weakest_64 : decode cX8_weakest 64 = .ok (.iload_n 1, 1) := by decide +kernel
theorem dX8_weakest_65 : decode cX8_weakest 65 = .ok (.iadd, 1) := by decide +kernel
theorem dX8_weakest_66 : decode cX8_weakest 66 = .ok (.iaload, 1) := by decide +kernel
theorem dX8_weakest_67 : decode cX8_weakest 67 = .ok (.aload_n 0, 1) := by decide +kernel
theorem dX8_weakest_68 : decode cX8_weakest 68 = .ok (.getfield 7, 3) := by decide +kernel
theorem dX8_weakest_71 : decode cX8_weakest 71 = .ok (.bipush 122, 2) := by decide +kernel
theorem dX8_weakest_73 : decode cX8_weakest 73 = .ok (.iload_n 1, 1) := by decide +kernel
theorem dX8_weakest_74 : decode cX8_weakest 74 = .ok (.iadd, 1) := by decide +kernel
theorem dX8_weakest_75 : decode cX8_weakest 75 = .ok (.iaload, 1) := by decide +kernel
theorem dX8_weakest_76 : decode cX8_weakest 76 = .ok (.isub, 1) := by decide +kernel
theorem dX8_weakest_77 : decode cX8_weakest 77 = .ok (.if_icmp .ge 5, 3) := by decide +kernel
theorem dX8_weakest_80 : decode cX8_weakest 80 = .ok (.iload_n 2, 1) := by decide +kernel
theorem dX8_weakest_81 : decode cX8_weakest 81 = .ok (.istore_n 1, 1) := by decide +kernel
theorem dX8_weakest_82 : decode cX8_weakest 82 = .ok (.iinc 2 1, 3) := by decide +kernel
theorem dX8_weakest_85 : decode cX8_weakest 85 = .ok (.goto (-76), 3) := by decide +kernel
theorem dX8_weakest_88 : decode cX8_weakest 88 = .ok (.iload_n 1, 1) := by decide +kernel
theorem dX8_weakest_89 : decode cX8_weakest 89 = .ok (.ireturn, 1) := by decide +kernel
theorem dX8_breaks_0 : decode cX8_breaks 0 = .ok (.iconst 0, 1) := by decide +kernel
theorem dX8_breaks_1 : decode cX8_breaks 1 = .ok (.istore 4, 2) := by decide +kernel
theorem dX8_breaks_3 : decode cX8_breaks 3 = .ok (.iload_n 2, 1) := by decide +kernel
theorem dX8_breaks_4 : decode cX8_breaks 4 = .ok (.istore 5, 2) := by decide +kernel
theorem dX8_breaks_6 : decode cX8_breaks 6 = .ok (.iload 5, 2) := by decide +kernel
theorem dX8_breaks_8 : decode cX8_breaks 8 = .ok (.iload_n 3, 1) := by decide +kernel
theorem dX8_breaks_9 : decode cX8_breaks 9 = .ok (.if_icmp .ge 61, 3) := by decide +kernel
theorem dX8_breaks_12 : decode cX8_breaks 12 = .ok (.iload 4, 2) := by decide +kernel
theorem dX8_breaks_14 : decode cX8_breaks 14 = .ok (.aload_n 0, 1) := by decide +kernel
theorem dX8_breaks_15 : decode cX8_breaks 15 = .ok (.getfield 7, 3) := by decide +kernel
theorem dX8_breaks_18 : decode cX8_breaks 18 = .ok (.sipush 132, 3) := by decide +kernel
theorem dX8_breaks_21 : decode cX8_breaks 21 = .ok (.iload 5, 2) := by decide +kernel
theorem dX8_breaks_23 : decode cX8_breaks 23 = .ok (.iadd, 1) := by decide +kernel
theorem dX8_breaks_24 : decode cX8_breaks 24 = .ok (.iaload, 1) := by decide +kernel
theorem dX8_breaks_25 : decode cX8_breaks 25 = .ok (.ifCond .ne 35, 3) := by decide +kernel
theorem dX8_breaks_28 : decode cX8_breaks 28 = .ok (.aload_n 0, 1) := by decide +kernel
theorem dX8_breaks_29 : decode cX8_breaks 29 = .ok (.getfield 7, 3) := by decide +kernel
theorem dX8_breaks_32 : decode cX8_breaks 32 = .ok (.bipush 122, 2) := by decide +kernel
theorem dX8_breaks_34 : decode cX8_breaks 34 = .ok (.iload 5, 2) := by decide +kernel
theorem dX8_breaks_36 : decode cX8_breaks 36 = .ok (.iadd, 1) := by decide +kernel
theorem dX8_breaks_37 : decode cX8_breaks 37 = .ok (.iaload, 1) := by decide +kernel
theorem dX8_breaks_38 : decode cX8_breaks 38 = .ok (.iload_n 1, 1) := by decide +kernel
theorem dX8_breaks_39 : decode cX8_breaks 39 = .ok (.iadd, 1) := by decide +kernel
theorem dX8_breaks_40 : decode cX8_breaks 40 = .ok (.aload_n 0, 1) := by decide +kernel
theorem dX8_breaks_41 : decode cX8_breaks 41 = .ok (.getfield 7, 3) := by decide +kernel
theorem dX8_breaks_44 : decode cX8_breaks 44 = .ok (.bipush 112, 2) := by decide +kernel
theorem dX8_breaks_46 : decode cX8_breaks 46 = .ok (.iload 5, 2) := by decide +kernel
theorem dX8_breaks_48 : decode cX8_breaks 48 = .ok (.iadd, 1) := by decide +kernel
theorem dX8_breaks_49 : decode cX8_breaks 49 = .ok (.iaload, 1) := by decide +kernel
theorem dX8_breaks_50 : decode cX8_breaks 50 = .ok (.if_icmp .le 10, 3) := by decide +kernel
theorem dX8_breaks_53 : decode cX8_breaks 53 = .ok (.iconst 1, 1) := by decide +kernel
theorem dX8_breaks_54 : decode cX8_breaks 54 = .ok (.iload 5, 2) := by decide +kernel
theorem dX8_breaks_56 : decode cX8_breaks 56 = .ok (.ishl, 1) := by decide +kernel
theorem dX8_breaks_57 : decode cX8_breaks 57 = .ok (.goto 4, 3) := by decide +kernel
theorem dX8_breaks_60 : decode cX8_breaks 60 = .ok (.iconst 0, 1) := by decide +kernel
theorem dX8_breaks_61 : decode cX8_breaks 61 = .ok (.ior, 1) := by decide +kernel
theorem dX8_breaks_62 : decode cX8_breaks 62 = .ok (.istore 4, 2) := by decide +kernel
theorem dX8_breaks_64 : decode cX8_breaks 64 = .ok (.iinc 5 1, 3) := by decide +kernel
theorem dX8_breaks_67 : decode cX8_breaks 67 = .ok (.goto (-61), 3) := by decide +kernel
theorem dX8_breaks_70 : decode cX8_breaks 70 = .ok (.iload 4, 2) := by decide +kernel
theorem dX8_breaks_72 : decode cX8_breaks 72 = .ok (.ireturn, 1) := by decide +kernel
theorem dX8_drifts_0 : decode cX8_drifts 0 = .ok (.iconst 0, 1) := by decide +kernel
theorem dX8_drifts_1 : decode cX8_drifts 1 = .ok (.istore 5, 2) := by decide +kernel
theorem dX8_drifts_3 : decode cX8_drifts 3 = .ok (.iconst 0, 1) := by decide +kernel
theorem dX8_drifts_4 : decode cX8_drifts 4 = .ok (.istore 6, 2) := by decide +kernel
theorem dX8_drifts_6 : decode cX8_drifts 6 = .ok (.iload 6, 2) := by decide +kernel
theorem dX8_drifts_8 : decode cX8_drifts 8 = .ok (.aload_n 0, 1) := by decide +kernel
theorem dX8_drifts_9 : decode cX8_drifts 9 = .ok (.getfield 7, 3) := by decide +kernel
theorem dX8_drifts_12 : decode cX8_drifts 12 = .ok (.iconst 0, 1) := by decide +kernel
theorem dX8_drifts_13 : decode cX8_drifts 13 = .ok (.iaload, 1) := by decide +kernel
theorem dX8_drifts_14 : decode cX8_drifts 14 = .ok (.if_icmp .ge 94, 3) := by decide +kernel
theorem dX8_drifts_17 : decode cX8_drifts 17 = .ok (.aload_n 0, 1) := by decide +kernel
theorem dX8_drifts_18 : decode cX8_drifts 18 = .ok (.iload 6, 2) := by decide +kernel
theorem dX8_drifts_20 : decode cX8_drifts 20 = .ok (.iload 4, 2) := by decide +kernel
theorem dX8_drifts_22 : decode cX8_drifts 22 = .ok (.invokevirtual 267, 3) := by decide +kernel
theorem dX8_drifts_25 : decode cX8_drifts 25 = .ok (.istore 7, 2) := by decide +kernel
theorem dX8_drifts_27 : decode cX8_drifts 27 = .ok (.iconst 0, 1) := by decide +kernel
theorem dX8_drifts_28 : decode cX8_drifts 28 = .ok (.istore 8, 2) := by decide +kernel
theorem dX8_drifts_30 : decode cX8_drifts 30 = .ok (.iload 6, 2) := by decide +kernel
theorem dX8_drifts_32 : decode cX8_drifts 32 = .ok (.istore 9, 2) := by decide +kernel
theorem dX8_drifts_34 : decode cX8_drifts 34 = .ok (.iload 9, 2) := by decide +kernel
theorem dX8_drifts_36 : decode cX8_drifts 36 = .ok (.iload 7, 2) := by decide +kernel
theorem dX8_drifts_38 : decode cX8_drifts 38 = .ok (.if_icmp .gt 29, 3) := by decide +kernel
theorem dX8_drifts_41 : decode cX8_drifts 41 = .ok (.iload 8, 2) := by decide +kernel
theorem dX8_drifts_43 : decode cX8_drifts 43 = .ok (.iload 9, 2) := by decide +kernel
theorem dX8_drifts_45 : decode cX8_drifts 45 = .ok (.iload_n 2, 1) := by decide +kernel
theorem dX8_drifts_46 : decode cX8_drifts 46 = .ok (.iload_n 3, 1) := by decide +kernel
theorem dX8_drifts_47 : decode cX8_drifts 47 = .ok (.invokestatic 60, 3) := by decide +kernel
theorem dX8_drifts_50 : decode cX8_drifts 50 = .ok (.ifCond .eq 7, 3) := by decide +kernel
theorem dX8_drifts_53 : decode cX8_drifts 53 = .ok (.iconst 1, 1) := by decide +kernel
theorem dX8_drifts_54 : decode cX8_drifts 54 = .ok (.goto 4, 3) := by decide +kernel
theorem dX8_drifts_57 : decode cX8_drifts 57 = .ok (.iconst 0, 1) := by decide +kernel
theorem dX8_drifts_58 : decode cX8_drifts 58 = .ok (.iadd, 1) := by decide +kernel
theorem dX8_drifts_59 : decode cX8_drifts 59 = .ok (.istore 8, 2) := by decide +kernel
theorem dX8_drifts_61 : decode cX8_drifts 61 = .ok (.iinc 9 1, 3) := by decide +kernel
theorem dX8_drifts_64 : decode cX8_drifts 64 = .ok (.goto (-30), 3) := by decide +kernel
theorem dX8_drifts_67 : decode cX8_drifts 67 = .ok (.iload 5, 2) := by decide +kernel
theorem dX8_drifts_69 : decode cX8_drifts 69 = .ok (.aload_n 0, 1) := by decide +kernel
theorem dX8_drifts_70 : decode cX8_drifts 70 = .ok (.iload 6, 2) := by decide +kernel
theorem dX8_drifts_72 : decode cX8_drifts 72 = .ok (.iload 7, 2) := by decide +kernel
theorem dX8_drifts_74 : decode cX8_drifts 74 = .ok (.invokevirtual 273, 3) := by decide +kernel
theorem dX8_drifts_77 : decode cX8_drifts 77 = .ok (.iload_n 1, 1) := by decide +kernel
theorem dX8_drifts_78 : decode cX8_drifts 78 = .ok (.iload 8, 2) := by decide +kernel
theorem dX8_drifts_80 : decode cX8_drifts 80 = .ok (.imul, 1) := by decide +kernel
theorem dX8_drifts_81 : decode cX8_drifts 81 = .ok (.if_icmp .ge 13, 3) := by decide +kernel
theorem dX8_drifts_84 : decode cX8_drifts 84 = .ok (.iload 6, 2) := by decide +kernel
theorem dX8_drifts_86 : decode cX8_drifts 86 = .ok (.iload 7, 2) := by decide +kernel
theorem dX8_drifts_88 : decode cX8_drifts 88 = .ok (.invokestatic 270, 3) := by decide +kernel
theorem dX8_drifts_91 : decode cX8_drifts 91 = .ok (.goto 4, 3) := by decide +kernel
theorem dX8_drifts_94 : decode cX8_drifts 94 = .ok (.iconst 0, 1) := by decide +kernel
theorem dX8_drifts_95 : decode cX8_drifts 95 = .ok (.ior, 1) := by decide +kernel
