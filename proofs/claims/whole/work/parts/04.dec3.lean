theorem dX8_drifts_100 : decode cX8_drifts 100 = .ok (.istore 6, 2) := by decide +kernel
theorem dX8_drifts_102 : decode cX8_drifts 102 = .ok (.iinc 6 1, 3) := by decide +kernel
theorem dX8_drifts_105 : decode cX8_drifts 105 = .ok (.goto (-99), 3) := by decide +kernel
theorem dX8_drifts_108 : decode cX8_drifts 108 = .ok (.iload 5, 2) := by decide +kernel
theorem dX8_drifts_110 : decode cX8_drifts 110 = .ok (.ireturn, 1) := by decide +kernel
theorem dX8_noStorm_0 : decode cX8_noStorm 0 = .ok (.aload_n 0, 1) := by decide +kernel
theorem dX8_noStorm_1 : decode cX8_noStorm 1 = .ok (.iload_n 2, 1) := by decide +kernel
theorem dX8_noStorm_2 : decode cX8_noStorm 2 = .ok (.invokevirtual 255, 3) := by decide +kernel
theorem dX8_noStorm_5 : decode cX8_noStorm 5 = .ok (.ifCond .ne 39, 3) := by decide +kernel
theorem dX8_noStorm_8 : decode cX8_noStorm 8 = .ok (.aload_n 0, 1) := by decide +kernel
theorem dX8_noStorm_9 : decode cX8_noStorm 9 = .ok (.iload_n 3, 1) := by decide +kernel
theorem dX8_noStorm_10 : decode cX8_noStorm 10 = .ok (.invokevirtual 255, 3) := by decide +kernel
theorem dX8_noStorm_13 : decode cX8_noStorm 13 = .ok (.ifCond .ne 31, 3) := by decide +kernel
theorem dX8_noStorm_16 : decode cX8_noStorm 16 = .ok (.aload_n 0, 1) := by decide +kernel
theorem dX8_noStorm_17 : decode cX8_noStorm 17 = .ok (.iload_n 1, 1) := by decide +kernel
theorem dX8_noStorm_18 : decode cX8_noStorm 18 = .ok (.iconst 1, 1) := by decide +kernel
theorem dX8_noStorm_19 : decode cX8_noStorm 19 = .ok (.bipush 99, 2) := by decide +kernel
theorem dX8_noStorm_21 : decode cX8_noStorm 21 = .ok (.invokestatic 60, 3) := by decide +kernel
theorem dX8_noStorm_24 : decode cX8_noStorm 24 = .ok (.ifCond .eq 8, 3) := by decide +kernel
theorem dX8_noStorm_27 : decode cX8_noStorm 27 = .ok (.iload_n 3, 1) := by decide +kernel
theorem dX8_noStorm_28 : decode cX8_noStorm 28 = .ok (.iload_n 2, 1) := by decide +kernel
theorem dX8_noStorm_29 : decode cX8_noStorm 29 = .ok (.if_icmp .ge 7, 3) := by decide +kernel
theorem dX8_noStorm_32 : decode cX8_noStorm 32 = .ok (.iconst 1, 1) := by decide +kernel
theorem dX8_noStorm_33 : decode cX8_noStorm 33 = .ok (.goto 4, 3) := by decide +kernel
theorem dX8_noStorm_36 : decode cX8_noStorm 36 = .ok (.iconst 0, 1) := by decide +kernel
theorem dX8_noStorm_37 : decode cX8_noStorm 37 = .ok (.iconst 2, 1) := by decide +kernel
theorem dX8_noStorm_38 : decode cX8_noStorm 38 = .ok (.invokevirtual 64, 3) := by decide +kernel
theorem dX8_noStorm_41 : decode cX8_noStorm 41 = .ok (.ifCond .eq 7, 3) := by decide +kernel
theorem dX8_noStorm_44 : decode cX8_noStorm 44 = .ok (.iconst 1, 1) := by decide +kernel
theorem dX8_noStorm_45 : decode cX8_noStorm 45 = .ok (.goto 4, 3) := by decide +kernel
theorem dX8_noStorm_48 : decode cX8_noStorm 48 = .ok (.iconst 0, 1) := by decide +kernel
theorem dX8_noStorm_49 : decode cX8_noStorm 49 = .ok (.ireturn, 1) := by decide +kernel
theorem dX8_wouldBreak_0 : decode cX8_wouldBreak 0 = .ok (.aload_n 0, 1) := by decide +kernel
theorem dX8_wouldBreak_1 : decode cX8_wouldBreak 1 = .ok (.iconst 0, 1) := by decide +kernel
theorem dX8_wouldBreak_2 : decode cX8_wouldBreak 2 = .ok (.putfield 57, 3) := by decide +kernel
theorem dX8_wouldBreak_5 : decode cX8_wouldBreak 5 = .ok (.aload_n 0, 1) := by decide +kernel
theorem dX8_wouldBreak_6 : decode cX8_wouldBreak 6 = .ok (.iload_n 1, 1) := by decide +kernel
theorem dX8_wouldBreak_7 : decode cX8_wouldBreak 7 = .ok (.iload_n 2, 1) := by decide +kernel
theorem dX8_wouldBreak_8 : decode cX8_wouldBreak 8 = .ok (.iload_n 3, 1) := by decide +kernel
theorem dX8_wouldBreak_9 : decode cX8_wouldBreak 9 = .ok (.invokevirtual 276, 3) := by decide +kernel
theorem dX8_wouldBreak_12 : decode cX8_wouldBreak 12 = .ok (.ifCond .eq 7, 3) := by decide +kernel
theorem dX8_wouldBreak_15 : decode cX8_wouldBreak 15 = .ok (.iconst 0, 1) := by decide +kernel
theorem dX8_wouldBreak_16 : decode cX8_wouldBreak 16 = .ok (.goto 10, 3) := by decide +kernel
theorem dX8_wouldBreak_19 : decode cX8_wouldBreak 19 = .ok (.aload_n 0, 1) := by decide +kernel
theorem dX8_wouldBreak_20 : decode cX8_wouldBreak 20 = .ok (.iload_n 1, 1) := by decide +kernel
theorem dX8_wouldBreak_21 : decode cX8_wouldBreak 21 = .ok (.iload_n 2, 1) := by decide +kernel
theorem dX8_wouldBreak_22 : decode cX8_wouldBreak 22 = .ok (.iload_n 3, 1) := by decide +kernel
theorem dX8_wouldBreak_23 : decode cX8_wouldBreak 23 = .ok (.invokevirtual 279, 3) := by decide +kernel
theorem dX8_wouldBreak_26 : decode cX8_wouldBreak 26 = .ok (.ireturn, 1) := by decide +kernel
theorem dX8_wouldDrift_0 : decode cX8_wouldDrift 0 = .ok (.aload_n 0, 1) := by decide +kernel
theorem dX8_wouldDrift_1 : decode cX8_wouldDrift 1 = .ok (.iconst 0, 1) := by decide +kernel
theorem dX8_wouldDrift_2 : decode cX8_wouldDrift 2 = .ok (.putfield 57, 3) := by decide +kernel
theorem dX8_wouldDrift_5 : decode cX8_wouldDrift 5 = .ok (.aload_n 0, 1) := by decide +kernel
theorem dX8_wouldDrift_6 : decode cX8_wouldDrift 6 = .ok (.iload_n 1, 1) := by decide +kernel
theorem dX8_wouldDrift_7 : decode cX8_wouldDrift 7 = .ok (.iload_n 2, 1) := by decide +kernel
theorem dX8_wouldDrift_8 : decode cX8_wouldDrift 8 = .ok (.iload_n 3, 1) := by decide +kernel
theorem dX8_wouldDrift_9 : decode cX8_wouldDrift 9 = .ok (.invokevirtual 276, 3) := by decide +kernel
theorem dX8_wouldDrift_12 : decode cX8_wouldDrift 12 = .ok (.ifCond .eq 7, 3) := by decide +kernel
theorem dX8_wouldDrift_15 : decode cX8_wouldDrift 15 = .ok (.iconst 0, 1) := by decide +kernel
theorem dX8_wouldDrift_16 : decode cX8_wouldDrift 16 = .ok (.goto 22, 3) := by decide +kernel
theorem dX8_wouldDrift_19 : decode cX8_wouldDrift 19 = .ok (.aload_n 0, 1) := by decide +kernel
theorem dX8_wouldDrift_20 : decode cX8_wouldDrift 20 = .ok (.iload_n 1, 1) := by decide +kernel
theorem dX8_wouldDrift_21 : decode cX8_wouldDrift 21 = .ok (.iload_n 2, 1) := by decide +kernel
theorem dX8_wouldDrift_22 : decode cX8_wouldDrift 22 = .ok (.iload_n 3, 1) := by decide +kernel
theorem dX8_wouldDrift_23 : decode cX8_wouldDrift 23 = .ok (.aload_n 0, 1) := by decide +kernel
theorem dX8_wouldDrift_24 : decode cX8_wouldDrift 24 = .ok (.invokevirtual 249, 3) := by decide +kernel
theorem dX8_wouldDrift_27 : decode cX8_wouldDrift 27 = .ok (.aload_n 0, 1) := by decide +kernel
theorem dX8_wouldDrift_28 : decode cX8_wouldDrift 28 = .ok (.iload_n 1, 1) := by decide +kernel
theorem dX8_wouldDrift_29 : decode cX8_wouldDrift 29 = .ok (.iload_n 2, 1) := by decide +kernel
theorem dX8_wouldDrift_30 : decode cX8_wouldDrift 30 = .ok (.iload_n 3, 1) := by decide +kernel
theorem dX8_wouldDrift_31 : decode cX8_wouldDrift 31 = .ok (.invokevirtual 279, 3) := by decide +kernel
theorem dX8_wouldDrift_34 : decode cX8_wouldDrift 34 = .ok (.ior, 1) := by decide +kernel
theorem dX8_wouldDrift_35 : decode cX8_wouldDrift 35 = .ok (.invokevirtual 283, 3) := by decide +kernel
theorem dX8_wouldDrift_38 : decode cX8_wouldDrift 38 = .ok (.ireturn, 1) := by decide +kernel
theorem dX8_leastStorm_0 : decode cX8_leastStorm 0 = .ok (.aload_n 0, 1) := by decide +kernel
theorem dX8_leastStorm_1 : decode cX8_leastStorm 1 = .ok (.iconst 0, 1) := by decide +kernel
theorem dX8_leastStorm_2 : decode cX8_leastStorm 2 = .ok (.putfield 57, 3) := by decide +kernel
theorem dX8_leastStorm_5 : decode cX8_leastStorm 5 = .ok (.aload_n 0, 1) := by decide +kernel
theorem dX8_leastStorm_6 : decode cX8_leastStorm 6 = .ok (.getfield 7, 3) := by decide +kernel
theorem dX8_leastStorm_9 : decode cX8_leastStorm 9 = .ok (.iconst 0, 1) := by decide +kernel
theorem dX8_leastStorm_10 : decode cX8_leastStorm 10 = .ok (.iaload, 1) := by decide +kernel
theorem dX8_leastStorm_11 : decode cX8_leastStorm 11 = .ok (.iconst 1, 1) := by decide +kernel
theorem dX8_leastStorm_12 : decode cX8_leastStorm 12 = .ok (.isub, 1) := by decide +kernel
theorem dX8_leastStorm_13 : decode cX8_leastStorm 13 = .ok (.istore_n 1, 1) := by decide +kernel
theorem dX8_leastStorm_14 : decode cX8_leastStorm 14 = .ok (.iconst 1, 1) := by decide +kernel
theorem dX8_leastStorm_15 : decode cX8_leastStorm 15 = .ok (.istore_n 2, 1) := by decide +kernel
theorem dX8_leastStorm_16 : decode cX8_leastStorm 16 = .ok (.iload_n 2, 1) := by decide +kernel
theorem dX8_leastStorm_17 : decode cX8_leastStorm 17 = .ok (.bipush 100, 2) := by decide +kernel
theorem dX8_leastStorm_19 : decode cX8_leastStorm 19 = .ok (.if_icmp .ge 33, 3) := by decide +kernel
theorem dX8_leastStorm_22 : decode cX8_leastStorm 22 = .ok (.aload_n 0, 1) := by decide +kernel
theorem dX8_leastStorm_23 : decode cX8_leastStorm 23 = .ok (.iload_n 2, 1) := by decide +kernel
theorem dX8_leastStorm_24 : decode cX8_leastStorm 24 = .ok (.iconst 0, 1) := by decide +kernel
theorem dX8_leastStorm_25 : decode cX8_leastStorm 25 = .ok (.iload_n 1, 1) := by decide +kernel
theorem dX8_leastStorm_26 : decode cX8_leastStorm 26 = .ok (.aload_n 0, 1) := by decide +kernel
theorem dX8_leastStorm_27 : decode cX8_leastStorm 27 = .ok (.invokevirtual 249, 3) := by decide +kernel
theorem dX8_leastStorm_30 : decode cX8_leastStorm 30 = .ok (.aload_n 0, 1) := by decide +kernel
theorem dX8_leastStorm_31 : decode cX8_leastStorm 31 = .ok (.iload_n 2, 1) := by decide +kernel
theorem dX8_leastStorm_32 : decode cX8_leastStorm 32 = .ok (.iconst 0, 1) := by decide +kernel
theorem dX8_leastStorm_33 : decode cX8_leastStorm 33 = .ok (.iload_n 1, 1) := by decide +kernel
theorem dX8_leastStorm_34 : decode cX8_leastStorm 34 = .ok (.invokevirtual 279, 3) := by decide +kernel
theorem dX8_leastStorm_37 : decode cX8_leastStorm 37 = .ok (.ior, 1) := by decide +kernel
theorem dX8_leastStorm_38 : decode cX8_leastStorm 38 = .ok (.invokevirtual 283, 3) := by decide +kernel
theorem dX8_leastStorm_41 : decode cX8_leastStorm 41 = .ok (.ifCond .eq 5, 3) := by decide +kernel
theorem dX8_leastStorm_44 : decode cX8_leastStorm 44 = .ok (.iload_n 2, 1) := by decide +kernel
theorem dX8_leastStorm_45 : decode cX8_leastStorm 45 = .ok (.ireturn, 1) := by decide +kernel
theorem dX8_leastStorm_46 : decode cX8_leastStorm 46 = .ok (.iinc 2 1, 3) := by decide +kernel
theorem dX8_leastStorm_49 : decode cX8_leastStorm 49 = .ok (.goto (-33), 3) := by decide +kernel
theorem dX8_leastStorm_52 : decode cX8_leastStorm 52 = .ok (.iconst (-1), 1) := by decide +kernel
theorem dX8_leastStorm_53 : decode cX8_leastStorm 53 = .ok (.ireturn, 1) := by decide +kernel
theorem dX8_lacking_0 : decode cX8_lacking 0 = .ok (.iconst 0, 1) := by decide +kernel
theorem dX8_lacking_1 : decode cX8_lacking 1 = .ok (.istore_n 3, 1) := by decide +kernel
theorem dX8_lacking_2 : decode cX8_lacking 2 = .ok (.iconst 0, 1) := by decide +kernel
theorem dX8_lacking_3 : decode cX8_lacking 3 = .ok (.istore 4, 2) := by decide +kernel
theorem dX8_lacking_5 : decode cX8_lacking 5 = .ok (.iload 4, 2) := by decide +kernel
theorem dX8_lacking_7 : decode cX8_lacking 7 = .ok (.aload_n 0, 1) := by decide +kernel
theorem dX8_lacking_8 : decode cX8_lacking 8 = .ok (.getfield 7, 3) := by decide +kernel
theorem dX8_lacking_11 : decode cX8_lacking 11 = .ok (.iconst 0, 1) := by decide +kernel
theorem dX8_lacking_12 : decode cX8_lacking 12 = .ok (.iaload, 1) := by decide +kernel
theorem dX8_lacking_13 : decode cX8_lacking 13 = .ok (.if_icmp .ge 47, 3) := by decide +kernel
theorem dX8_lacking_16 : decode cX8_lacking 16 = .ok (.aload_n 0, 1) := by decide +kernel
theorem dX8_lacking_17 : decode cX8_lacking 17 = .ok (.iload 4, 2) := by decide +kernel
theorem dX8_lacking_19 : decode cX8_lacking 19 = .ok (.iload_n 2, 1) := by decide +kernel
theorem dX8_lacking_20 : decode cX8_lacking 20 = .ok (.invokevirtual 267, 3) := by decide +kernel
theorem dX8_lacking_23 : decode cX8_lacking 23 = .ok (.istore 5, 2) := by decide +kernel
theorem dX8_lacking_25 : decode cX8_lacking 25 = .ok (.iload_n 3, 1) := by decide +kernel
theorem dX8_lacking_26 : decode cX8_lacking 26 = .ok (.iconst 0, 1) := by decide +kernel
theorem dX8_lacking_27 : decode cX8_lacking 27 = .ok (.iload_n 1, 1) := by decide +kernel
theorem dX8_lacking_28 : decode cX8_lacking 28 = .ok (.iload 5, 2) := by decide +kernel
theorem dX8_lacking_30 : decode cX8_lacking 30 = .ok (.iload 4, 2) := by decide +kernel
theorem dX8_lacking_32 : decode cX8_lacking 32 = .ok (.isub, 1) := by decide +kernel
theorem dX8_lacking_33 : decode cX8_lacking 33 = .ok (.iconst 1, 1) := by decide +kernel
theorem dX8_lacking_34 : decode cX8_lacking 34 = .ok (.iadd, 1) := by decide +kernel
theorem dX8_lacking_35 : decode cX8_lacking 35 = .ok (.imul, 1) := by decide +kernel
theorem dX8_lacking_36 : decode cX8_lacking 36 = .ok (.aload_n 0, 1) := by decide +kernel
theorem dX8_lacking_37 : decode cX8_lacking 37 = .ok (.iload 4, 2) := by decide +kernel
theorem dX8_lacking_39 : decode cX8_lacking 39 = .ok (.iload 5, 2) := by decide +kernel
theorem dX8_lacking_41 : decode cX8_lacking 41 = .ok (.invokevirtual 273, 3) := by decide +kernel
theorem dX8_lacking_44 : decode cX8_lacking 44 = .ok (.isub, 1) := by decide +kernel
theorem dX8_lacking_45 : decode cX8_lacking 45 = .ok (.invokestatic 287, 3) := by decide +kernel
theorem dX8_lacking_48 : decode cX8_lacking 48 = .ok (.iadd, 1) := by decide +kernel
theorem dX8_lacking_49 : decode cX8_lacking 49 = .ok (.istore_n 3, 1) := by decide +kernel
theorem dX8_lacking_50 : decode cX8_lacking 50 = .ok (.iload 5, 2) := by decide +kernel
theorem dX8_lacking_52 : decode cX8_lacking 52 = .ok (.istore 4, 2) := by decide +kernel
theorem dX8_lacking_54 : decode cX8_lacking 54 = .ok (.iinc 4 1, 3) := by decide +kernel
theorem dX8_lacking_57 : decode cX8_lacking 57 = .ok (.goto (-52), 3) := by decide +kernel
theorem dX8_lacking_60 : decode cX8_lacking 60 = .ok (.iload_n 3, 1) := by decide +kernel
theorem dX8_lacking_61 : decode cX8_lacking 61 = .ok (.ireturn, 1) := by decide +kernel
theorem dX8_noForce_0 : decode cX8_noForce 0 = .ok (.aload_n 0, 1) := by decide +kernel
theorem dX8_noForce_1 : decode cX8_noForce 1 = .ok (.iconst 0, 1) := by decide +kernel
theorem dX8_noForce_2 : decode cX8_noForce 2 = .ok (.putfield 57, 3) := by decide +kernel
theorem dX8_noForce_5 : decode cX8_noForce 5 = .ok (.aload_n 0, 1) := by decide +kernel
theorem dX8_noForce_6 : decode cX8_noForce 6 = .ok (.iload_n 1, 1) := by decide +kernel
theorem dX8_noForce_7 : decode cX8_noForce 7 = .ok (.iconst 1, 1) := by decide +kernel
theorem dX8_noForce_8 : decode cX8_noForce 8 = .ok (.bipush 99, 2) := by decide +kernel
theorem dX8_noForce_10 : decode cX8_noForce 10 = .ok (.invokestatic 60, 3) := by decide +kernel
theorem dX8_noForce_13 : decode cX8_noForce 13 = .ok (.ifCond .ne 7, 3) := by decide +kernel
theorem dX8_noForce_16 : decode cX8_noForce 16 = .ok (.iconst 1, 1) := by decide +kernel
theorem dX8_noForce_17 : decode cX8_noForce 17 = .ok (.goto 4, 3) := by decide +kernel
theorem dX8_noForce_20 : decode cX8_noForce 20 = .ok (.iconst 0, 1) := by decide +kernel
theorem dX8_noForce_21 : decode cX8_noForce 21 = .ok (.iconst 1, 1) := by decide +kernel
theorem dX8_noForce_22 : decode cX8_noForce 22 = .ok (.invokevirtual 64, 3) := by decide +kernel
theorem dX8_noForce_25 : decode cX8_noForce 25 = .ok (.ireturn, 1) := by decide +kernel
theorem dX8_lacks_0 : decode cX8_lacks 0 = .ok (.aload_n 0, 1) := by decide +kernel
theorem dX8_lacks_1 : decode cX8_lacks 1 = .ok (.iload_n 1, 1) := by decide +kernel
theorem dX8_lacks_2 : decode cX8_lacks 2 = .ok (.invokevirtual 292, 3) := by decide +kernel
theorem dX8_lacks_5 : decode cX8_lacks 5 = .ok (.ifCond .eq 7, 3) := by decide +kernel
theorem dX8_lacks_8 : decode cX8_lacks 8 = .ok (.iconst 0, 1) := by decide +kernel
theorem dX8_lacks_9 : decode cX8_lacks 9 = .ok (.goto 12, 3) := by decide +kernel
theorem dX8_lacks_12 : decode cX8_lacks 12 = .ok (.aload_n 0, 1) := by decide +kernel
theorem dX8_lacks_13 : decode cX8_lacks 13 = .ok (.iload_n 1, 1) := by decide +kernel
theorem dX8_lacks_14 : decode cX8_lacks 14 = .ok (.aload_n 0, 1) := by decide +kernel
theorem dX8_lacks_15 : decode cX8_lacks 15 = .ok (.invokevirtual 249, 3) := by decide +kernel
theorem dX8_lacks_18 : decode cX8_lacks 18 = .ok (.invokevirtual 295, 3) := by decide +kernel
theorem dX8_lacks_21 : decode cX8_lacks 21 = .ok (.ireturn, 1) := by decide +kernel
theorem dX8_lengths_0 : decode cX8_lengths 0 = .ok (.iconst 0, 1) := by decide +kernel
theorem dX8_lengths_1 : decode cX8_lengths 1 = .ok (.istore_n 2, 1) := by decide +kernel
theorem dX8_lengths_2 : decode cX8_lengths 2 = .ok (.iconst 0, 1) := by decide +kernel
theorem dX8_lengths_3 : decode cX8_lengths 3 = .ok (.istore_n 3, 1) := by decide +kernel
theorem dX8_lengths_4 : decode cX8_lengths 4 = .ok (.iload_n 3, 1) := by decide +kernel
theorem dX8_lengths_5 : decode cX8_lengths 5 = .ok (.bipush 9, 2) := by decide +kernel
theorem dX8_lengths_7 : decode cX8_lengths 7 = .ok (.if_icmp .ge 29, 3) := by decide +kernel
theorem dX8_lengths_10 : decode cX8_lengths 10 = .ok (.iload_n 2, 1) := by decide +kernel
theorem dX8_lengths_11 : decode cX8_lengths 11 = .ok (.iload_n 1, 1) := by decide +kernel
theorem dX8_lengths_12 : decode cX8_lengths 12 = .ok (.iload_n 3, 1) := by decide +kernel
theorem dX8_lengths_13 : decode cX8_lengths 13 = .ok (.invokestatic 176, 3) := by decide +kernel
theorem dX8_lengths_16 : decode cX8_lengths 16 = .ok (.ifCond .eq 11, 3) := by decide +kernel
theorem dX8_lengths_19 : decode cX8_lengths 19 = .ok (.aload_n 0, 1) := by decide +kernel
theorem dX8_lengths_20 : decode cX8_lengths 20 = .ok (.iload_n 3, 1) := by decide +kernel
theorem dX8_lengths_21 : decode cX8_lengths 21 = .ok (.invokevirtual 261, 3) := by decide +kernel
theorem dX8_lengths_24 : decode cX8_lengths 24 = .ok (.goto 4, 3) := by decide +kernel
theorem dX8_lengths_27 : decode cX8_lengths 27 = .ok (.iconst 0, 1) := by decide +kernel
theorem dX8_lengths_28 : decode cX8_lengths 28 = .ok (.iadd, 1) := by decide +kernel
theorem dX8_lengths_29 : decode cX8_lengths 29 = .ok (.istore_n 2, 1) := by decide +kernel
theorem dX8_lengths_30 : decode cX8_lengths 30 = .ok (.iinc 3 1, 3) := by decide +kernel
theorem dX8_lengths_33 : decode cX8_lengths 33 = .ok (.goto (-29), 3) := by decide +kernel
theorem dX8_lengths_36 : decode cX8_lengths 36 = .ok (.iload_n 2, 1) := by decide +kernel
theorem dX8_lengths_37 : decode cX8_lengths 37 = .ok (.ireturn, 1) := by decide +kernel
theorem dX8_planOf_0 : decode cX8_planOf 0 = .ok (.aload_n 0, 1) := by decide +kernel
theorem dX8_planOf_1 : decode cX8_planOf 1 = .ok (.invokevirtual 249, 3) := by decide +kernel
theorem dX8_planOf_4 : decode cX8_planOf 4 = .ok (.istore_n 2, 1) := by decide +kernel
theorem dX8_planOf_5 : decode cX8_planOf 5 = .ok (.iconst (-1), 1) := by decide +kernel
theorem dX8_planOf_6 : decode cX8_planOf 6 = .ok (.istore_n 3, 1) := by decide +kernel
theorem dX8_planOf_7 : decode cX8_planOf 7 = .ok (.iconst 0, 1) := by decide +kernel
theorem dX8_planOf_8 : decode cX8_planOf 8 = .ok (.istore 4, 2) := by decide +kernel
theorem dX8_planOf_10 : decode cX8_planOf 10 = .ok (.iload 4, 2) := by decide +kernel
theorem dX8_planOf_12 : decode cX8_planOf 12 = .ok (.sipush 512, 3) := by decide +kernel
theorem dX8_planOf_15 : decode cX8_planOf 15 = .ok (.if_icmp .ge 114, 3) := by decide +kernel
theorem dX8_planOf_18 : decode cX8_planOf 18 = .ok (.iload 4, 2) := by decide +kernel
theorem dX8_planOf_20 : decode cX8_planOf 20 = .ok (.iload_n 2, 1) := by decide +kernel
theorem dX8_planOf_21 : decode cX8_planOf 21 = .ok (.iconst (-1), 1) := by decide +kernel
theorem dX8_planOf_22 : decode cX8_planOf 22 = .ok (.ixor, 1) := by decide +kernel
theorem dX8_planOf_23 : decode cX8_planOf 23 = .ok (.iand, 1) := by decide +kernel
theorem dX8_planOf_24 : decode cX8_planOf 24 = .ok (.ifCond .ne 99, 3) := by decide +kernel
theorem dX8_planOf_27 : decode cX8_planOf 27 = .ok (.aload_n 0, 1) := by decide +kernel
theorem dX8_planOf_28 : decode cX8_planOf 28 = .ok (.iload 4, 2) := by decide +kernel
theorem dX8_planOf_30 : decode cX8_planOf 30 = .ok (.invokevirtual 298, 3) := by decide +kernel
theorem dX8_planOf_33 : decode cX8_planOf 33 = .ok (.aload_n 0, 1) := by decide +kernel
theorem dX8_planOf_34 : decode cX8_planOf 34 = .ok (.getfield 7, 3) := by decide +kernel
theorem dX8_planOf_37 : decode cX8_planOf 37 = .ok (.iconst 4, 1) := by decide +kernel
theorem dX8_planOf_38 : decode cX8_planOf 38 = .ok (.iaload, 1) := by decide +kernel
theorem dX8_planOf_39 : decode cX8_planOf 39 = .ok (.if_icmp .gt 84, 3) := by decide +kernel
theorem dX8_planOf_42 : decode cX8_planOf 42 = .ok (.aload_n 0, 1) := by decide +kernel
theorem dX8_planOf_43 : decode cX8_planOf 43 = .ok (.iload_n 1, 1) := by decide +kernel
theorem dX8_planOf_44 : decode cX8_planOf 44 = .ok (.iload_n 2, 1) := by decide +kernel
theorem dX8_planOf_45 : decode cX8_planOf 45 = .ok (.iload 4, 2) := by decide +kernel
theorem dX8_planOf_47 : decode cX8_planOf 47 = .ok (.iconst (-1), 1) := by decide +kernel
theorem dX8_planOf_48 : decode cX8_planOf 48 = .ok (.ixor, 1) := by decide +kernel
theorem dX8_planOf_49 : decode cX8_planOf 49 = .ok (.iand, 1) := by decide +kernel
theorem dX8_planOf_50 : decode cX8_planOf 50 = .ok (.invokevirtual 295, 3) := by decide +kernel
theorem dX8_planOf_53 : decode cX8_planOf 53 = .ok (.ifCond .le 6, 3) := by decide +kernel
theorem dX8_planOf_56 : decode cX8_planOf 56 = .ok (.goto 67, 3) := by decide +kernel
theorem dX8_planOf_59 : decode cX8_planOf 59 = .ok (.iload_n 3, 1) := by decide +kernel
theorem dX8_planOf_60 : decode cX8_planOf 60 = .ok (.iconst (-1), 1) := by decide +kernel
theorem dX8_planOf_61 : decode cX8_planOf 61 = .ok (.if_icmp .eq 43, 3) := by decide +kernel
theorem dX8_planOf_64 : decode cX8_planOf 64 = .ok (.aload_n 0, 1) := by decide +kernel
theorem dX8_planOf_65 : decode cX8_planOf 65 = .ok (.iload 4, 2) := by decide +kernel
theorem dX8_planOf_67 : decode cX8_planOf 67 = .ok (.invokevirtual 298, 3) := by decide +kernel
theorem dX8_planOf_70 : decode cX8_planOf 70 = .ok (.aload_n 0, 1) := by decide +kernel
theorem dX8_planOf_71 : decode cX8_planOf 71 = .ok (.iload_n 3, 1) := by decide +kernel
theorem dX8_planOf_72 : decode cX8_planOf 72 = .ok (.invokevirtual 298, 3) := by decide +kernel
theorem dX8_planOf_75 : decode cX8_planOf 75 = .ok (.if_icmp .lt 29, 3) := by decide +kernel
theorem dX8_planOf_78 : decode cX8_planOf 78 = .ok (.aload_n 0, 1) := by decide +kernel
theorem dX8_planOf_79 : decode cX8_planOf 79 = .ok (.iload 4, 2) := by decide +kernel
theorem dX8_planOf_81 : decode cX8_planOf 81 = .ok (.invokevirtual 298, 3) := by decide +kernel
theorem dX8_planOf_84 : decode cX8_planOf 84 = .ok (.aload_n 0, 1) := by decide +kernel
theorem dX8_planOf_85 : decode cX8_planOf 85 = .ok (.iload_n 3, 1) := by decide +kernel
theorem dX8_planOf_86 : decode cX8_planOf 86 = .ok (.invokevirtual 298, 3) := by decide +kernel
theorem dX8_planOf_89 : decode cX8_planOf 89 = .ok (.if_icmp .ne 19, 3) := by decide +kernel
theorem dX8_planOf_92 : decode cX8_planOf 92 = .ok (.iload 4, 2) := by decide +kernel
theorem dX8_planOf_94 : decode cX8_planOf 94 = .ok (.invokestatic 243, 3) := by decide +kernel
theorem dX8_planOf_97 : decode cX8_planOf 97 = .ok (.iload_n 3, 1) := by decide +kernel
theorem dX8_planOf_98 : decode cX8_planOf 98 = .ok (.invokestatic 243, 3) := by decide +kernel
theorem dX8_planOf_101 : decode cX8_planOf 101 = .ok (.if_icmp .ge 7, 3) := by decide +kernel
theorem dX8_planOf_104 : decode cX8_planOf 104 = .ok (.iconst 1, 1) := by decide +kernel
theorem dX8_planOf_105 : decode cX8_planOf 105 = .ok (.goto 4, 3) := by decide +kernel
theorem dX8_planOf_108 : decode cX8_planOf 108 = .ok (.iconst 0, 1) := by decide +kernel
theorem dX8_planOf_109 : decode cX8_planOf 109 = .ok (.istore 5, 2) := by decide +kernel
theorem dX8_planOf_111 : decode cX8_planOf 111 = .ok (.iload 5, 2) := by decide +kernel
theorem dX8_planOf_113 : decode cX8_planOf 113 = .ok (.ifCond .eq 8, 3) := by decide +kernel
theorem dX8_planOf_116 : decode cX8_planOf 116 = .ok (.iload 4, 2) := by decide +kernel
theorem dX8_planOf_118 : decode cX8_planOf 118 = .ok (.goto 4, 3) := by decide +kernel
theorem dX8_planOf_121 : decode cX8_planOf 121 = .ok (.iload_n 3, 1) := by decide +kernel
theorem dX8_planOf_122 : decode cX8_planOf 122 = .ok (.istore_n 3, 1) := by decide +kernel
theorem dX8_planOf_123 : decode cX8_planOf 123 = .ok (.iinc 4 1, 3) := by decide +kernel
theorem dX8_planOf_126 : decode cX8_planOf 126 = .ok (.goto (-116), 3) := by decide +kernel
theorem dX8_planOf_129 : decode cX8_planOf 129 = .ok (.iload_n 3, 1) := by decide +kernel
theorem dX8_planOf_130 : decode cX8_planOf 130 = .ok (.ireturn, 1) := by decide +kernel
theorem dX8_plan_0 : decode cX8_plan 0 = .ok (.aload_n 0, 1) := by decide +kernel
theorem dX8_plan_1 : decode cX8_plan 1 = .ok (.iload_n 1, 1) := by decide +kernel
theorem dX8_plan_2 : decode cX8_plan 2 = .ok (.invokevirtual 292, 3) := by decide +kernel
theorem dX8_plan_5 : decode cX8_plan 5 = .ok (.ifCond .eq 7, 3) := by decide +kernel
theorem dX8_plan_8 : decode cX8_plan 8 = .ok (.iconst 0, 1) := by decide +kernel
theorem dX8_plan_9 : decode cX8_plan 9 = .ok (.goto 8, 3) := by decide +kernel
theorem dX8_plan_12 : decode cX8_plan 12 = .ok (.aload_n 0, 1) := by decide +kernel
theorem dX8_plan_13 : decode cX8_plan 13 = .ok (.iload_n 1, 1) := by decide +kernel
theorem dX8_plan_14 : decode cX8_plan 14 = .ok (.invokevirtual 301, 3) := by decide +kernel
theorem dX8_plan_17 : decode cX8_plan 17 = .ok (.ireturn, 1) := by decide +kernel
theorem dX8_planLength_0 : decode cX8_planLength 0 = .ok (.aload_n 0, 1) := by decide +kernel
theorem dX8_planLength_1 : decode cX8_planLength 1 = .ok (.iload_n 1, 1) := by decide +kernel
theorem dX8_planLength_2 : decode cX8_planLength 2 = .ok (.invokevirtual 292, 3) := by decide +kernel
theorem dX8_planLength_5 : decode cX8_planLength 5 = .ok (.ifCond .eq 5, 3) := by decide +kernel
theorem dX8_planLength_8 : decode cX8_planLength 8 = .ok (.iconst 0, 1) := by decide +kernel
theorem dX8_planLength_9 : decode cX8_planLength 9 = .ok (.ireturn, 1) := by decide +kernel
theorem dX8_planLength_10 : decode cX8_planLength 10 = .ok (.aload_n 0, 1) := by decide +kernel
theorem dX8_planLength_11 : decode cX8_planLength 11 = .ok (.iload_n 1, 1) := by decide +kernel
theorem dX8_planLength_12 : decode cX8_planLength 12 = .ok (.invokevirtual 301, 3) := by decide +kernel
theorem dX8_planLength_15 : decode cX8_planLength 15 = .ok (.istore_n 2, 1) := by decide +kernel
theorem dX8_planLength_16 : decode cX8_planLength 16 = .ok (.iload_n 2, 1) := by decide +kernel
theorem dX8_planLength_17 : decode cX8_planLength 17 = .ok (.iconst (-1), 1) := by decide +kernel
theorem dX8_planLength_18 : decode cX8_planLength 18 = .ok (.if_icmp .ne 7, 3) := by decide +kernel
theorem dX8_planLength_21 : decode cX8_planLength 21 = .ok (.iconst (-1), 1) := by decide +kernel
theorem dX8_planLength_22 : decode cX8_planLength 22 = .ok (.goto 8, 3) := by decide +kernel
theorem dX8_planLength_25 : decode cX8_planLength 25 = .ok (.aload_n 0, 1) := by decide +kernel
theorem dX8_planLength_26 : decode cX8_planLength 26 = .ok (.iload_n 2, 1) := by decide +kernel
theorem dX8_planLength_27 : decode cX8_planLength 27 = .ok (.invokevirtual 298, 3) := by decide +kernel
theorem dX8_planLength_30 : decode cX8_planLength 30 = .ok (.ireturn, 1) := by decide +kernel
theorem dX8_keeps_0 : decode cX8_keeps 0 = .ok (.aload_n 0, 1) := by decide +kernel
theorem dX8_keeps_1 : decode cX8_keeps 1 = .ok (.getfield 173, 3) := by decide +kernel
theorem dX8_keeps_4 : decode cX8_keeps 4 = .ok (.bipush 8, 2) := by decide +kernel
theorem dX8_keeps_6 : decode cX8_keeps 6 = .ok (.if_icmp .ne 52, 3) := by decide +kernel
theorem dX8_keeps_9 : decode cX8_keeps 9 = .ok (.aload_n 0, 1) := by decide +kernel
theorem dX8_keeps_10 : decode cX8_keeps 10 = .ok (.dup, 1) := by decide +kernel
theorem dX8_keeps_11 : decode cX8_keeps 11 = .ok (.getfield 173, 3) := by decide +kernel
theorem dX8_keeps_14 : decode cX8_keeps 14 = .ok (.iconst 1, 1) := by decide +kernel
theorem dX8_keeps_15 : decode cX8_keeps 15 = .ok (.isub, 1) := by decide +kernel
theorem dX8_keeps_16 : decode cX8_keeps 16 = .ok (.putfield 173, 3) := by decide +kernel
theorem dX8_keeps_19 : decode cX8_keeps 19 = .ok (.iconst 0, 1) := by decide +kernel
theorem dX8_keeps_20 : decode cX8_keeps 20 = .ok (.istore_n 1, 1) := by decide +kernel
theorem dX8_keeps_21 : decode cX8_keeps 21 = .ok (.iload_n 1, 1) := by decide +kernel
theorem dX8_keeps_22 : decode cX8_keeps 22 = .ok (.aload_n 0, 1) := by decide +kernel
theorem dX8_keeps_23 : decode cX8_keeps 23 = .ok (.getfield 173, 3) := by decide +kernel
theorem dX8_keeps_26 : decode cX8_keeps 26 = .ok (.if_icmp .ge 32, 3) := by decide +kernel
theorem dX8_keeps_29 : decode cX8_keeps 29 = .ok (.aload_n 0, 1) := by decide +kernel
theorem dX8_keeps_30 : decode cX8_keeps 30 = .ok (.getfield 19, 3) := by decide +kernel
theorem dX8_keeps_33 : decode cX8_keeps 33 = .ok (.sipush 574, 3) := by decide +kernel
theorem dX8_keeps_36 : decode cX8_keeps 36 = .ok (.iload_n 1, 1) := by decide +kernel
theorem dX8_keeps_37 : decode cX8_keeps 37 = .ok (.iconst 1, 1) := by decide +kernel
theorem dX8_keeps_38 : decode cX8_keeps 38 = .ok (.iadd, 1) := by decide +kernel
theorem dX8_keeps_39 : decode cX8_keeps 39 = .ok (.imul, 1) := by decide +kernel
theorem dX8_keeps_40 : decode cX8_keeps 40 = .ok (.aload_n 0, 1) := by decide +kernel
theorem dX8_keeps_41 : decode cX8_keeps 41 = .ok (.getfield 19, 3) := by decide +kernel
theorem dX8_keeps_44 : decode cX8_keeps 44 = .ok (.sipush 574, 3) := by decide +kernel
theorem dX8_keeps_47 : decode cX8_keeps 47 = .ok (.iload_n 1, 1) := by decide +kernel
theorem dX8_keeps_48 : decode cX8_keeps 48 = .ok (.imul, 1) := by decide +kernel
theorem dX8_keeps_49 : decode cX8_keeps 49 = .ok (.invokestatic 169, 3) := by decide +kernel
theorem dX8_keeps_52 : decode cX8_keeps 52 = .ok (.iinc 1 1, 3) := by decide +kernel
theorem dX8_keeps_55 : decode cX8_keeps 55 = .ok (.goto (-34), 3) := by decide +kernel
theorem dX8_keeps_58 : decode cX8_keeps 58 = .ok (.aload_n 0, 1) := by decide +kernel
theorem dX8_keeps_59 : decode cX8_keeps 59 = .ok (.getfield 7, 3) := by decide +kernel
theorem dX8_keeps_62 : decode cX8_keeps 62 = .ok (.iconst 0, 1) := by decide +kernel
theorem dX8_keeps_63 : decode cX8_keeps 63 = .ok (.aload_n 0, 1) := by decide +kernel
theorem dX8_keeps_64 : decode cX8_keeps 64 = .ok (.getfield 19, 3) := by decide +kernel
theorem dX8_keeps_67 : decode cX8_keeps 67 = .ok (.sipush 574, 3) := by decide +kernel
theorem dX8_keeps_70 : decode cX8_keeps 70 = .ok (.aload_n 0, 1) := by decide +kernel
theorem dX8_keeps_71 : decode cX8_keeps 71 = .ok (.getfield 173, 3) := by decide +kernel
theorem dX8_keeps_74 : decode cX8_keeps 74 = .ok (.imul, 1) := by decide +kernel
theorem dX8_keeps_75 : decode cX8_keeps 75 = .ok (.invokestatic 169, 3) := by decide +kernel
theorem dX8_keeps_78 : decode cX8_keeps 78 = .ok (.aload_n 0, 1) := by decide +kernel
theorem dX8_keeps_79 : decode cX8_keeps 79 = .ok (.dup, 1) := by decide +kernel
theorem dX8_keeps_80 : decode cX8_keeps 80 = .ok (.getfield 173, 3) := by decide +kernel
theorem dX8_keeps_83 : decode cX8_keeps 83 = .ok (.iconst 1, 1) := by decide +kernel
theorem dX8_keeps_84 : decode cX8_keeps 84 = .ok (.iadd, 1) := by decide +kernel
theorem dX8_keeps_85 : decode cX8_keeps 85 = .ok (.putfield 173, 3) := by decide +kernel
theorem dX8_keeps_88 : decode cX8_keeps 88 = .ok (.aload_n 0, 1) := by decide +kernel
theorem dX8_keeps_89 : decode cX8_keeps 89 = .ok (.getfield 29, 3) := by decide +kernel
theorem dX8_keeps_92 : decode cX8_keeps 92 = .ok (.iconst 0, 1) := by decide +kernel
theorem dX8_keeps_93 : decode cX8_keeps 93 = .ok (.dup2, 1) := by decide +kernel
theorem dX8_keeps_94 : decode cX8_keeps 94 = .ok (.iaload, 1) := by decide +kernel
theorem dX8_keeps_95 : decode cX8_keeps 95 = .ok (.iconst 1, 1) := by decide +kernel
theorem dX8_keeps_96 : decode cX8_keeps 96 = .ok (.iadd, 1) := by decide +kernel
theorem dX8_keeps_97 : decode cX8_keeps 97 = .ok (.iastore, 1) := by decide +kernel
theorem dX8_keeps_98 : decode cX8_keeps 98 = .ok (.return_, 1) := by decide +kernel
theorem dX8_refused_0 : decode cX8_refused 0 = .ok (.aload_n 0, 1) := by decide +kernel
theorem dX8_refused_1 : decode cX8_refused 1 = .ok (.getfield 29, 3) := by decide +kernel
theorem dX8_refused_4 : decode cX8_refused 4 = .ok (.iload_n 1, 1) := by decide +kernel
theorem dX8_refused_5 : decode cX8_refused 5 = .ok (.dup2, 1) := by decide +kernel
theorem dX8_refused_6 : decode cX8_refused 6 = .ok (.iaload, 1) := by decide +kernel
theorem dX8_refused_7 : decode cX8_refused 7 = .ok (.iconst 1, 1) := by decide +kernel
theorem dX8_refused_8 : decode cX8_refused 8 = .ok (.iadd, 1) := by decide +kernel
theorem dX8_refused_9 : decode cX8_refused 9 = .ok (.iastore, 1) := by decide +kernel
theorem dX8_refused_10 : decode cX8_refused 10 = .ok (.iload_n 1, 1) := by decide +kernel
theorem dX8_refused_11 : decode cX8_refused 11 = .ok (.ineg, 1) := by decide +kernel
theorem dX8_refused_12 : decode cX8_refused 12 = .ok (.ireturn, 1) := by decide +kernel
theorem dX8_reports_0 : decode cX8_reports 0 = .ok (.aload_n 0, 1) := by decide +kernel
theorem dX8_reports_1 : decode cX8_reports 1 = .ok (.invokevirtual 304, 3) := by decide +kernel
theorem dX8_reports_4 : decode cX8_reports 4 = .ok (.aload_n 0, 1) := by decide +kernel
theorem dX8_reports_5 : decode cX8_reports 5 = .ok (.getfield 7, 3) := by decide +kernel
theorem dX8_reports_8 : decode cX8_reports 8 = .ok (.bipush 92, 2) := by decide +kernel
theorem dX8_reports_10 : decode cX8_reports 10 = .ok (.iload_n 1, 1) := by decide +kernel
theorem dX8_reports_11 : decode cX8_reports 11 = .ok (.iadd, 1) := by decide +kernel
theorem dX8_reports_12 : decode cX8_reports 12 = .ok (.iconst 1, 1) := by decide +kernel
theorem dX8_reports_13 : decode cX8_reports 13 = .ok (.iastore, 1) := by decide +kernel
theorem dX8_reports_14 : decode cX8_reports 14 = .ok (.aload_n 0, 1) := by decide +kernel
theorem dX8_reports_15 : decode cX8_reports 15 = .ok (.getfield 7, 3) := by decide +kernel
theorem dX8_reports_18 : decode cX8_reports 18 = .ok (.bipush 102, 2) := by decide +kernel
theorem dX8_reports_20 : decode cX8_reports 20 = .ok (.iload_n 1, 1) := by decide +kernel
theorem dX8_reports_21 : decode cX8_reports 21 = .ok (.iadd, 1) := by decide +kernel
theorem dX8_reports_22 : decode cX8_reports 22 = .ok (.iload_n 2, 1) := by decide +kernel
theorem dX8_reports_23 : decode cX8_reports 23 = .ok (.iastore, 1) := by decide +kernel
theorem dX8_reports_24 : decode cX8_reports 24 = .ok (.aload_n 0, 1) := by decide +kernel
theorem dX8_reports_25 : decode cX8_reports 25 = .ok (.iconst (-1), 1) := by decide +kernel
theorem dX8_reports_26 : decode cX8_reports 26 = .ok (.invokevirtual 225, 3) := by decide +kernel
theorem dX8_reports_29 : decode cX8_reports 29 = .ok (.invokestatic 243, 3) := by decide +kernel
theorem dX8_reports_32 : decode cX8_reports 32 = .ok (.ireturn, 1) := by decide +kernel
theorem dX8_report_0 : decode cX8_report 0 = .ok (.aload_n 0, 1) := by decide +kernel
theorem dX8_report_1 : decode cX8_report 1 = .ok (.iconst 0, 1) := by decide +kernel
theorem dX8_report_2 : decode cX8_report 2 = .ok (.putfield 57, 3) := by decide +kernel
theorem dX8_report_5 : decode cX8_report 5 = .ok (.aload_n 0, 1) := by decide +kernel
theorem dX8_report_6 : decode cX8_report 6 = .ok (.iload_n 1, 1) := by decide +kernel
theorem dX8_report_7 : decode cX8_report 7 = .ok (.invokevirtual 255, 3) := by decide +kernel
theorem dX8_report_10 : decode cX8_report 10 = .ok (.ifCond .ne 29, 3) := by decide +kernel
theorem dX8_report_13 : decode cX8_report 13 = .ok (.aload_n 0, 1) := by decide +kernel
theorem dX8_report_14 : decode cX8_report 14 = .ok (.iload_n 2, 1) := by decide +kernel
theorem dX8_report_15 : decode cX8_report 15 = .ok (.sipush (-9999), 3) := by decide +kernel
theorem dX8_report_18 : decode cX8_report 18 = .ok (.sipush 9999, 3) := by decide +kernel
theorem dX8_report_21 : decode cX8_report 21 = .ok (.invokestatic 60, 3) := by decide +kernel
theorem dX8_report_24 : decode cX8_report 24 = .ok (.ifCond .ne 7, 3) := by decide +kernel
theorem dX8_report_27 : decode cX8_report 27 = .ok (.iconst 1, 1) := by decide +kernel
theorem dX8_report_28 : decode cX8_report 28 = .ok (.goto 4, 3) := by decide +kernel
theorem dX8_report_31 : decode cX8_report 31 = .ok (.iconst 0, 1) := by decide +kernel
theorem dX8_report_32 : decode cX8_report 32 = .ok (.iconst 2, 1) := by decide +kernel
theorem dX8_report_33 : decode cX8_report 33 = .ok (.invokevirtual 64, 3) := by decide +kernel
theorem dX8_report_36 : decode cX8_report 36 = .ok (.ifCond .eq 7, 3) := by decide +kernel
theorem dX8_report_39 : decode cX8_report 39 = .ok (.iconst 0, 1) := by decide +kernel
theorem dX8_report_40 : decode cX8_report 40 = .ok (.goto 9, 3) := by decide +kernel
theorem dX8_report_43 : decode cX8_report 43 = .ok (.aload_n 0, 1) := by decide +kernel
theorem dX8_report_44 : decode cX8_report 44 = .ok (.iload_n 1, 1) := by decide +kernel
theorem dX8_report_45 : decode cX8_report 45 = .ok (.iload_n 2, 1) := by decide +kernel
theorem dX8_report_46 : decode cX8_report 46 = .ok (.invokevirtual 307, 3) := by decide +kernel
theorem dX8_report_49 : decode cX8_report 49 = .ok (.ireturn, 1) := by decide +kernel
theorem dX8_endsHour_0 : decode cX8_endsHour 0 = .ok (.aload_n 0, 1) := by decide +kernel
theorem dX8_endsHour_1 : decode cX8_endsHour 1 = .ok (.invokevirtual 304, 3) := by decide +kernel
theorem dX8_endsHour_4 : decode cX8_endsHour 4 = .ok (.aload_n 0, 1) := by decide +kernel
theorem dX8_endsHour_5 : decode cX8_endsHour 5 = .ok (.invokevirtual 310, 3) := by decide +kernel
theorem dX8_endsHour_8 : decode cX8_endsHour 8 = .ok (.ireturn, 1) := by decide +kernel
theorem dX8_endHour_0 : decode cX8_endHour 0 = .ok (.aload_n 0, 1) := by decide +kernel
theorem dX8_endHour_1 : decode cX8_endHour 1 = .ok (.iconst 0, 1) := by decide +kernel
theorem dX8_endHour_2 : decode cX8_endHour 2 = .ok (.putfield 57, 3) := by decide +kernel
theorem dX8_endHour_5 : decode cX8_endHour 5 = .ok (.aload_n 0, 1) := by decide +kernel
theorem dX8_endHour_6 : decode cX8_endHour 6 = .ok (.invokevirtual 313, 3) := by decide +kernel
theorem dX8_endHour_9 : decode cX8_endHour 9 = .ok (.ireturn, 1) := by decide +kernel
theorem dX8_storms_0 : decode cX8_storms 0 = .ok (.aload_n 0, 1) := by decide +kernel
theorem dX8_storms_1 : decode cX8_storms 1 = .ok (.invokevirtual 304, 3) := by decide +kernel
theorem dX8_storms_4 : decode cX8_storms 4 = .ok (.aload_n 0, 1) := by decide +kernel
theorem dX8_storms_5 : decode cX8_storms 5 = .ok (.iload_n 1, 1) := by decide +kernel
theorem dX8_storms_6 : decode cX8_storms 6 = .ok (.iload_n 2, 1) := by decide +kernel
theorem dX8_storms_7 : decode cX8_storms 7 = .ok (.iload_n 3, 1) := by decide +kernel
theorem dX8_storms_8 : decode cX8_storms 8 = .ok (.invokevirtual 279, 3) := by decide +kernel
theorem dX8_storms_11 : decode cX8_storms 11 = .ok (.istore 4, 2) := by decide +kernel
theorem dX8_storms_13 : decode cX8_storms 13 = .ok (.iload_n 2, 1) := by decide +kernel
theorem dX8_storms_14 : decode cX8_storms 14 = .ok (.istore 5, 2) := by decide +kernel
theorem dX8_storms_16 : decode cX8_storms 16 = .ok (.iload 5, 2) := by decide +kernel
theorem dX8_storms_18 : decode cX8_storms 18 = .ok (.iload_n 3, 1) := by decide +kernel
theorem dX8_storms_19 : decode cX8_storms 19 = .ok (.if_icmp .ge 77, 3) := by decide +kernel
theorem dX8_storms_22 : decode cX8_storms 22 = .ok (.aload_n 0, 1) := by decide +kernel
theorem dX8_storms_23 : decode cX8_storms 23 = .ok (.getfield 7, 3) := by decide +kernel
theorem dX8_storms_26 : decode cX8_storms 26 = .ok (.bipush 122, 2) := by decide +kernel
theorem dX8_storms_28 : decode cX8_storms 28 = .ok (.iload 5, 2) := by decide +kernel
theorem dX8_storms_30 : decode cX8_storms 30 = .ok (.iadd, 1) := by decide +kernel
theorem dX8_storms_31 : decode cX8_storms 31 = .ok (.dup2, 1) := by decide +kernel
theorem dX8_storms_32 : decode cX8_storms 32 = .ok (.iaload, 1) := by decide +kernel
theorem dX8_storms_33 : decode cX8_storms 33 = .ok (.aload_n 0, 1) := by decide +kernel
theorem dX8_storms_34 : decode cX8_storms 34 = .ok (.getfield 7, 3) := by decide +kernel
theorem dX8_storms_37 : decode cX8_storms 37 = .ok (.sipush 132, 3) := by decide +kernel
theorem dX8_storms_40 : decode cX8_storms 40 = .ok (.iload 5, 2) := by decide +kernel
theorem dX8_storms_42 : decode cX8_storms 42 = .ok (.iadd, 1) := by decide +kernel
theorem dX8_storms_43 : decode cX8_storms 43 = .ok (.iaload, 1) := by decide +kernel
theorem dX8_storms_44 : decode cX8_storms 44 = .ok (.ifCond .ne 7, 3) := by decide +kernel
theorem dX8_storms_47 : decode cX8_storms 47 = .ok (.iload_n 1, 1) := by decide +kernel
theorem dX8_storms_48 : decode cX8_storms 48 = .ok (.goto 4, 3) := by decide +kernel
theorem dX8_storms_51 : decode cX8_storms 51 = .ok (.iconst 0, 1) := by decide +kernel
theorem dX8_storms_52 : decode cX8_storms 52 = .ok (.iadd, 1) := by decide +kernel
theorem dX8_storms_53 : decode cX8_storms 53 = .ok (.iastore, 1) := by decide +kernel
theorem dX8_storms_54 : decode cX8_storms 54 = .ok (.aload_n 0, 1) := by decide +kernel
theorem dX8_storms_55 : decode cX8_storms 55 = .ok (.getfield 7, 3) := by decide +kernel
theorem dX8_storms_58 : decode cX8_storms 58 = .ok (.sipush 132, 3) := by decide +kernel
theorem dX8_storms_61 : decode cX8_storms 61 = .ok (.iload 5, 2) := by decide +kernel
theorem dX8_storms_63 : decode cX8_storms 63 = .ok (.iadd, 1) := by decide +kernel
theorem dX8_storms_64 : decode cX8_storms 64 = .ok (.iload 4, 2) := by decide +kernel
theorem dX8_storms_66 : decode cX8_storms 66 = .ok (.iload 5, 2) := by decide +kernel
theorem dX8_storms_68 : decode cX8_storms 68 = .ok (.invokestatic 176, 3) := by decide +kernel
theorem dX8_storms_71 : decode cX8_storms 71 = .ok (.ifCond .eq 7, 3) := by decide +kernel
theorem dX8_storms_74 : decode cX8_storms 74 = .ok (.iconst 1, 1) := by decide +kernel
theorem dX8_storms_75 : decode cX8_storms 75 = .ok (.goto 14, 3) := by decide +kernel
theorem dX8_storms_78 : decode cX8_storms 78 = .ok (.aload_n 0, 1) := by decide +kernel
theorem dX8_storms_79 : decode cX8_storms 79 = .ok (.getfield 7, 3) := by decide +kernel
theorem dX8_storms_82 : decode cX8_storms 82 = .ok (.sipush 132, 3) := by decide +kernel
theorem dX8_storms_85 : decode cX8_storms 85 = .ok (.iload 5, 2) := by decide +kernel
theorem dX8_storms_87 : decode cX8_storms 87 = .ok (.iadd, 1) := by decide +kernel
theorem dX8_storms_88 : decode cX8_storms 88 = .ok (.iaload, 1) := by decide +kernel
theorem dX8_storms_89 : decode cX8_storms 89 = .ok (.iastore, 1) := by decide +kernel
theorem dX8_storms_90 : decode cX8_storms 90 = .ok (.iinc 5 1, 3) := by decide +kernel
theorem dX8_storms_93 : decode cX8_storms 93 = .ok (.goto (-77), 3) := by decide +kernel
theorem dX8_storms_96 : decode cX8_storms 96 = .ok (.aload_n 0, 1) := by decide +kernel
theorem dX8_storms_97 : decode cX8_storms 97 = .ok (.iload_n 1, 1) := by decide +kernel
theorem dX8_storms_98 : decode cX8_storms 98 = .ok (.iload_n 2, 1) := by decide +kernel
theorem dX8_storms_99 : decode cX8_storms 99 = .ok (.iload_n 3, 1) := by decide +kernel
theorem dX8_storms_100 : decode cX8_storms 100 = .ok (.aload_n 0, 1) := by decide +kernel
theorem dX8_storms_101 : decode cX8_storms 101 = .ok (.invokevirtual 249, 3) := by decide +kernel
theorem dX8_storms_104 : decode cX8_storms 104 = .ok (.invokevirtual 283, 3) := by decide +kernel
theorem dX8_storms_107 : decode cX8_storms 107 = .ok (.istore 5, 2) := by decide +kernel
theorem dX8_storms_109 : decode cX8_storms 109 = .ok (.iconst 0, 1) := by decide +kernel
theorem dX8_storms_110 : decode cX8_storms 110 = .ok (.istore 6, 2) := by decide +kernel
theorem dX8_storms_112 : decode cX8_storms 112 = .ok (.iload 6, 2) := by decide +kernel
theorem dX8_storms_114 : decode cX8_storms 114 = .ok (.aload_n 0, 1) := by decide +kernel
theorem dX8_storms_115 : decode cX8_storms 115 = .ok (.getfield 7, 3) := by decide +kernel
theorem dX8_storms_118 : decode cX8_storms 118 = .ok (.iconst 0, 1) := by decide +kernel
theorem dX8_storms_119 : decode cX8_storms 119 = .ok (.iaload, 1) := by decide +kernel
theorem dX8_storms_120 : decode cX8_storms 120 = .ok (.if_icmp .ge 39, 3) := by decide +kernel
theorem dX8_storms_123 : decode cX8_storms 123 = .ok (.iload 5, 2) := by decide +kernel
theorem dX8_storms_125 : decode cX8_storms 125 = .ok (.iload 6, 2) := by decide +kernel
theorem dX8_storms_127 : decode cX8_storms 127 = .ok (.invokestatic 176, 3) := by decide +kernel
theorem dX8_storms_130 : decode cX8_storms 130 = .ok (.ifCond .eq 23, 3) := by decide +kernel
theorem dX8_storms_133 : decode cX8_storms 133 = .ok (.aload_n 0, 1) := by decide +kernel
theorem dX8_storms_134 : decode cX8_storms 134 = .ok (.getfield 7, 3) := by decide +kernel
theorem dX8_storms_137 : decode cX8_storms 137 = .ok (.bipush 52, 2) := by decide +kernel
theorem dX8_storms_139 : decode cX8_storms 139 = .ok (.iload 6, 2) := by decide +kernel
theorem dX8_storms_141 : decode cX8_storms 141 = .ok (.iadd, 1) := by decide +kernel
theorem dX8_storms_142 : decode cX8_storms 142 = .ok (.iaload, 1) := by decide +kernel
theorem dX8_storms_143 : decode cX8_storms 143 = .ok (.iconst 2, 1) := by decide +kernel
theorem dX8_storms_144 : decode cX8_storms 144 = .ok (.if_icmp .eq 9, 3) := by decide +kernel
theorem dX8_storms_147 : decode cX8_storms 147 = .ok (.aload_n 0, 1) := by decide +kernel
theorem dX8_storms_148 : decode cX8_storms 148 = .ok (.iload 6, 2) := by decide +kernel
theorem dX8_storms_150 : decode cX8_storms 150 = .ok (.invokevirtual 316, 3) := by decide +kernel
theorem dX8_storms_153 : decode cX8_storms 153 = .ok (.iinc 6 1, 3) := by decide +kernel
theorem dX8_storms_156 : decode cX8_storms 156 = .ok (.goto (-44), 3) := by decide +kernel
theorem dX8_storms_159 : decode cX8_storms 159 = .ok (.aload_n 0, 1) := by decide +kernel
theorem dX8_storms_160 : decode cX8_storms 160 = .ok (.getfield 7, 3) := by decide +kernel
theorem dX8_storms_163 : decode cX8_storms 163 = .ok (.bipush 7, 2) := by decide +kernel
theorem dX8_storms_165 : decode cX8_storms 165 = .ok (.dup2, 1) := by decide +kernel
theorem dX8_storms_166 : decode cX8_storms 166 = .ok (.iaload, 1) := by decide +kernel
theorem dX8_storms_167 : decode cX8_storms 167 = .ok (.iconst 1, 1) := by decide +kernel
theorem dX8_storms_168 : decode cX8_storms 168 = .ok (.iadd, 1) := by decide +kernel
theorem dX8_storms_169 : decode cX8_storms 169 = .ok (.iastore, 1) := by decide +kernel
theorem dX8_storms_170 : decode cX8_storms 170 = .ok (.iload 5, 2) := by decide +kernel
theorem dX8_storms_172 : decode cX8_storms 172 = .ok (.ireturn, 1) := by decide +kernel
theorem dX8_suspects_0 : decode cX8_suspects 0 = .ok (.aload_n 0, 1) := by decide +kernel
theorem dX8_suspects_1 : decode cX8_suspects 1 = .ok (.getfield 7, 3) := by decide +kernel
theorem dX8_suspects_4 : decode cX8_suspects 4 = .ok (.bipush 52, 2) := by decide +kernel
theorem dX8_suspects_6 : decode cX8_suspects 6 = .ok (.iload_n 1, 1) := by decide +kernel
theorem dX8_suspects_7 : decode cX8_suspects 7 = .ok (.iadd, 1) := by decide +kernel
theorem dX8_suspects_8 : decode cX8_suspects 8 = .ok (.iconst 1, 1) := by decide +kernel
theorem dX8_suspects_9 : decode cX8_suspects 9 = .ok (.iastore, 1) := by decide +kernel
theorem dX8_suspects_10 : decode cX8_suspects 10 = .ok (.aload_n 0, 1) := by decide +kernel
theorem dX8_suspects_11 : decode cX8_suspects 11 = .ok (.getfield 7, 3) := by decide +kernel
theorem dX8_suspects_14 : decode cX8_suspects 14 = .ok (.bipush 62, 2) := by decide +kernel
theorem dX8_suspects_16 : decode cX8_suspects 16 = .ok (.iload_n 1, 1) := by decide +kernel
theorem dX8_suspects_17 : decode cX8_suspects 17 = .ok (.iadd, 1) := by decide +kernel
theorem dX8_suspects_18 : decode cX8_suspects 18 = .ok (.iconst 0, 1) := by decide +kernel
theorem dX8_suspects_19 : decode cX8_suspects 19 = .ok (.iastore, 1) := by decide +kernel
theorem dX8_suspects_20 : decode cX8_suspects 20 = .ok (.aload_n 0, 1) := by decide +kernel
theorem dX8_suspects_21 : decode cX8_suspects 21 = .ok (.getfield 7, 3) := by decide +kernel
theorem dX8_suspects_24 : decode cX8_suspects 24 = .ok (.bipush 72, 2) := by decide +kernel
theorem dX8_suspects_26 : decode cX8_suspects 26 = .ok (.iload_n 1, 1) := by decide +kernel
theorem dX8_suspects_27 : decode cX8_suspects 27 = .ok (.iadd, 1) := by decide +kernel
theorem dX8_suspects_28 : decode cX8_suspects 28 = .ok (.iconst 0, 1) := by decide +kernel
theorem dX8_suspects_29 : decode cX8_suspects 29 = .ok (.iastore, 1) := by decide +kernel
theorem dX8_suspects_30 : decode cX8_suspects 30 = .ok (.aload_n 0, 1) := by decide +kernel
theorem dX8_suspects_31 : decode cX8_suspects 31 = .ok (.getfield 7, 3) := by decide +kernel
theorem dX8_suspects_34 : decode cX8_suspects 34 = .ok (.bipush 82, 2) := by decide +kernel
theorem dX8_suspects_36 : decode cX8_suspects 36 = .ok (.iload_n 1, 1) := by decide +kernel
theorem dX8_suspects_37 : decode cX8_suspects 37 = .ok (.iadd, 1) := by decide +kernel
theorem dX8_suspects_38 : decode cX8_suspects 38 = .ok (.iconst (-1), 1) := by decide +kernel
theorem dX8_suspects_39 : decode cX8_suspects 39 = .ok (.iastore, 1) := by decide +kernel
theorem dX8_suspects_40 : decode cX8_suspects 40 = .ok (.return_, 1) := by decide +kernel
theorem dX8_storm_0 : decode cX8_storm 0 = .ok (.aload_n 0, 1) := by decide +kernel
theorem dX8_storm_1 : decode cX8_storm 1 = .ok (.iconst 0, 1) := by decide +kernel
theorem dX8_storm_2 : decode cX8_storm 2 = .ok (.putfield 57, 3) := by decide +kernel
theorem dX8_storm_5 : decode cX8_storm 5 = .ok (.aload_n 0, 1) := by decide +kernel
theorem dX8_storm_6 : decode cX8_storm 6 = .ok (.iload_n 1, 1) := by decide +kernel
theorem dX8_storm_7 : decode cX8_storm 7 = .ok (.iload_n 2, 1) := by decide +kernel
theorem dX8_storm_8 : decode cX8_storm 8 = .ok (.iload_n 3, 1) := by decide +kernel
theorem dX8_storm_9 : decode cX8_storm 9 = .ok (.invokevirtual 276, 3) := by decide +kernel
theorem dX8_storm_12 : decode cX8_storm 12 = .ok (.ifCond .eq 7, 3) := by decide +kernel
theorem dX8_storm_15 : decode cX8_storm 15 = .ok (.iconst 0, 1) := by decide +kernel
theorem dX8_storm_16 : decode cX8_storm 16 = .ok (.goto 10, 3) := by decide +kernel
theorem dX8_storm_19 : decode cX8_storm 19 = .ok (.aload_n 0, 1) := by decide +kernel
theorem dX8_storm_20 : decode cX8_storm 20 = .ok (.iload_n 1, 1) := by decide +kernel
theorem dX8_storm_21 : decode cX8_storm 21 = .ok (.iload_n 2, 1) := by decide +kernel
theorem dX8_storm_22 : decode cX8_storm 22 = .ok (.iload_n 3, 1) := by decide +kernel
theorem dX8_storm_23 : decode cX8_storm 23 = .ok (.invokevirtual 319, 3) := by decide +kernel
theorem dX8_storm_26 : decode cX8_storm 26 = .ok (.ireturn, 1) := by decide +kernel
theorem dX8_renews_0 : decode cX8_renews 0 = .ok (.aload_n 0, 1) := by decide +kernel
theorem dX8_renews_1 : decode cX8_renews 1 = .ok (.getfield 7, 3) := by decide +kernel
theorem dX8_renews_4 : decode cX8_renews 4 = .ok (.iconst 4, 1) := by decide +kernel
theorem dX8_renews_5 : decode cX8_renews 5 = .ok (.dup2, 1) := by decide +kernel
theorem dX8_renews_6 : decode cX8_renews 6 = .ok (.iaload, 1) := by decide +kernel
theorem dX8_renews_7 : decode cX8_renews 7 = .ok (.aload_n 0, 1) := by decide +kernel
theorem dX8_renews_8 : decode cX8_renews 8 = .ok (.iload_n 1, 1) := by decide +kernel
theorem dX8_renews_9 : decode cX8_renews 9 = .ok (.invokevirtual 261, 3) := by decide +kernel
theorem dX8_renews_12 : decode cX8_renews 12 = .ok (.isub, 1) := by decide +kernel
theorem dX8_renews_13 : decode cX8_renews 13 = .ok (.iastore, 1) := by decide +kernel
theorem dX8_renews_14 : decode cX8_renews 14 = .ok (.aload_n 0, 1) := by decide +kernel
theorem dX8_renews_15 : decode cX8_renews 15 = .ok (.getfield 7, 3) := by decide +kernel
theorem dX8_renews_18 : decode cX8_renews 18 = .ok (.bipush 10, 2) := by decide +kernel
theorem dX8_renews_20 : decode cX8_renews 20 = .ok (.dup2, 1) := by decide +kernel
theorem dX8_renews_21 : decode cX8_renews 21 = .ok (.iaload, 1) := by decide +kernel
theorem dX8_renews_22 : decode cX8_renews 22 = .ok (.aload_n 0, 1) := by decide +kernel
theorem dX8_renews_23 : decode cX8_renews 23 = .ok (.iload_n 1, 1) := by decide +kernel
theorem dX8_renews_24 : decode cX8_renews 24 = .ok (.invokevirtual 261, 3) := by decide +kernel
theorem dX8_renews_27 : decode cX8_renews 27 = .ok (.iadd, 1) := by decide +kernel
theorem dX8_renews_28 : decode cX8_renews 28 = .ok (.iastore, 1) := by decide +kernel
theorem dX8_renews_29 : decode cX8_renews 29 = .ok (.aload_n 0, 1) := by decide +kernel
theorem dX8_renews_30 : decode cX8_renews 30 = .ok (.getfield 7, 3) := by decide +kernel
theorem dX8_renews_33 : decode cX8_renews 33 = .ok (.sipush 132, 3) := by decide +kernel
theorem dX8_renews_36 : decode cX8_renews 36 = .ok (.iload_n 1, 1) := by decide +kernel
theorem dX8_renews_37 : decode cX8_renews 37 = .ok (.iadd, 1) := by decide +kernel
theorem dX8_renews_38 : decode cX8_renews 38 = .ok (.iconst 0, 1) := by decide +kernel
theorem dX8_renews_39 : decode cX8_renews 39 = .ok (.iastore, 1) := by decide +kernel
theorem dX8_renews_40 : decode cX8_renews 40 = .ok (.aload_n 0, 1) := by decide +kernel
theorem dX8_renews_41 : decode cX8_renews 41 = .ok (.getfield 7, 3) := by decide +kernel
theorem dX8_renews_44 : decode cX8_renews 44 = .ok (.bipush 122, 2) := by decide +kernel
theorem dX8_renews_46 : decode cX8_renews 46 = .ok (.iload_n 1, 1) := by decide +kernel
theorem dX8_renews_47 : decode cX8_renews 47 = .ok (.iadd, 1) := by decide +kernel
theorem dX8_renews_48 : decode cX8_renews 48 = .ok (.iconst 0, 1) := by decide +kernel
theorem dX8_renews_49 : decode cX8_renews 49 = .ok (.iastore, 1) := by decide +kernel
theorem dX8_renews_50 : decode cX8_renews 50 = .ok (.return_, 1) := by decide +kernel
theorem dX8_remakes_0 : decode cX8_remakes 0 = .ok (.aload_n 0, 1) := by decide +kernel
theorem dX8_remakes_1 : decode cX8_remakes 1 = .ok (.getfield 7, 3) := by decide +kernel
theorem dX8_remakes_4 : decode cX8_remakes 4 = .ok (.sipush 132, 3) := by decide +kernel
theorem dX8_remakes_7 : decode cX8_remakes 7 = .ok (.iload_n 1, 1) := by decide +kernel
theorem dX8_remakes_8 : decode cX8_remakes 8 = .ok (.iadd, 1) := by decide +kernel
theorem dX8_remakes_9 : decode cX8_remakes 9 = .ok (.iaload, 1) := by decide +kernel
theorem dX8_remakes_10 : decode cX8_remakes 10 = .ok (.ifCond .ne 21, 3) := by decide +kernel
theorem dX8_remakes_13 : decode cX8_remakes 13 = .ok (.aload_n 0, 1) := by decide +kernel
theorem dX8_remakes_14 : decode cX8_remakes 14 = .ok (.getfield 7, 3) := by decide +kernel
theorem dX8_remakes_17 : decode cX8_remakes 17 = .ok (.bipush 122, 2) := by decide +kernel
theorem dX8_remakes_19 : decode cX8_remakes 19 = .ok (.iload_n 1, 1) := by decide +kernel
theorem dX8_remakes_20 : decode cX8_remakes 20 = .ok (.iadd, 1) := by decide +kernel
theorem dX8_remakes_21 : decode cX8_remakes 21 = .ok (.iaload, 1) := by decide +kernel
theorem dX8_remakes_22 : decode cX8_remakes 22 = .ok (.ifCond .ne 9, 3) := by decide +kernel
theorem dX8_remakes_25 : decode cX8_remakes 25 = .ok (.aload_n 0, 1) := by decide +kernel
theorem dX8_remakes_26 : decode cX8_remakes 26 = .ok (.iconst 1, 1) := by decide +kernel
theorem dX8_remakes_27 : decode cX8_remakes 27 = .ok (.invokevirtual 322, 3) := by decide +kernel
theorem dX8_remakes_30 : decode cX8_remakes 30 = .ok (.ireturn, 1) := by decide +kernel
theorem dX8_remakes_31 : decode cX8_remakes 31 = .ok (.aload_n 0, 1) := by decide +kernel
theorem dX8_remakes_32 : decode cX8_remakes 32 = .ok (.iload_n 1, 1) := by decide +kernel
theorem dX8_remakes_33 : decode cX8_remakes 33 = .ok (.invokevirtual 261, 3) := by decide +kernel
theorem dX8_remakes_36 : decode cX8_remakes 36 = .ok (.aload_n 0, 1) := by decide +kernel
theorem dX8_remakes_37 : decode cX8_remakes 37 = .ok (.getfield 7, 3) := by decide +kernel
theorem dX8_remakes_40 : decode cX8_remakes 40 = .ok (.iconst 4, 1) := by decide +kernel
theorem dX8_remakes_41 : decode cX8_remakes 41 = .ok (.iaload, 1) := by decide +kernel
theorem dX8_remakes_42 : decode cX8_remakes 42 = .ok (.if_icmp .le 9, 3) := by decide +kernel
theorem dX8_remakes_45 : decode cX8_remakes 45 = .ok (.aload_n 0, 1) := by decide +kernel
theorem dX8_remakes_46 : decode cX8_remakes 46 = .ok (.iconst 2, 1) := by decide +kernel
theorem dX8_remakes_47 : decode cX8_remakes 47 = .ok (.invokevirtual 322, 3) := by decide +kernel
theorem dX8_remakes_50 : decode cX8_remakes 50 = .ok (.ireturn, 1) := by decide +kernel
theorem dX8_remakes_51 : decode cX8_remakes 51 = .ok (.aload_n 0, 1) := by decide +kernel
theorem dX8_remakes_52 : decode cX8_remakes 52 = .ok (.invokevirtual 304, 3) := by decide +kernel
theorem dX8_remakes_55 : decode cX8_remakes 55 = .ok (.aload_n 0, 1) := by decide +kernel
theorem dX8_remakes_56 : decode cX8_remakes 56 = .ok (.iload_n 1, 1) := by decide +kernel
theorem dX8_remakes_57 : decode cX8_remakes 57 = .ok (.invokevirtual 325, 3) := by decide +kernel
theorem dX8_remakes_60 : decode cX8_remakes 60 = .ok (.aload_n 0, 1) := by decide +kernel
theorem dX8_remakes_61 : decode cX8_remakes 61 = .ok (.getfield 7, 3) := by decide +kernel
theorem dX8_remakes_64 : decode cX8_remakes 64 = .ok (.iconst 4, 1) := by decide +kernel
theorem dX8_remakes_65 : decode cX8_remakes 65 = .ok (.iaload, 1) := by decide +kernel
theorem dX8_remakes_66 : decode cX8_remakes 66 = .ok (.ireturn, 1) := by decide +kernel
theorem dX8_remake_0 : decode cX8_remake 0 = .ok (.aload_n 0, 1) := by decide +kernel
theorem dX8_remake_1 : decode cX8_remake 1 = .ok (.iconst 0, 1) := by decide +kernel
theorem dX8_remake_2 : decode cX8_remake 2 = .ok (.putfield 57, 3) := by decide +kernel
theorem dX8_remake_5 : decode cX8_remake 5 = .ok (.aload_n 0, 1) := by decide +kernel
theorem dX8_remake_6 : decode cX8_remake 6 = .ok (.iload_n 1, 1) := by decide +kernel
theorem dX8_remake_7 : decode cX8_remake 7 = .ok (.invokevirtual 258, 3) := by decide +kernel
theorem dX8_remake_10 : decode cX8_remake 10 = .ok (.ifCond .eq 7, 3) := by decide +kernel
theorem dX8_remake_13 : decode cX8_remake 13 = .ok (.iconst 0, 1) := by decide +kernel
theorem dX8_remake_14 : decode cX8_remake 14 = .ok (.goto 8, 3) := by decide +kernel
theorem dX8_remake_17 : decode cX8_remake 17 = .ok (.aload_n 0, 1) := by decide +kernel
theorem dX8_remake_18 : decode cX8_remake 18 = .ok (.iload_n 1, 1) := by decide +kernel
theorem dX8_remake_19 : decode cX8_remake 19 = .ok (.invokevirtual 328, 3) := by decide +kernel
theorem dX8_remake_22 : decode cX8_remake 22 = .ok (.ireturn, 1) := by decide +kernel
theorem dX8_remakesBy_0 : decode cX8_remakesBy 0 = .ok (.aload_n 0, 1) := by decide +kernel
theorem dX8_remakesBy_1 : decode cX8_remakesBy 1 = .ok (.iload_n 1, 1) := by decide +kernel
theorem dX8_remakesBy_2 : decode cX8_remakesBy 2 = .ok (.invokevirtual 301, 3) := by decide +kernel
theorem dX8_remakesBy_5 : decode cX8_remakesBy 5 = .ok (.istore_n 2, 1) := by decide +kernel
theorem dX8_remakesBy_6 : decode cX8_remakesBy 6 = .ok (.iload_n 2, 1) := by decide +kernel
theorem dX8_remakesBy_7 : decode cX8_remakesBy 7 = .ok (.iconst (-1), 1) := by decide +kernel
theorem dX8_remakesBy_8 : decode cX8_remakesBy 8 = .ok (.if_icmp .ne 9, 3) := by decide +kernel
theorem dX8_remakesBy_11 : decode cX8_remakesBy 11 = .ok (.aload_n 0, 1) := by decide +kernel
theorem dX8_remakesBy_12 : decode cX8_remakesBy 12 = .ok (.iconst 3, 1) := by decide +kernel
theorem dX8_remakesBy_13 : decode cX8_remakesBy 13 = .ok (.invokevirtual 322, 3) := by decide +kernel
theorem dX8_remakesBy_16 : decode cX8_remakesBy 16 = .ok (.ireturn, 1) := by decide +kernel
theorem dX8_remakesBy_17 : decode cX8_remakesBy 17 = .ok (.aload_n 0, 1) := by decide +kernel
theorem dX8_remakesBy_18 : decode cX8_remakesBy 18 = .ok (.invokevirtual 304, 3) := by decide +kernel
theorem dX8_remakesBy_21 : decode cX8_remakesBy 21 = .ok (.iconst 0, 1) := by decide +kernel
theorem dX8_remakesBy_22 : decode cX8_remakesBy 22 = .ok (.istore_n 3, 1) := by decide +kernel
theorem dX8_remakesBy_23 : decode cX8_remakesBy 23 = .ok (.iload_n 3, 1) := by decide +kernel
theorem dX8_remakesBy_24 : decode cX8_remakesBy 24 = .ok (.bipush 9, 2) := by decide +kernel
theorem dX8_remakesBy_26 : decode cX8_remakesBy 26 = .ok (.if_icmp .ge 22, 3) := by decide +kernel
theorem dX8_remakesBy_29 : decode cX8_remakesBy 29 = .ok (.iload_n 2, 1) := by decide +kernel
theorem dX8_remakesBy_30 : decode cX8_remakesBy 30 = .ok (.iload_n 3, 1) := by decide +kernel
theorem dX8_remakesBy_31 : decode cX8_remakesBy 31 = .ok (.invokestatic 176, 3) := by decide +kernel
theorem dX8_remakesBy_34 : decode cX8_remakesBy 34 = .ok (.ifCond .eq 8, 3) := by decide +kernel
theorem dX8_remakesBy_37 : decode cX8_remakesBy 37 = .ok (.aload_n 0, 1) := by decide +kernel
theorem dX8_remakesBy_38 : decode cX8_remakesBy 38 = .ok (.iload_n 3, 1) := by decide +kernel
theorem dX8_remakesBy_39 : decode cX8_remakesBy 39 = .ok (.invokevirtual 325, 3) := by decide +kernel
theorem dX8_remakesBy_42 : decode cX8_remakesBy 42 = .ok (.iinc 3 1, 3) := by decide +kernel
theorem dX8_remakesBy_45 : decode cX8_remakesBy 45 = .ok (.goto (-22), 3) := by decide +kernel
theorem dX8_remakesBy_48 : decode cX8_remakesBy 48 = .ok (.iload_n 2, 1) := by decide +kernel
theorem dX8_remakesBy_49 : decode cX8_remakesBy 49 = .ok (.invokestatic 243, 3) := by decide +kernel
theorem dX8_remakesBy_52 : decode cX8_remakesBy 52 = .ok (.ireturn, 1) := by decide +kernel
theorem dX8_remakeBy_0 : decode cX8_remakeBy 0 = .ok (.aload_n 0, 1) := by decide +kernel
theorem dX8_remakeBy_1 : decode cX8_remakeBy 1 = .ok (.iload_n 1, 1) := by decide +kernel
theorem dX8_remakeBy_2 : decode cX8_remakeBy 2 = .ok (.invokevirtual 292, 3) := by decide +kernel
theorem dX8_remakeBy_5 : decode cX8_remakeBy 5 = .ok (.ifCond .eq 7, 3) := by decide +kernel
theorem dX8_remakeBy_8 : decode cX8_remakeBy 8 = .ok (.iconst 0, 1) := by decide +kernel
theorem dX8_remakeBy_9 : decode cX8_remakeBy 9 = .ok (.goto 8, 3) := by decide +kernel
theorem dX8_remakeBy_12 : decode cX8_remakeBy 12 = .ok (.aload_n 0, 1) := by decide +kernel
theorem dX8_remakeBy_13 : decode cX8_remakeBy 13 = .ok (.iload_n 1, 1) := by decide +kernel
theorem dX8_remakeBy_14 : decode cX8_remakeBy 14 = .ok (.invokevirtual 331, 3) := by decide +kernel
theorem dX8_remakeBy_17 : decode cX8_remakeBy 17 = .ok (.ireturn, 1) := by decide +kernel
theorem dX8_hauls_0 : decode cX8_hauls 0 = .ok (.aload_n 0, 1) := by decide +kernel
theorem dX8_hauls_1 : decode cX8_hauls 1 = .ok (.getfield 7, 3) := by decide +kernel
theorem dX8_hauls_4 : decode cX8_hauls 4 = .ok (.bipush 52, 2) := by decide +kernel
theorem dX8_hauls_6 : decode cX8_hauls 6 = .ok (.iload_n 1, 1) := by decide +kernel
theorem dX8_hauls_7 : decode cX8_hauls 7 = .ok (.iadd, 1) := by decide +kernel
theorem dX8_hauls_8 : decode cX8_hauls 8 = .ok (.iaload, 1) := by decide +kernel
theorem dX8_hauls_9 : decode cX8_hauls 9 = .ok (.iconst 2, 1) := by decide +kernel
theorem dX8_hauls_10 : decode cX8_hauls 10 = .ok (.if_icmp .eq 9, 3) := by decide +kernel
theorem dX8_hauls_13 : decode cX8_hauls 13 = .ok (.aload_n 0, 1) := by decide +kernel
theorem dX8_hauls_14 : decode cX8_hauls 14 = .ok (.iconst 1, 1) := by decide +kernel
theorem dX8_hauls_15 : decode cX8_hauls 15 = .ok (.invokevirtual 322, 3) := by decide +kernel
theorem dX8_hauls_18 : decode cX8_hauls 18 = .ok (.ireturn, 1) := by decide +kernel
theorem dX8_hauls_19 : decode cX8_hauls 19 = .ok (.aload_n 0, 1) := by decide +kernel
theorem dX8_hauls_20 : decode cX8_hauls 20 = .ok (.invokevirtual 304, 3) := by decide +kernel
theorem dX8_hauls_23 : decode cX8_hauls 23 = .ok (.aload_n 0, 1) := by decide +kernel
theorem dX8_hauls_24 : decode cX8_hauls 24 = .ok (.iload_n 1, 1) := by decide +kernel
theorem dX8_hauls_25 : decode cX8_hauls 25 = .ok (.invokevirtual 316, 3) := by decide +kernel
theorem dX8_hauls_28 : decode cX8_hauls 28 = .ok (.aload_n 0, 1) := by decide +kernel
theorem dX8_hauls_29 : decode cX8_hauls 29 = .ok (.iconst 2, 1) := by decide +kernel
theorem dX8_hauls_30 : decode cX8_hauls 30 = .ok (.invokevirtual 246, 3) := by decide +kernel
theorem dX8_hauls_33 : decode cX8_hauls 33 = .ok (.ireturn, 1) := by decide +kernel
theorem dX8_haul_0 : decode cX8_haul 0 = .ok (.aload_n 0, 1) := by decide +kernel
theorem dX8_haul_1 : decode cX8_haul 1 = .ok (.iconst 0, 1) := by decide +kernel
theorem dX8_haul_2 : decode cX8_haul 2 = .ok (.putfield 57, 3) := by decide +kernel
theorem dX8_haul_5 : decode cX8_haul 5 = .ok (.aload_n 0, 1) := by decide +kernel
theorem dX8_haul_6 : decode cX8_haul 6 = .ok (.iload_n 1, 1) := by decide +kernel
theorem dX8_haul_7 : decode cX8_haul 7 = .ok (.invokevirtual 255, 3) := by decide +kernel
theorem dX8_haul_10 : decode cX8_haul 10 = .ok (.ifCond .eq 7, 3) := by decide +kernel
theorem dX8_haul_13 : decode cX8_haul 13 = .ok (.iconst 0, 1) := by decide +kernel
theorem dX8_haul_14 : decode cX8_haul 14 = .ok (.goto 8, 3) := by decide +kernel
theorem dX8_haul_17 : decode cX8_haul 17 = .ok (.aload_n 0, 1) := by decide +kernel
theorem dX8_haul_18 : decode cX8_haul 18 = .ok (.iload_n 1, 1) := by decide +kernel
theorem dX8_haul_19 : decode cX8_haul 19 = .ok (.invokevirtual 334, 3) := by decide +kernel
theorem dX8_haul_22 : decode cX8_haul 22 = .ok (.ireturn, 1) := by decide +kernel
theorem dX8_stocks_0 : decode cX8_stocks 0 = .ok (.aload_n 0, 1) := by decide +kernel
theorem dX8_stocks_1 : decode cX8_stocks 1 = .ok (.getfield 7, 3) := by decide +kernel
theorem dX8_stocks_4 : decode cX8_stocks 4 = .ok (.iconst 4, 1) := by decide +kernel
theorem dX8_stocks_5 : decode cX8_stocks 5 = .ok (.iaload, 1) := by decide +kernel
theorem dX8_stocks_6 : decode cX8_stocks 6 = .ok (.iload_n 1, 1) := by decide +kernel
theorem dX8_stocks_7 : decode cX8_stocks 7 = .ok (.iadd, 1) := by decide +kernel
theorem dX8_stocks_8 : decode cX8_stocks 8 = .ok (.ldc 157, 2) := by decide +kernel
theorem dX8_stocks_10 : decode cX8_stocks 10 = .ok (.if_icmp .le 9, 3) := by decide +kernel
theorem dX8_stocks_13 : decode cX8_stocks 13 = .ok (.aload_n 0, 1) := by decide +kernel
theorem dX8_stocks_14 : decode cX8_stocks 14 = .ok (.iconst 4, 1) := by decide +kernel
theorem dX8_stocks_15 : decode cX8_stocks 15 = .ok (.invokevirtual 322, 3) := by decide +kernel
theorem dX8_stocks_18 : decode cX8_stocks 18 = .ok (.ireturn, 1) := by decide +kernel
theorem dX8_stocks_19 : decode cX8_stocks 19 = .ok (.aload_n 0, 1) := by decide +kernel
theorem dX8_stocks_20 : decode cX8_stocks 20 = .ok (.invokevirtual 304, 3) := by decide +kernel
theorem dX8_stocks_23 : decode cX8_stocks 23 = .ok (.aload_n 0, 1) := by decide +kernel
theorem dX8_stocks_24 : decode cX8_stocks 24 = .ok (.getfield 7, 3) := by decide +kernel
theorem dX8_stocks_27 : decode cX8_stocks 27 = .ok (.iconst 4, 1) := by decide +kernel
theorem dX8_stocks_28 : decode cX8_stocks 28 = .ok (.dup2, 1) := by decide +kernel
theorem dX8_stocks_29 : decode cX8_stocks 29 = .ok (.iaload, 1) := by decide +kernel
theorem dX8_stocks_30 : decode cX8_stocks 30 = .ok (.iload_n 1, 1) := by decide +kernel
theorem dX8_stocks_31 : decode cX8_stocks 31 = .ok (.iadd, 1) := by decide +kernel
theorem dX8_stocks_32 : decode cX8_stocks 32 = .ok (.iastore, 1) := by decide +kernel
theorem dX8_stocks_33 : decode cX8_stocks 33 = .ok (.aload_n 0, 1) := by decide +kernel
theorem dX8_stocks_34 : decode cX8_stocks 34 = .ok (.getfield 7, 3) := by decide +kernel
theorem dX8_stocks_37 : decode cX8_stocks 37 = .ok (.bipush 9, 2) := by decide +kernel
theorem dX8_stocks_39 : decode cX8_stocks 39 = .ok (.dup2, 1) := by decide +kernel
theorem dX8_stocks_40 : decode cX8_stocks 40 = .ok (.iaload, 1) := by decide +kernel
theorem dX8_stocks_41 : decode cX8_stocks 41 = .ok (.iload_n 1, 1) := by decide +kernel
theorem dX8_stocks_42 : decode cX8_stocks 42 = .ok (.iadd, 1) := by decide +kernel
theorem dX8_stocks_43 : decode cX8_stocks 43 = .ok (.iastore, 1) := by decide +kernel
theorem dX8_stocks_44 : decode cX8_stocks 44 = .ok (.aload_n 0, 1) := by decide +kernel
theorem dX8_stocks_45 : decode cX8_stocks 45 = .ok (.getfield 7, 3) := by decide +kernel
theorem dX8_stocks_48 : decode cX8_stocks 48 = .ok (.iconst 4, 1) := by decide +kernel
theorem dX8_stocks_49 : decode cX8_stocks 49 = .ok (.iaload, 1) := by decide +kernel
theorem dX8_stocks_50 : decode cX8_stocks 50 = .ok (.ireturn, 1) := by decide +kernel
theorem dX8_addStock_0 : decode cX8_addStock 0 = .ok (.aload_n 0, 1) := by decide +kernel
theorem dX8_addStock_1 : decode cX8_addStock 1 = .ok (.iconst 0, 1) := by decide +kernel
theorem dX8_addStock_2 : decode cX8_addStock 2 = .ok (.putfield 57, 3) := by decide +kernel
theorem dX8_addStock_5 : decode cX8_addStock 5 = .ok (.aload_n 0, 1) := by decide +kernel
theorem dX8_addStock_6 : decode cX8_addStock 6 = .ok (.iload_n 1, 1) := by decide +kernel
theorem dX8_addStock_7 : decode cX8_addStock 7 = .ok (.iconst 1, 1) := by decide +kernel
theorem dX8_addStock_8 : decode cX8_addStock 8 = .ok (.sipush 9999, 3) := by decide +kernel
theorem dX8_addStock_11 : decode cX8_addStock 11 = .ok (.invokestatic 60, 3) := by decide +kernel
theorem dX8_addStock_14 : decode cX8_addStock 14 = .ok (.ifCond .ne 7, 3) := by decide +kernel
theorem dX8_addStock_17 : decode cX8_addStock 17 = .ok (.iconst 1, 1) := by decide +kernel
theorem dX8_addStock_18 : decode cX8_addStock 18 = .ok (.goto 4, 3) := by decide +kernel
theorem dX8_addStock_21 : decode cX8_addStock 21 = .ok (.iconst 0, 1) := by decide +kernel
theorem dX8_addStock_22 : decode cX8_addStock 22 = .ok (.iconst 1, 1) := by decide +kernel
theorem dX8_addStock_23 : decode cX8_addStock 23 = .ok (.invokevirtual 64, 3) := by decide +kernel
theorem dX8_addStock_26 : decode cX8_addStock 26 = .ok (.ifCond .eq 7, 3) := by decide +kernel
theorem dX8_addStock_29 : decode cX8_addStock 29 = .ok (.iconst 0, 1) := by decide +kernel
theorem dX8_addStock_30 : decode cX8_addStock 30 = .ok (.goto 8, 3) := by decide +kernel
theorem dX8_addStock_33 : decode cX8_addStock 33 = .ok (.aload_n 0, 1) := by decide +kernel
theorem dX8_addStock_34 : decode cX8_addStock 34 = .ok (.iload_n 1, 1) := by decide +kernel
theorem dX8_addStock_35 : decode cX8_addStock 35 = .ok (.invokevirtual 337, 3) := by decide +kernel
theorem dX8_addStock_38 : decode cX8_addStock 38 = .ok (.ireturn, 1) := by decide +kernel
theorem dX8_replaces_0 : decode cX8_replaces 0 = .ok (.aload_n 0, 1) := by decide +kernel
theorem dX8_replaces_1 : decode cX8_replaces 1 = .ok (.invokevirtual 304, 3) := by decide +kernel
theorem dX8_replaces_4 : decode cX8_replaces 4 = .ok (.aload_n 0, 1) := by decide +kernel
theorem dX8_replaces_5 : decode cX8_replaces 5 = .ok (.getfield 7, 3) := by decide +kernel
theorem dX8_replaces_8 : decode cX8_replaces 8 = .ok (.iload_n 1, 1) := by decide +kernel
theorem dX8_replaces_9 : decode cX8_replaces 9 = .ok (.iaload, 1) := by decide +kernel
theorem dX8_replaces_10 : decode cX8_replaces 10 = .ok (.istore_n 3, 1) := by decide +kernel
theorem dX8_replaces_11 : decode cX8_replaces 11 = .ok (.aload_n 0, 1) := by decide +kernel
theorem dX8_replaces_12 : decode cX8_replaces 12 = .ok (.getfield 7, 3) := by decide +kernel
theorem dX8_replaces_15 : decode cX8_replaces 15 = .ok (.iload_n 1, 1) := by decide +kernel
theorem dX8_replaces_16 : decode cX8_replaces 16 = .ok (.iload_n 2, 1) := by decide +kernel
theorem dX8_replaces_17 : decode cX8_replaces 17 = .ok (.iastore, 1) := by decide +kernel
theorem dX8_replaces_18 : decode cX8_replaces 18 = .ok (.iload_n 3, 1) := by decide +kernel
theorem dX8_replaces_19 : decode cX8_replaces 19 = .ok (.ireturn, 1) := by decide +kernel
theorem dX8_setOffset_0 : decode cX8_setOffset 0 = .ok (.aload_n 0, 1) := by decide +kernel
theorem dX8_setOffset_1 : decode cX8_setOffset 1 = .ok (.iconst 0, 1) := by decide +kernel
theorem dX8_setOffset_2 : decode cX8_setOffset 2 = .ok (.putfield 57, 3) := by decide +kernel
theorem dX8_setOffset_5 : decode cX8_setOffset 5 = .ok (.aload_n 0, 1) := by decide +kernel
theorem dX8_setOffset_6 : decode cX8_setOffset 6 = .ok (.iload_n 1, 1) := by decide +kernel
theorem dX8_setOffset_7 : decode cX8_setOffset 7 = .ok (.invokevirtual 255, 3) := by decide +kernel
theorem dX8_setOffset_10 : decode cX8_setOffset 10 = .ok (.ifCond .ne 27, 3) := by decide +kernel
theorem dX8_setOffset_13 : decode cX8_setOffset 13 = .ok (.aload_n 0, 1) := by decide +kernel
theorem dX8_setOffset_14 : decode cX8_setOffset 14 = .ok (.iload_n 2, 1) := by decide +kernel
theorem dX8_setOffset_15 : decode cX8_setOffset 15 = .ok (.bipush (-99), 2) := by decide +kernel
theorem dX8_setOffset_17 : decode cX8_setOffset 17 = .ok (.bipush 99, 2) := by decide +kernel
theorem dX8_setOffset_19 : decode cX8_setOffset 19 = .ok (.invokestatic 60, 3) := by decide +kernel
theorem dX8_setOffset_22 : decode cX8_setOffset 22 = .ok (.ifCond .ne 7, 3) := by decide +kernel
theorem dX8_setOffset_25 : decode cX8_setOffset 25 = .ok (.iconst 1, 1) := by decide +kernel
theorem dX8_setOffset_26 : decode cX8_setOffset 26 = .ok (.goto 4, 3) := by decide +kernel
theorem dX8_setOffset_29 : decode cX8_setOffset 29 = .ok (.iconst 0, 1) := by decide +kernel
theorem dX8_setOffset_30 : decode cX8_setOffset 30 = .ok (.iconst 2, 1) := by decide +kernel
theorem dX8_setOffset_31 : decode cX8_setOffset 31 = .ok (.invokevirtual 64, 3) := by decide +kernel
theorem dX8_setOffset_34 : decode cX8_setOffset 34 = .ok (.ifCond .eq 7, 3) := by decide +kernel
theorem dX8_setOffset_37 : decode cX8_setOffset 37 = .ok (.iconst 0, 1) := by decide +kernel
theorem dX8_setOffset_38 : decode cX8_setOffset 38 = .ok (.goto 15, 3) := by decide +kernel
theorem dX8_setOffset_41 : decode cX8_setOffset 41 = .ok (.aload_n 0, 1) := by decide +kernel
theorem dX8_setOffset_42 : decode cX8_setOffset 42 = .ok (.bipush 42, 2) := by decide +kernel
theorem dX8_setOffset_44 : decode cX8_setOffset 44 = .ok (.iload_n 1, 1) := by decide +kernel
theorem dX8_setOffset_45 : decode cX8_setOffset 45 = .ok (.iadd, 1) := by decide +kernel
theorem dX8_setOffset_46 : decode cX8_setOffset 46 = .ok (.iload_n 2, 1) := by decide +kernel
theorem dX8_setOffset_47 : decode cX8_setOffset 47 = .ok (.invokevirtual 340, 3) := by decide +kernel
theorem dX8_setOffset_50 : decode cX8_setOffset 50 = .ok (.bipush 99, 2) := by decide +kernel
theorem dX8_setOffset_52 : decode cX8_setOffset 52 = .ok (.iadd, 1) := by decide +kernel
theorem dX8_setOffset_53 : decode cX8_setOffset 53 = .ok (.ireturn, 1) := by decide +kernel
theorem dX8_setHold_0 : decode cX8_setHold 0 = .ok (.aload_n 0, 1) := by decide +kernel
theorem dX8_setHold_1 : decode cX8_setHold 1 = .ok (.iconst 0, 1) := by decide +kernel
theorem dX8_setHold_2 : decode cX8_setHold 2 = .ok (.putfield 57, 3) := by decide +kernel
theorem dX8_setHold_5 : decode cX8_setHold 5 = .ok (.aload_n 0, 1) := by decide +kernel
theorem dX8_setHold_6 : decode cX8_setHold 6 = .ok (.iload_n 1, 1) := by decide +kernel
theorem dX8_setHold_7 : decode cX8_setHold 7 = .ok (.invokevirtual 255, 3) := by decide +kernel
theorem dX8_setHold_10 : decode cX8_setHold 10 = .ok (.ifCond .ne 26, 3) := by decide +kernel
theorem dX8_setHold_13 : decode cX8_setHold 13 = .ok (.aload_n 0, 1) := by decide +kernel
theorem dX8_setHold_14 : decode cX8_setHold 14 = .ok (.iload_n 2, 1) := by decide +kernel
theorem dX8_setHold_15 : decode cX8_setHold 15 = .ok (.iconst 0, 1) := by decide +kernel
theorem dX8_setHold_16 : decode cX8_setHold 16 = .ok (.bipush 99, 2) := by decide +kernel
theorem dX8_setHold_18 : decode cX8_setHold 18 = .ok (.invokestatic 60, 3) := by decide +kernel
theorem dX8_setHold_21 : decode cX8_setHold 21 = .ok (.ifCond .ne 7, 3) := by decide +kernel
theorem dX8_setHold_24 : decode cX8_setHold 24 = .ok (.iconst 1, 1) := by decide +kernel
theorem dX8_setHold_25 : decode cX8_setHold 25 = .ok (.goto 4, 3) := by decide +kernel
theorem dX8_setHold_28 : decode cX8_setHold 28 = .ok (.iconst 0, 1) := by decide +kernel
theorem dX8_setHold_29 : decode cX8_setHold 29 = .ok (.iconst 2, 1) := by decide +kernel
theorem dX8_setHold_30 : decode cX8_setHold 30 = .ok (.invokevirtual 64, 3) := by decide +kernel
theorem dX8_setHold_33 : decode cX8_setHold 33 = .ok (.ifCond .eq 7, 3) := by decide +kernel
theorem dX8_setHold_36 : decode cX8_setHold 36 = .ok (.iconst 0, 1) := by decide +kernel
theorem dX8_setHold_37 : decode cX8_setHold 37 = .ok (.goto 12, 3) := by decide +kernel
theorem dX8_setHold_40 : decode cX8_setHold 40 = .ok (.aload_n 0, 1) := by decide +kernel
theorem dX8_setHold_41 : decode cX8_setHold 41 = .ok (.bipush 32, 2) := by decide +kernel
theorem dX8_setHold_43 : decode cX8_setHold 43 = .ok (.iload_n 1, 1) := by decide +kernel
theorem dX8_setHold_44 : decode cX8_setHold 44 = .ok (.iadd, 1) := by decide +kernel
theorem dX8_setHold_45 : decode cX8_setHold 45 = .ok (.iload_n 2, 1) := by decide +kernel
theorem dX8_setHold_46 : decode cX8_setHold 46 = .ok (.invokevirtual 340, 3) := by decide +kernel
theorem dX8_setHold_49 : decode cX8_setHold 49 = .ok (.ireturn, 1) := by decide +kernel
theorem dX8_setTerms_0 : decode cX8_setTerms 0 = .ok (.aload_n 0, 1) := by decide +kernel
theorem dX8_setTerms_1 : decode cX8_setTerms 1 = .ok (.iconst 0, 1) := by decide +kernel
theorem dX8_setTerms_2 : decode cX8_setTerms 2 = .ok (.putfield 57, 3) := by decide +kernel
theorem dX8_setTerms_5 : decode cX8_setTerms 5 = .ok (.aload_n 0, 1) := by decide +kernel
theorem dX8_setTerms_6 : decode cX8_setTerms 6 = .ok (.iload_n 1, 1) := by decide +kernel
theorem dX8_setTerms_7 : decode cX8_setTerms 7 = .ok (.iconst 0, 1) := by decide +kernel
theorem dX8_setTerms_8 : decode cX8_setTerms 8 = .ok (.sipush 999, 3) := by decide +kernel
theorem dX8_setTerms_11 : decode cX8_setTerms 11 = .ok (.invokestatic 60, 3) := by decide +kernel
theorem dX8_setTerms_14 : decode cX8_setTerms 14 = .ok (.ifCond .eq 23, 3) := by decide +kernel
theorem dX8_setTerms_17 : decode cX8_setTerms 17 = .ok (.iload_n 2, 1) := by decide +kernel
theorem dX8_setTerms_18 : decode cX8_setTerms 18 = .ok (.iconst 1, 1) := by decide +kernel
theorem dX8_setTerms_19 : decode cX8_setTerms 19 = .ok (.bipush 9, 2) := by decide +kernel
theorem dX8_setTerms_21 : decode cX8_setTerms 21 = .ok (.invokestatic 60, 3) := by decide +kernel
theorem dX8_setTerms_24 : decode cX8_setTerms 24 = .ok (.ifCond .eq 13, 3) := by decide +kernel
theorem dX8_setTerms_27 : decode cX8_setTerms 27 = .ok (.iload_n 3, 1) := by decide +kernel
theorem dX8_setTerms_28 : decode cX8_setTerms 28 = .ok (.iconst 1, 1) := by decide +kernel
theorem dX8_setTerms_29 : decode cX8_setTerms 29 = .ok (.bipush 9, 2) := by decide +kernel
theorem dX8_setTerms_31 : decode cX8_setTerms 31 = .ok (.invokestatic 60, 3) := by decide +kernel
theorem dX8_setTerms_34 : decode cX8_setTerms 34 = .ok (.ifCond .ne 7, 3) := by decide +kernel
theorem dX8_setTerms_37 : decode cX8_setTerms 37 = .ok (.iconst 1, 1) := by decide +kernel
theorem dX8_setTerms_38 : decode cX8_setTerms 38 = .ok (.goto 4, 3) := by decide +kernel
theorem dX8_setTerms_41 : decode cX8_setTerms 41 = .ok (.iconst 0, 1) := by decide +kernel
theorem dX8_setTerms_42 : decode cX8_setTerms 42 = .ok (.iconst 1, 1) := by decide +kernel
theorem dX8_setTerms_43 : decode cX8_setTerms 43 = .ok (.invokevirtual 64, 3) := by decide +kernel
theorem dX8_setTerms_46 : decode cX8_setTerms 46 = .ok (.ifCond .eq 5, 3) := by decide +kernel
theorem dX8_setTerms_49 : decode cX8_setTerms 49 = .ok (.iconst 0, 1) := by decide +kernel
theorem dX8_setTerms_50 : decode cX8_setTerms 50 = .ok (.ireturn, 1) := by decide +kernel
theorem dX8_setTerms_51 : decode cX8_setTerms 51 = .ok (.aload_n 0, 1) := by decide +kernel
theorem dX8_setTerms_52 : decode cX8_setTerms 52 = .ok (.iconst 1, 1) := by decide +kernel
theorem dX8_setTerms_53 : decode cX8_setTerms 53 = .ok (.iload_n 1, 1) := by decide +kernel
theorem dX8_setTerms_54 : decode cX8_setTerms 54 = .ok (.invokevirtual 340, 3) := by decide +kernel
theorem dX8_setTerms_57 : decode cX8_setTerms 57 = .ok (.istore 4, 2) := by decide +kernel
theorem dX8_setTerms_59 : decode cX8_setTerms 59 = .ok (.aload_n 0, 1) := by decide +kernel
theorem dX8_setTerms_60 : decode cX8_setTerms 60 = .ok (.getfield 7, 3) := by decide +kernel
theorem dX8_setTerms_63 : decode cX8_setTerms 63 = .ok (.iconst 2, 1) := by decide +kernel
theorem dX8_setTerms_64 : decode cX8_setTerms 64 = .ok (.iload_n 2, 1) := by decide +kernel
theorem dX8_setTerms_65 : decode cX8_setTerms 65 = .ok (.iastore, 1) := by decide +kernel
theorem dX8_setTerms_66 : decode cX8_setTerms 66 = .ok (.aload_n 0, 1) := by decide +kernel
theorem dX8_setTerms_67 : decode cX8_setTerms 67 = .ok (.getfield 7, 3) := by decide +kernel
theorem dX8_setTerms_70 : decode cX8_setTerms 70 = .ok (.iconst 3, 1) := by decide +kernel
theorem dX8_setTerms_71 : decode cX8_setTerms 71 = .ok (.iload_n 3, 1) := by decide +kernel
theorem dX8_setTerms_72 : decode cX8_setTerms 72 = .ok (.iastore, 1) := by decide +kernel
theorem dX8_setTerms_73 : decode cX8_setTerms 73 = .ok (.iload 4, 2) := by decide +kernel
theorem dX8_setTerms_75 : decode cX8_setTerms 75 = .ok (.ireturn, 1) := by decide +kernel
theorem dX8_emits_0 : decode cX8_emits 0 = .ok (.aload_n 0, 1) := by decide +kernel
theorem dX8_emits_1 : decode cX8_emits 1 = .ok (.getfield 43, 3) := by decide +kernel
theorem dX8_emits_4 : decode cX8_emits 4 = .ok (.aload_n 0, 1) := by decide +kernel
theorem dX8_emits_5 : decode cX8_emits 5 = .ok (.getfield 343, 3) := by decide +kernel
theorem dX8_emits_8 : decode cX8_emits 8 = .ok (.iload_n 1, 1) := by decide +kernel
theorem dX8_emits_9 : decode cX8_emits 9 = .ok (.iastore, 1) := by decide +kernel
theorem dX8_emits_10 : decode cX8_emits 10 = .ok (.aload_n 0, 1) := by decide +kernel
theorem dX8_emits_11 : decode cX8_emits 11 = .ok (.dup, 1) := by decide +kernel
theorem dX8_emits_12 : decode cX8_emits 12 = .ok (.getfield 343, 3) := by decide +kernel
theorem dX8_emits_15 : decode cX8_emits 15 = .ok (.iconst 1, 1) := by decide +kernel
theorem dX8_emits_16 : decode cX8_emits 16 = .ok (.iadd, 1) := by decide +kernel
theorem dX8_emits_17 : decode cX8_emits 17 = .ok (.putfield 343, 3) := by decide +kernel
theorem dX8_emits_20 : decode cX8_emits 20 = .ok (.return_, 1) := by decide +kernel
theorem dX8_takesCode_0 : decode cX8_takesCode 0 = .ok (.aload_n 0, 1) := by decide +kernel
theorem dX8_takesCode_1 : decode cX8_takesCode 1 = .ok (.iload_n 1, 1) := by decide +kernel
theorem dX8_takesCode_2 : decode cX8_takesCode 2 = .ok (.iload_n 2, 1) := by decide +kernel
theorem dX8_takesCode_3 : decode cX8_takesCode 3 = .ok (.invokevirtual 131, 3) := by decide +kernel
theorem dX8_takesCode_6 : decode cX8_takesCode 6 = .ok (.ifCond .ne 5, 3) := by decide +kernel
theorem dX8_takesCode_9 : decode cX8_takesCode 9 = .ok (.iconst 0, 1) := by decide +kernel
theorem dX8_takesCode_10 : decode cX8_takesCode 10 = .ok (.ireturn, 1) := by decide +kernel
theorem dX8_takesCode_11 : decode cX8_takesCode 11 = .ok (.aload_n 0, 1) := by decide +kernel
theorem dX8_takesCode_12 : decode cX8_takesCode 12 = .ok (.aload_n 0, 1) := by decide +kernel
theorem dX8_takesCode_13 : decode cX8_takesCode 13 = .ok (.getfield 120, 3) := by decide +kernel
theorem dX8_takesCode_16 : decode cX8_takesCode 16 = .ok (.invokevirtual 346, 3) := by decide +kernel
theorem dX8_takesCode_19 : decode cX8_takesCode 19 = .ok (.iconst 1, 1) := by decide +kernel
theorem dX8_takesCode_20 : decode cX8_takesCode 20 = .ok (.ireturn, 1) := by decide +kernel
theorem dX8_takesBuoy_0 : decode cX8_takesBuoy 0 = .ok (.aload_n 0, 1) := by decide +kernel
theorem dX8_takesBuoy_1 : decode cX8_takesBuoy 1 = .ok (.iconst 0, 1) := by decide +kernel
theorem dX8_takesBuoy_2 : decode cX8_takesBuoy 2 = .ok (.aload_n 0, 1) := by decide +kernel
theorem dX8_takesBuoy_3 : decode cX8_takesBuoy 3 = .ok (.getfield 7, 3) := by decide +kernel
theorem dX8_takesBuoy_6 : decode cX8_takesBuoy 6 = .ok (.iconst 0, 1) := by decide +kernel
theorem dX8_takesBuoy_7 : decode cX8_takesBuoy 7 = .ok (.iaload, 1) := by decide +kernel
theorem dX8_takesBuoy_8 : decode cX8_takesBuoy 8 = .ok (.iconst 1, 1) := by decide +kernel
theorem dX8_takesBuoy_9 : decode cX8_takesBuoy 9 = .ok (.isub, 1) := by decide +kernel
theorem dX8_takesBuoy_10 : decode cX8_takesBuoy 10 = .ok (.invokevirtual 349, 3) := by decide +kernel
theorem dX8_takesBuoy_13 : decode cX8_takesBuoy 13 = .ok (.ireturn, 1) := by decide +kernel
theorem dX8_readHour_0 : decode cX8_readHour 0 = .ok (.aload_n 0, 1) := by decide +kernel
theorem dX8_readHour_1 : decode cX8_readHour 1 = .ok (.getfield 343, 3) := by decide +kernel
theorem dX8_readHour_4 : decode cX8_readHour 4 = .ok (.istore_n 1, 1) := by decide +kernel
theorem dX8_readHour_5 : decode cX8_readHour 5 = .ok (.iconst 0, 1) := by decide +kernel
theorem dX8_readHour_6 : decode cX8_readHour 6 = .ok (.istore_n 2, 1) := by decide +kernel
theorem dX8_readHour_7 : decode cX8_readHour 7 = .ok (.aload_n 0, 1) := by decide +kernel
theorem dX8_readHour_8 : decode cX8_readHour 8 = .ok (.iconst 0, 1) := by decide +kernel
theorem dX8_readHour_9 : decode cX8_readHour 9 = .ok (.invokevirtual 346, 3) := by decide +kernel
theorem dX8_readHour_12 : decode cX8_readHour 12 = .ok (.aload_n 0, 1) := by decide +kernel
theorem dX8_readHour_13 : decode cX8_readHour 13 = .ok (.getfield 91, 3) := by decide +kernel
theorem dX8_readHour_16 : decode cX8_readHour 16 = .ok (.iconst 2, 1) := by decide +kernel
theorem dX8_readHour_17 : decode cX8_readHour 17 = .ok (.if_icmp .ne 92, 3) := by decide +kernel
theorem dX8_readHour_20 : decode cX8_readHour 20 = .ok (.aload_n 0, 1) := by decide +kernel
theorem dX8_readHour_21 : decode cX8_readHour 21 = .ok (.iconst 0, 1) := by decide +kernel
theorem dX8_readHour_22 : decode cX8_readHour 22 = .ok (.aload_n 0, 1) := by decide +kernel
theorem dX8_readHour_23 : decode cX8_readHour 23 = .ok (.getfield 7, 3) := by decide +kernel
theorem dX8_readHour_26 : decode cX8_readHour 26 = .ok (.iconst 0, 1) := by decide +kernel
theorem dX8_readHour_27 : decode cX8_readHour 27 = .ok (.iaload, 1) := by decide +kernel
theorem dX8_readHour_28 : decode cX8_readHour 28 = .ok (.iconst 1, 1) := by decide +kernel
theorem dX8_readHour_29 : decode cX8_readHour 29 = .ok (.isub, 1) := by decide +kernel
theorem dX8_readHour_30 : decode cX8_readHour 30 = .ok (.invokevirtual 123, 3) := by decide +kernel
theorem dX8_readHour_33 : decode cX8_readHour 33 = .ok (.ifCond .ne 5, 3) := by decide +kernel
theorem dX8_readHour_36 : decode cX8_readHour 36 = .ok (.iconst 0, 1) := by decide +kernel
theorem dX8_readHour_37 : decode cX8_readHour 37 = .ok (.ireturn, 1) := by decide +kernel
theorem dX8_readHour_38 : decode cX8_readHour 38 = .ok (.iload_n 2, 1) := by decide +kernel
theorem dX8_readHour_39 : decode cX8_readHour 39 = .ok (.aload_n 0, 1) := by decide +kernel
theorem dX8_readHour_40 : decode cX8_readHour 40 = .ok (.getfield 120, 3) := by decide +kernel
theorem dX8_readHour_43 : decode cX8_readHour 43 = .ok (.invokestatic 176, 3) := by decide +kernel
theorem dX8_readHour_46 : decode cX8_readHour 46 = .ok (.ifCond .eq 9, 3) := by decide +kernel
theorem dX8_readHour_49 : decode cX8_readHour 49 = .ok (.aload_n 0, 1) := by decide +kernel
theorem dX8_readHour_50 : decode cX8_readHour 50 = .ok (.iconst 3, 1) := by decide +kernel
theorem dX8_readHour_51 : decode cX8_readHour 51 = .ok (.invokevirtual 114, 3) := by decide +kernel
theorem dX8_readHour_54 : decode cX8_readHour 54 = .ok (.ireturn, 1) := by decide +kernel
theorem dX8_readHour_55 : decode cX8_readHour 55 = .ok (.iload_n 2, 1) := by decide +kernel
theorem dX8_readHour_56 : decode cX8_readHour 56 = .ok (.iconst 1, 1) := by decide +kernel
theorem dX8_readHour_57 : decode cX8_readHour 57 = .ok (.aload_n 0, 1) := by decide +kernel
theorem dX8_readHour_58 : decode cX8_readHour 58 = .ok (.getfield 120, 3) := by decide +kernel
theorem dX8_readHour_61 : decode cX8_readHour 61 = .ok (.ishl, 1) := by decide +kernel
theorem dX8_readHour_62 : decode cX8_readHour 62 = .ok (.ior, 1) := by decide +kernel
theorem dX8_readHour_63 : decode cX8_readHour 63 = .ok (.istore_n 2, 1) := by decide +kernel
theorem dX8_readHour_64 : decode cX8_readHour 64 = .ok (.aload_n 0, 1) := by decide +kernel
theorem dX8_readHour_65 : decode cX8_readHour 65 = .ok (.aload_n 0, 1) := by decide +kernel
theorem dX8_readHour_66 : decode cX8_readHour 66 = .ok (.getfield 120, 3) := by decide +kernel
theorem dX8_readHour_69 : decode cX8_readHour 69 = .ok (.invokevirtual 346, 3) := by decide +kernel
theorem dX8_readHour_72 : decode cX8_readHour 72 = .ok (.aload_n 0, 1) := by decide +kernel
theorem dX8_readHour_73 : decode cX8_readHour 73 = .ok (.invokevirtual 117, 3) := by decide +kernel
theorem dX8_readHour_76 : decode cX8_readHour 76 = .ok (.aload_n 0, 1) := by decide +kernel
theorem dX8_readHour_77 : decode cX8_readHour 77 = .ok (.sipush 9999, 3) := by decide +kernel
theorem dX8_readHour_80 : decode cX8_readHour 80 = .ok (.invokevirtual 137, 3) := by decide +kernel
theorem dX8_readHour_83 : decode cX8_readHour 83 = .ok (.ifCond .ne 5, 3) := by decide +kernel
theorem dX8_readHour_86 : decode cX8_readHour 86 = .ok (.iconst 0, 1) := by decide +kernel
theorem dX8_readHour_87 : decode cX8_readHour 87 = .ok (.ireturn, 1) := by decide +kernel
theorem dX8_readHour_88 : decode cX8_readHour 88 = .ok (.aload_n 0, 1) := by decide +kernel
theorem dX8_readHour_89 : decode cX8_readHour 89 = .ok (.aload_n 0, 1) := by decide +kernel
theorem dX8_readHour_90 : decode cX8_readHour 90 = .ok (.getfield 120, 3) := by decide +kernel
theorem dX8_readHour_93 : decode cX8_readHour 93 = .ok (.invokevirtual 346, 3) := by decide +kernel
theorem dX8_readHour_96 : decode cX8_readHour 96 = .ok (.aload_n 0, 1) := by decide +kernel
theorem dX8_readHour_97 : decode cX8_readHour 97 = .ok (.getfield 43, 3) := by decide +kernel
theorem dX8_readHour_100 : decode cX8_readHour 100 = .ok (.iload_n 1, 1) := by decide +kernel
theorem dX8_readHour_101 : decode cX8_readHour 101 = .ok (.dup2, 1) := by decide +kernel
theorem dX8_readHour_102 : decode cX8_readHour 102 = .ok (.iaload, 1) := by decide +kernel
theorem dX8_readHour_103 : decode cX8_readHour 103 = .ok (.iconst 1, 1) := by decide +kernel
theorem dX8_readHour_104 : decode cX8_readHour 104 = .ok (.iadd, 1) := by decide +kernel
theorem dX8_readHour_105 : decode cX8_readHour 105 = .ok (.iastore, 1) := by decide +kernel
theorem dX8_readHour_106 : decode cX8_readHour 106 = .ok (.goto (-94), 3) := by decide +kernel
theorem dX8_readHour_109 : decode cX8_readHour 109 = .ok (.iconst 1, 1) := by decide +kernel
theorem dX8_readHour_110 : decode cX8_readHour 110 = .ok (.ireturn, 1) := by decide +kernel
theorem dX8_readStorm_0 : decode cX8_readStorm 0 = .ok (.aload_n 0, 1) := by decide +kernel
theorem dX8_readStorm_1 : decode cX8_readStorm 1 = .ok (.iconst 1, 1) := by decide +kernel
theorem dX8_readStorm_2 : decode cX8_readStorm 2 = .ok (.bipush 99, 2) := by decide +kernel
theorem dX8_readStorm_4 : decode cX8_readStorm 4 = .ok (.invokevirtual 349, 3) := by decide +kernel
theorem dX8_readStorm_7 : decode cX8_readStorm 7 = .ok (.ifCond .eq 10, 3) := by decide +kernel
theorem dX8_readStorm_10 : decode cX8_readStorm 10 = .ok (.aload_n 0, 1) := by decide +kernel
theorem dX8_readStorm_11 : decode cX8_readStorm 11 = .ok (.invokevirtual 352, 3) := by decide +kernel
theorem dX8_readStorm_14 : decode cX8_readStorm 14 = .ok (.ifCond .ne 5, 3) := by decide +kernel
theorem dX8_readStorm_17 : decode cX8_readStorm 17 = .ok (.iconst 0, 1) := by decide +kernel
theorem dX8_readStorm_18 : decode cX8_readStorm 18 = .ok (.ireturn, 1) := by decide +kernel
theorem dX8_readStorm_19 : decode cX8_readStorm 19 = .ok (.aload_n 0, 1) := by decide +kernel
theorem dX8_readStorm_20 : decode cX8_readStorm 20 = .ok (.getfield 120, 3) := by decide +kernel
theorem dX8_readStorm_23 : decode cX8_readStorm 23 = .ok (.istore_n 1, 1) := by decide +kernel
theorem dX8_readStorm_24 : decode cX8_readStorm 24 = .ok (.aload_n 0, 1) := by decide +kernel
theorem dX8_readStorm_25 : decode cX8_readStorm 25 = .ok (.iconst 0, 1) := by decide +kernel
theorem dX8_readStorm_26 : decode cX8_readStorm 26 = .ok (.aload_n 0, 1) := by decide +kernel
theorem dX8_readStorm_27 : decode cX8_readStorm 27 = .ok (.getfield 7, 3) := by decide +kernel
theorem dX8_readStorm_30 : decode cX8_readStorm 30 = .ok (.iconst 0, 1) := by decide +kernel
theorem dX8_readStorm_31 : decode cX8_readStorm 31 = .ok (.iaload, 1) := by decide +kernel
theorem dX8_readStorm_32 : decode cX8_readStorm 32 = .ok (.iconst 1, 1) := by decide +kernel
theorem dX8_readStorm_33 : decode cX8_readStorm 33 = .ok (.isub, 1) := by decide +kernel
theorem dX8_readStorm_34 : decode cX8_readStorm 34 = .ok (.invokevirtual 123, 3) := by decide +kernel
theorem dX8_readStorm_37 : decode cX8_readStorm 37 = .ok (.ifCond .ne 5, 3) := by decide +kernel
theorem dX8_readStorm_40 : decode cX8_readStorm 40 = .ok (.iconst 0, 1) := by decide +kernel
theorem dX8_readStorm_41 : decode cX8_readStorm 41 = .ok (.ireturn, 1) := by decide +kernel
theorem dX8_readStorm_42 : decode cX8_readStorm 42 = .ok (.aload_n 0, 1) := by decide +kernel
theorem dX8_readStorm_43 : decode cX8_readStorm 43 = .ok (.getfield 120, 3) := by decide +kernel
theorem dX8_readStorm_46 : decode cX8_readStorm 46 = .ok (.iload_n 1, 1) := by decide +kernel
theorem dX8_readStorm_47 : decode cX8_readStorm 47 = .ok (.if_icmp .ge 9, 3) := by decide +kernel
theorem dX8_readStorm_50 : decode cX8_readStorm 50 = .ok (.aload_n 0, 1) := by decide +kernel
theorem dX8_readStorm_51 : decode cX8_readStorm 51 = .ok (.iconst 3, 1) := by decide +kernel
theorem dX8_readStorm_52 : decode cX8_readStorm 52 = .ok (.invokevirtual 114, 3) := by decide +kernel
theorem dX8_readStorm_55 : decode cX8_readStorm 55 = .ok (.ireturn, 1) := by decide +kernel
theorem dX8_readStorm_56 : decode cX8_readStorm 56 = .ok (.aload_n 0, 1) := by decide +kernel
theorem dX8_readStorm_57 : decode cX8_readStorm 57 = .ok (.aload_n 0, 1) := by decide +kernel
theorem dX8_readStorm_58 : decode cX8_readStorm 58 = .ok (.getfield 120, 3) := by decide +kernel
theorem dX8_readStorm_61 : decode cX8_readStorm 61 = .ok (.invokevirtual 346, 3) := by decide +kernel
theorem dX8_readStorm_64 : decode cX8_readStorm 64 = .ok (.aload_n 0, 1) := by decide +kernel
theorem dX8_readStorm_65 : decode cX8_readStorm 65 = .ok (.invokevirtual 117, 3) := by decide +kernel
theorem dX8_readStorm_68 : decode cX8_readStorm 68 = .ok (.iconst 1, 1) := by decide +kernel
theorem dX8_readStorm_69 : decode cX8_readStorm 69 = .ok (.ireturn, 1) := by decide +kernel
theorem dX8_commandHere_0 : decode cX8_commandHere 0 = .ok (.aload_n 0, 1) := by decide +kernel
theorem dX8_commandHere_1 : decode cX8_commandHere 1 = .ok (.ldc_w 355, 3) := by decide +kernel
theorem dX8_commandHere_4 : decode cX8_commandHere 4 = .ok (.invokevirtual 142, 3) := by decide +kernel
theorem dX8_commandHere_7 : decode cX8_commandHere 7 = .ok (.ifCond .eq 7, 3) := by decide +kernel
theorem dX8_commandHere_10 : decode cX8_commandHere 10 = .ok (.iconst 0, 1) := by decide +kernel
theorem dX8_commandHere_11 : decode cX8_commandHere 11 = .ok (.goto 73, 3) := by decide +kernel
theorem dX8_commandHere_14 : decode cX8_commandHere 14 = .ok (.aload_n 0, 1) := by decide +kernel
theorem dX8_commandHere_15 : decode cX8_commandHere 15 = .ok (.ldc_w 357, 3) := by decide +kernel
theorem dX8_commandHere_18 : decode cX8_commandHere 18 = .ok (.invokevirtual 142, 3) := by decide +kernel
theorem dX8_commandHere_21 : decode cX8_commandHere 21 = .ok (.ifCond .eq 7, 3) := by decide +kernel
theorem dX8_commandHere_24 : decode cX8_commandHere 24 = .ok (.iconst 1, 1) := by decide +kernel
theorem dX8_commandHere_25 : decode cX8_commandHere 25 = .ok (.goto 59, 3) := by decide +kernel
theorem dX8_commandHere_28 : decode cX8_commandHere 28 = .ok (.aload_n 0, 1) := by decide +kernel
theorem dX8_commandHere_29 : decode cX8_commandHere 29 = .ok (.ldc_w 359, 3) := by decide +kernel
theorem dX8_commandHere_32 : decode cX8_commandHere 32 = .ok (.invokevirtual 142, 3) := by decide +kernel
theorem dX8_commandHere_35 : decode cX8_commandHere 35 = .ok (.ifCond .eq 7, 3) := by decide +kernel
theorem dX8_commandHere_38 : decode cX8_commandHere 38 = .ok (.iconst 2, 1) := by decide +kernel
theorem dX8_commandHere_39 : decode cX8_commandHere 39 = .ok (.goto 45, 3) := by decide +kernel
theorem dX8_commandHere_42 : decode cX8_commandHere 42 = .ok (.aload_n 0, 1) := by decide +kernel
theorem dX8_commandHere_43 : decode cX8_commandHere 43 = .ok (.ldc_w 361, 3) := by decide +kernel
theorem dX8_commandHere_46 : decode cX8_commandHere 46 = .ok (.invokevirtual 142, 3) := by decide +kernel
theorem dX8_commandHere_49 : decode cX8_commandHere 49 = .ok (.ifCond .eq 7, 3) := by decide +kernel
theorem dX8_commandHere_52 : decode cX8_commandHere 52 = .ok (.iconst 3, 1) := by decide +kernel
theorem dX8_commandHere_53 : decode cX8_commandHere 53 = .ok (.goto 31, 3) := by decide +kernel
theorem dX8_commandHere_56 : decode cX8_commandHere 56 = .ok (.aload_n 0, 1) := by decide +kernel
theorem dX8_commandHere_57 : decode cX8_commandHere 57 = .ok (.ldc_w 363, 3) := by decide +kernel
theorem dX8_commandHere_60 : decode cX8_commandHere 60 = .ok (.invokevirtual 142, 3) := by decide +kernel
theorem dX8_commandHere_63 : decode cX8_commandHere 63 = .ok (.ifCond .eq 7, 3) := by decide +kernel
theorem dX8_commandHere_66 : decode cX8_commandHere 66 = .ok (.iconst 4, 1) := by decide +kernel
theorem dX8_commandHere_67 : decode cX8_commandHere 67 = .ok (.goto 17, 3) := by decide +kernel
theorem dX8_commandHere_70 : decode cX8_commandHere 70 = .ok (.aload_n 0, 1) := by decide +kernel
theorem dX8_commandHere_71 : decode cX8_commandHere 71 = .ok (.ldc 155, 2) := by decide +kernel
theorem dX8_commandHere_73 : decode cX8_commandHere 73 = .ok (.invokevirtual 142, 3) := by decide +kernel
theorem dX8_commandHere_76 : decode cX8_commandHere 76 = .ok (.ifCond .eq 7, 3) := by decide +kernel
theorem dX8_commandHere_79 : decode cX8_commandHere 79 = .ok (.iconst 5, 1) := by decide +kernel
theorem dX8_commandHere_80 : decode cX8_commandHere 80 = .ok (.goto 4, 3) := by decide +kernel
theorem dX8_commandHere_83 : decode cX8_commandHere 83 = .ok (.iconst (-1), 1) := by decide +kernel
theorem dX8_commandHere_84 : decode cX8_commandHere 84 = .ok (.ireturn, 1) := by decide +kernel
theorem dX8_readCommand_0 : decode cX8_readCommand 0 = .ok (.aload_n 0, 1) := by decide +kernel
theorem dX8_readCommand_1 : decode cX8_readCommand 1 = .ok (.invokevirtual 365, 3) := by decide +kernel
theorem dX8_readCommand_4 : decode cX8_readCommand 4 = .ok (.istore_n 1, 1) := by decide +kernel
theorem dX8_readCommand_5 : decode cX8_readCommand 5 = .ok (.iload_n 1, 1) := by decide +kernel
theorem dX8_readCommand_6 : decode cX8_readCommand 6 = .ok (.iconst (-1), 1) := by decide +kernel
theorem dX8_readCommand_7 : decode cX8_readCommand 7 = .ok (.if_icmp .ne 9, 3) := by decide +kernel
theorem dX8_readCommand_10 : decode cX8_readCommand 10 = .ok (.aload_n 0, 1) := by decide +kernel
theorem dX8_readCommand_11 : decode cX8_readCommand 11 = .ok (.iconst 1, 1) := by decide +kernel
theorem dX8_readCommand_12 : decode cX8_readCommand 12 = .ok (.invokevirtual 114, 3) := by decide +kernel
theorem dX8_readCommand_15 : decode cX8_readCommand 15 = .ok (.ireturn, 1) := by decide +kernel
theorem dX8_readCommand_16 : decode cX8_readCommand 16 = .ok (.aload_n 0, 1) := by decide +kernel
theorem dX8_readCommand_17 : decode cX8_readCommand 17 = .ok (.iconst 4, 1) := by decide +kernel
theorem dX8_readCommand_18 : decode cX8_readCommand 18 = .ok (.aload_n 0, 1) := by decide +kernel
theorem dX8_readCommand_19 : decode cX8_readCommand 19 = .ok (.getfield 368, 3) := by decide +kernel
theorem dX8_readCommand_22 : decode cX8_readCommand 22 = .ok (.bipush 40, 2) := by decide +kernel
theorem dX8_readCommand_24 : decode cX8_readCommand 24 = .ok (.if_icmp .ge 7, 3) := by decide +kernel
theorem dX8_readCommand_27 : decode cX8_readCommand 27 = .ok (.iconst 1, 1) := by decide +kernel
theorem dX8_readCommand_28 : decode cX8_readCommand 28 = .ok (.goto 4, 3) := by decide +kernel
theorem dX8_readCommand_31 : decode cX8_readCommand 31 = .ok (.iconst 0, 1) := by decide +kernel
theorem dX8_readCommand_32 : decode cX8_readCommand 32 = .ok (.invokevirtual 127, 3) := by decide +kernel
theorem dX8_readCommand_35 : decode cX8_readCommand 35 = .ok (.ifCond .ne 5, 3) := by decide +kernel
theorem dX8_readCommand_38 : decode cX8_readCommand 38 = .ok (.iconst 0, 1) := by decide +kernel
theorem dX8_readCommand_39 : decode cX8_readCommand 39 = .ok (.ireturn, 1) := by decide +kernel
theorem dX8_readCommand_40 : decode cX8_readCommand 40 = .ok (.aload_n 0, 1) := by decide +kernel
theorem dX8_readCommand_41 : decode cX8_readCommand 41 = .ok (.dup, 1) := by decide +kernel
theorem dX8_readCommand_42 : decode cX8_readCommand 42 = .ok (.getfield 368, 3) := by decide +kernel
theorem dX8_readCommand_45 : decode cX8_readCommand 45 = .ok (.iconst 1, 1) := by decide +kernel
theorem dX8_readCommand_46 : decode cX8_readCommand 46 = .ok (.iadd, 1) := by decide +kernel
theorem dX8_readCommand_47 : decode cX8_readCommand 47 = .ok (.putfield 368, 3) := by decide +kernel
theorem dX8_readCommand_50 : decode cX8_readCommand 50 = .ok (.aload_n 0, 1) := by decide +kernel
theorem dX8_readCommand_51 : decode cX8_readCommand 51 = .ok (.iload_n 1, 1) := by decide +kernel
theorem dX8_readCommand_52 : decode cX8_readCommand 52 = .ok (.invokevirtual 346, 3) := by decide +kernel
theorem dX8_readCommand_55 : decode cX8_readCommand 55 = .ok (.iload_n 1, 1) := by decide +kernel
theorem dX8_readCommand_56 : decode cX8_readCommand 56 = .ok (.tableswitch 73 0 4 #[36, 41, 46, 60, 68], 36) := by decide +kernel
theorem dX8_readCommand_92 : decode cX8_readCommand 92 = .ok (.aload_n 0, 1) := by decide +kernel
theorem dX8_readCommand_93 : decode cX8_readCommand 93 = .ok (.invokevirtual 371, 3) := by decide +kernel
theorem dX8_readCommand_96 : decode cX8_readCommand 96 = .ok (.ireturn, 1) := by decide +kernel
theorem dX8_readCommand_97 : decode cX8_readCommand 97 = .ok (.aload_n 0, 1) := by decide +kernel
theorem dX8_readCommand_98 : decode cX8_readCommand 98 = .ok (.invokevirtual 374, 3) := by decide +kernel
theorem dX8_readCommand_101 : decode cX8_readCommand 101 = .ok (.ireturn, 1) := by decide +kernel
theorem dX8_readCommand_102 : decode cX8_readCommand 102 = .ok (.aload_n 0, 1) := by decide +kernel
theorem dX8_readCommand_103 : decode cX8_readCommand 103 = .ok (.iconst 0, 1) := by decide +kernel
theorem dX8_readCommand_104 : decode cX8_readCommand 104 = .ok (.aload_n 0, 1) := by decide +kernel
theorem dX8_readCommand_105 : decode cX8_readCommand 105 = .ok (.getfield 7, 3) := by decide +kernel
theorem dX8_readCommand_108 : decode cX8_readCommand 108 = .ok (.iconst 0, 1) := by decide +kernel
theorem dX8_readCommand_109 : decode cX8_readCommand 109 = .ok (.iaload, 1) := by decide +kernel
theorem dX8_readCommand_110 : decode cX8_readCommand 110 = .ok (.iconst 2, 1) := by decide +kernel
theorem dX8_readCommand_111 : decode cX8_readCommand 111 = .ok (.isub, 1) := by decide +kernel
theorem dX8_readCommand_112 : decode cX8_readCommand 112 = .ok (.invokevirtual 349, 3) := by decide +kernel
theorem dX8_readCommand_115 : decode cX8_readCommand 115 = .ok (.ireturn, 1) := by decide +kernel
theorem dX8_readCommand_116 : decode cX8_readCommand 116 = .ok (.aload_n 0, 1) := by decide +kernel
theorem dX8_readCommand_117 : decode cX8_readCommand 117 = .ok (.iconst 1, 1) := by decide +kernel
theorem dX8_readCommand_118 : decode cX8_readCommand 118 = .ok (.bipush 99, 2) := by decide +kernel
theorem dX8_readCommand_120 : decode cX8_readCommand 120 = .ok (.invokevirtual 349, 3) := by decide +kernel
theorem dX8_readCommand_123 : decode cX8_readCommand 123 = .ok (.ireturn, 1) := by decide +kernel
theorem dX8_readCommand_124 : decode cX8_readCommand 124 = .ok (.aload_n 0, 1) := by decide +kernel
theorem dX8_readCommand_125 : decode cX8_readCommand 125 = .ok (.invokevirtual 352, 3) := by decide +kernel
theorem dX8_readCommand_128 : decode cX8_readCommand 128 = .ok (.ireturn, 1) := by decide +kernel
theorem dX8_readCommand_129 : decode cX8_readCommand 129 = .ok (.aload_n 0, 1) := by decide +kernel
theorem dX8_readCommand_130 : decode cX8_readCommand 130 = .ok (.iconst 1, 1) := by decide +kernel
theorem dX8_readCommand_131 : decode cX8_readCommand 131 = .ok (.sipush 9999, 3) := by decide +kernel
theorem dX8_readCommand_134 : decode cX8_readCommand 134 = .ok (.invokevirtual 349, 3) := by decide +kernel
theorem dX8_readCommand_137 : decode cX8_readCommand 137 = .ok (.ireturn, 1) := by decide +kernel
theorem dX8_doesHour_0 : decode cX8_doesHour 0 = .ok (.iconst 0, 1) := by decide +kernel
theorem dX8_doesHour_1 : decode cX8_doesHour 1 = .ok (.istore_n 2, 1) := by decide +kernel
theorem dX8_doesHour_2 : decode cX8_doesHour 2 = .ok (.iload_n 2, 1) := by decide +kernel
theorem dX8_doesHour_3 : decode cX8_doesHour 3 = .ok (.aload_n 0, 1) := by decide +kernel
theorem dX8_doesHour_4 : decode cX8_doesHour 4 = .ok (.getfield 43, 3) := by decide +kernel
theorem dX8_doesHour_7 : decode cX8_doesHour 7 = .ok (.iload_n 1, 1) := by decide +kernel
theorem dX8_doesHour_8 : decode cX8_doesHour 8 = .ok (.iaload, 1) := by decide +kernel
theorem dX8_doesHour_9 : decode cX8_doesHour 9 = .ok (.if_icmp .ge 38, 3) := by decide +kernel
theorem dX8_doesHour_12 : decode cX8_doesHour 12 = .ok (.aload_n 0, 1) := by decide +kernel
theorem dX8_doesHour_13 : decode cX8_doesHour 13 = .ok (.aload_n 0, 1) := by decide +kernel
theorem dX8_doesHour_14 : decode cX8_doesHour 14 = .ok (.getfield 43, 3) := by decide +kernel
theorem dX8_doesHour_17 : decode cX8_doesHour 17 = .ok (.iload_n 1, 1) := by decide +kernel
theorem dX8_doesHour_18 : decode cX8_doesHour 18 = .ok (.iconst 1, 1) := by decide +kernel
theorem dX8_doesHour_19 : decode cX8_doesHour 19 = .ok (.iadd, 1) := by decide +kernel
theorem dX8_doesHour_20 : decode cX8_doesHour 20 = .ok (.iconst 2, 1) := by decide +kernel
theorem dX8_doesHour_21 : decode cX8_doesHour 21 = .ok (.iload_n 2, 1) := by decide +kernel
theorem dX8_doesHour_22 : decode cX8_doesHour 22 = .ok (.imul, 1) := by decide +kernel
theorem dX8_doesHour_23 : decode cX8_doesHour 23 = .ok (.iadd, 1) := by decide +kernel
theorem dX8_doesHour_24 : decode cX8_doesHour 24 = .ok (.iaload, 1) := by decide +kernel
theorem dX8_doesHour_25 : decode cX8_doesHour 25 = .ok (.aload_n 0, 1) := by decide +kernel
theorem dX8_doesHour_26 : decode cX8_doesHour 26 = .ok (.getfield 43, 3) := by decide +kernel
theorem dX8_doesHour_29 : decode cX8_doesHour 29 = .ok (.iload_n 1, 1) := by decide +kernel
theorem dX8_doesHour_30 : decode cX8_doesHour 30 = .ok (.iconst 2, 1) := by decide +kernel
theorem dX8_doesHour_31 : decode cX8_doesHour 31 = .ok (.iadd, 1) := by decide +kernel
theorem dX8_doesHour_32 : decode cX8_doesHour 32 = .ok (.iconst 2, 1) := by decide +kernel
theorem dX8_doesHour_33 : decode cX8_doesHour 33 = .ok (.iload_n 2, 1) := by decide +kernel
theorem dX8_doesHour_34 : decode cX8_doesHour 34 = .ok (.imul, 1) := by decide +kernel
theorem dX8_doesHour_35 : decode cX8_doesHour 35 = .ok (.iadd, 1) := by decide +kernel
theorem dX8_doesHour_36 : decode cX8_doesHour 36 = .ok (.iaload, 1) := by decide +kernel
theorem dX8_doesHour_37 : decode cX8_doesHour 37 = .ok (.invokevirtual 307, 3) := by decide +kernel
theorem dX8_doesHour_40 : decode cX8_doesHour 40 = .ok (.istore_n 3, 1) := by decide +kernel
theorem dX8_doesHour_41 : decode cX8_doesHour 41 = .ok (.iinc 2 1, 3) := by decide +kernel
theorem dX8_doesHour_44 : decode cX8_doesHour 44 = .ok (.goto (-42), 3) := by decide +kernel
theorem dX8_doesHour_47 : decode cX8_doesHour 47 = .ok (.aload_n 0, 1) := by decide +kernel
theorem dX8_doesHour_48 : decode cX8_doesHour 48 = .ok (.invokevirtual 313, 3) := by decide +kernel
theorem dX8_doesHour_51 : decode cX8_doesHour 51 = .ok (.ireturn, 1) := by decide +kernel
theorem dX8_does_0 : decode cX8_does 0 = .ok (.aload_n 0, 1) := by decide +kernel
theorem dX8_does_1 : decode cX8_does 1 = .ok (.getfield 43, 3) := by decide +kernel
theorem dX8_does_4 : decode cX8_does 4 = .ok (.iload_n 1, 1) := by decide +kernel
theorem dX8_does_5 : decode cX8_does 5 = .ok (.iconst 1, 1) := by decide +kernel
theorem dX8_does_6 : decode cX8_does 6 = .ok (.iadd, 1) := by decide +kernel
theorem dX8_does_7 : decode cX8_does 7 = .ok (.iaload, 1) := by decide +kernel
theorem dX8_does_8 : decode cX8_does 8 = .ok (.istore_n 2, 1) := by decide +kernel
theorem dX8_does_9 : decode cX8_does 9 = .ok (.aload_n 0, 1) := by decide +kernel
theorem dX8_does_10 : decode cX8_does 10 = .ok (.getfield 43, 3) := by decide +kernel
theorem dX8_does_13 : decode cX8_does 13 = .ok (.iload_n 1, 1) := by decide +kernel
theorem dX8_does_14 : decode cX8_does 14 = .ok (.iaload, 1) := by decide +kernel
theorem dX8_does_15 : decode cX8_does 15 = .ok (.tableswitch 81 0 4 #[33, 41, 63, 69, 75], 33) := by decide +kernel
theorem dX8_does_48 : decode cX8_does 48 = .ok (.aload_n 0, 1) := by decide +kernel
theorem dX8_does_49 : decode cX8_does 49 = .ok (.iload_n 1, 1) := by decide +kernel
theorem dX8_does_50 : decode cX8_does 50 = .ok (.iconst 1, 1) := by decide +kernel
theorem dX8_does_51 : decode cX8_does 51 = .ok (.iadd, 1) := by decide +kernel
theorem dX8_does_52 : decode cX8_does 52 = .ok (.invokevirtual 377, 3) := by decide +kernel
theorem dX8_does_55 : decode cX8_does 55 = .ok (.ireturn, 1) := by decide +kernel
theorem dX8_does_56 : decode cX8_does 56 = .ok (.aload_n 0, 1) := by decide +kernel
theorem dX8_does_57 : decode cX8_does 57 = .ok (.iload_n 2, 1) := by decide +kernel
theorem dX8_does_58 : decode cX8_does 58 = .ok (.aload_n 0, 1) := by decide +kernel
theorem dX8_does_59 : decode cX8_does 59 = .ok (.getfield 43, 3) := by decide +kernel
theorem dX8_does_62 : decode cX8_does 62 = .ok (.iload_n 1, 1) := by decide +kernel
theorem dX8_does_63 : decode cX8_does 63 = .ok (.iconst 2, 1) := by decide +kernel
theorem dX8_does_64 : decode cX8_does 64 = .ok (.iadd, 1) := by decide +kernel
theorem dX8_does_65 : decode cX8_does 65 = .ok (.iaload, 1) := by decide +kernel
theorem dX8_does_66 : decode cX8_does 66 = .ok (.aload_n 0, 1) := by decide +kernel
theorem dX8_does_67 : decode cX8_does 67 = .ok (.getfield 43, 3) := by decide +kernel
theorem dX8_does_70 : decode cX8_does 70 = .ok (.iload_n 1, 1) := by decide +kernel
theorem dX8_does_71 : decode cX8_does 71 = .ok (.iconst 3, 1) := by decide +kernel
theorem dX8_does_72 : decode cX8_does 72 = .ok (.iadd, 1) := by decide +kernel
theorem dX8_does_73 : decode cX8_does 73 = .ok (.iaload, 1) := by decide +kernel
theorem dX8_does_74 : decode cX8_does 74 = .ok (.invokevirtual 319, 3) := by decide +kernel
theorem dX8_does_77 : decode cX8_does 77 = .ok (.ireturn, 1) := by decide +kernel
theorem dX8_does_78 : decode cX8_does 78 = .ok (.aload_n 0, 1) := by decide +kernel
theorem dX8_does_79 : decode cX8_does 79 = .ok (.iload_n 2, 1) := by decide +kernel
theorem dX8_does_80 : decode cX8_does 80 = .ok (.invokevirtual 328, 3) := by decide +kernel
theorem dX8_does_83 : decode cX8_does 83 = .ok (.ireturn, 1) := by decide +kernel
theorem dX8_does_84 : decode cX8_does 84 = .ok (.aload_n 0, 1) := by decide +kernel
theorem dX8_does_85 : decode cX8_does 85 = .ok (.iload_n 2, 1) := by decide +kernel
theorem dX8_does_86 : decode cX8_does 86 = .ok (.invokevirtual 331, 3) := by decide +kernel
theorem dX8_does_89 : decode cX8_does 89 = .ok (.ireturn, 1) := by decide +kernel
theorem dX8_does_90 : decode cX8_does 90 = .ok (.aload_n 0, 1) := by decide +kernel
theorem dX8_does_91 : decode cX8_does 91 = .ok (.iload_n 2, 1) := by decide +kernel
theorem dX8_does_92 : decode cX8_does 92 = .ok (.invokevirtual 334, 3) := by decide +kernel
theorem dX8_does_95 : decode cX8_does 95 = .ok (.ireturn, 1) := by decide +kernel
theorem dX8_does_96 : decode cX8_does 96 = .ok (.aload_n 0, 1) := by decide +kernel
theorem dX8_does_97 : decode cX8_does 97 = .ok (.iload_n 2, 1) := by decide +kernel
theorem dX8_does_98 : decode cX8_does 98 = .ok (.invokevirtual 337, 3) := by decide +kernel
theorem dX8_does_101 : decode cX8_does 101 = .ok (.ireturn, 1) := by decide +kernel
theorem dX8_codesOf_0 : decode cX8_codesOf 0 = .ok (.aload_n 0, 1) := by decide +kernel
theorem dX8_codesOf_1 : decode cX8_codesOf 1 = .ok (.getfield 43, 3) := by decide +kernel
theorem dX8_codesOf_4 : decode cX8_codesOf 4 = .ok (.iload_n 1, 1) := by decide +kernel
theorem dX8_codesOf_5 : decode cX8_codesOf 5 = .ok (.iaload, 1) := by decide +kernel
theorem dX8_codesOf_6 : decode cX8_codesOf 6 = .ok (.ifCond .ne 18, 3) := by decide +kernel
theorem dX8_codesOf_9 : decode cX8_codesOf 9 = .ok (.iconst 2, 1) := by decide +kernel
theorem dX8_codesOf_10 : decode cX8_codesOf 10 = .ok (.iconst 2, 1) := by decide +kernel
theorem dX8_codesOf_11 : decode cX8_codesOf 11 = .ok (.aload_n 0, 1) := by decide +kernel
theorem dX8_codesOf_12 : decode cX8_codesOf 12 = .ok (.getfield 43, 3) := by decide +kernel
theorem dX8_codesOf_15 : decode cX8_codesOf 15 = .ok (.iload_n 1, 1) := by decide +kernel
theorem dX8_codesOf_16 : decode cX8_codesOf 16 = .ok (.iconst 1, 1) := by decide +kernel
theorem dX8_codesOf_17 : decode cX8_codesOf 17 = .ok (.iadd, 1) := by decide +kernel
theorem dX8_codesOf_18 : decode cX8_codesOf 18 = .ok (.iaload, 1) := by decide +kernel
theorem dX8_codesOf_19 : decode cX8_codesOf 19 = .ok (.imul, 1) := by decide +kernel
theorem dX8_codesOf_20 : decode cX8_codesOf 20 = .ok (.iadd, 1) := by decide +kernel
theorem dX8_codesOf_21 : decode cX8_codesOf 21 = .ok (.goto 18, 3) := by decide +kernel
theorem dX8_codesOf_24 : decode cX8_codesOf 24 = .ok (.aload_n 0, 1) := by decide +kernel
theorem dX8_codesOf_25 : decode cX8_codesOf 25 = .ok (.getfield 43, 3) := by decide +kernel
theorem dX8_codesOf_28 : decode cX8_codesOf 28 = .ok (.iload_n 1, 1) := by decide +kernel
theorem dX8_codesOf_29 : decode cX8_codesOf 29 = .ok (.iaload, 1) := by decide +kernel
theorem dX8_codesOf_30 : decode cX8_codesOf 30 = .ok (.iconst 1, 1) := by decide +kernel
theorem dX8_codesOf_31 : decode cX8_codesOf 31 = .ok (.if_icmp .ne 7, 3) := by decide +kernel
theorem dX8_codesOf_34 : decode cX8_codesOf 34 = .ok (.iconst 4, 1) := by decide +kernel
theorem dX8_codesOf_35 : decode cX8_codesOf 35 = .ok (.goto 4, 3) := by decide +kernel
theorem dX8_codesOf_38 : decode cX8_codesOf 38 = .ok (.iconst 2, 1) := by decide +kernel
theorem dX8_codesOf_39 : decode cX8_codesOf 39 = .ok (.ireturn, 1) := by decide +kernel
theorem dX8_play_0 : decode cX8_play 0 = .ok (.aload_n 0, 1) := by decide +kernel
theorem dX8_play_1 : decode cX8_play 1 = .ok (.iconst 0, 1) := by decide +kernel
theorem dX8_play_2 : decode cX8_play 2 = .ok (.putfield 57, 3) := by decide +kernel
theorem dX8_play_5 : decode cX8_play 5 = .ok (.aload_n 0, 1) := by decide +kernel
theorem dX8_play_6 : decode cX8_play 6 = .ok (.invokevirtual 158, 3) := by decide +kernel
theorem dX8_play_9 : decode cX8_play 9 = .ok (.aload_n 0, 1) := by decide +kernel
theorem dX8_play_10 : decode cX8_play 10 = .ok (.iconst 0, 1) := by decide +kernel
theorem dX8_play_11 : decode cX8_play 11 = .ok (.putfield 343, 3) := by decide +kernel
theorem dX8_play_14 : decode cX8_play 14 = .ok (.aload_n 0, 1) := by decide +kernel
theorem dX8_play_15 : decode cX8_play 15 = .ok (.iconst 0, 1) := by decide +kernel
theorem dX8_play_16 : decode cX8_play 16 = .ok (.putfield 368, 3) := by decide +kernel
theorem dX8_play_19 : decode cX8_play 19 = .ok (.iconst 1, 1) := by decide +kernel
theorem dX8_play_20 : decode cX8_play 20 = .ok (.istore_n 1, 1) := by decide +kernel
theorem dX8_play_21 : decode cX8_play 21 = .ok (.iload_n 1, 1) := by decide +kernel
theorem dX8_play_22 : decode cX8_play 22 = .ok (.ifCond .eq 33, 3) := by decide +kernel
theorem dX8_play_25 : decode cX8_play 25 = .ok (.aload_n 0, 1) := by decide +kernel
theorem dX8_play_26 : decode cX8_play 26 = .ok (.getfield 91, 3) := by decide +kernel
theorem dX8_play_29 : decode cX8_play 29 = .ok (.ifCond .eq 26, 3) := by decide +kernel
theorem dX8_play_32 : decode cX8_play 32 = .ok (.aload_n 0, 1) := by decide +kernel
theorem dX8_play_33 : decode cX8_play 33 = .ok (.invokevirtual 380, 3) := by decide +kernel
theorem dX8_play_36 : decode cX8_play 36 = .ok (.ifCond .eq 14, 3) := by decide +kernel
theorem dX8_play_39 : decode cX8_play 39 = .ok (.aload_n 0, 1) := by decide +kernel
theorem dX8_play_40 : decode cX8_play 40 = .ok (.invokevirtual 163, 3) := by decide +kernel
theorem dX8_play_43 : decode cX8_play 43 = .ok (.ifCond .eq 7, 3) := by decide +kernel
theorem dX8_play_46 : decode cX8_play 46 = .ok (.iconst 1, 1) := by decide +kernel
theorem dX8_play_47 : decode cX8_play 47 = .ok (.goto 4, 3) := by decide +kernel
theorem dX8_play_50 : decode cX8_play 50 = .ok (.iconst 0, 1) := by decide +kernel
theorem dX8_play_51 : decode cX8_play 51 = .ok (.istore_n 1, 1) := by decide +kernel
theorem dX8_play_52 : decode cX8_play 52 = .ok (.goto (-31), 3) := by decide +kernel
theorem dX8_play_55 : decode cX8_play 55 = .ok (.aload_n 0, 1) := by decide +kernel
theorem dX8_play_56 : decode cX8_play 56 = .ok (.iconst 0, 1) := by decide +kernel
theorem dX8_play_57 : decode cX8_play 57 = .ok (.putfield 68, 3) := by decide +kernel
theorem dX8_play_60 : decode cX8_play 60 = .ok (.iload_n 1, 1) := by decide +kernel
theorem dX8_play_61 : decode cX8_play 61 = .ok (.ifCond .ne 5, 3) := by decide +kernel
theorem dX8_play_64 : decode cX8_play 64 = .ok (.iconst (-1), 1) := by decide +kernel
theorem dX8_play_65 : decode cX8_play 65 = .ok (.ireturn, 1) := by decide +kernel
theorem dX8_play_66 : decode cX8_play 66 = .ok (.iconst 0, 1) := by decide +kernel
theorem dX8_play_67 : decode cX8_play 67 = .ok (.istore_n 2, 1) := by decide +kernel
theorem dX8_play_68 : decode cX8_play 68 = .ok (.iconst 0, 1) := by decide +kernel
theorem dX8_play_69 : decode cX8_play 69 = .ok (.istore_n 3, 1) := by decide +kernel
theorem dX8_play_70 : decode cX8_play 70 = .ok (.iload_n 2, 1) := by decide +kernel
theorem dX8_play_71 : decode cX8_play 71 = .ok (.aload_n 0, 1) := by decide +kernel
theorem dX8_play_72 : decode cX8_play 72 = .ok (.getfield 368, 3) := by decide +kernel
theorem dX8_play_75 : decode cX8_play 75 = .ok (.if_icmp .ge 25, 3) := by decide +kernel
theorem dX8_play_78 : decode cX8_play 78 = .ok (.aload_n 0, 1) := by decide +kernel
theorem dX8_play_79 : decode cX8_play 79 = .ok (.iload_n 3, 1) := by decide +kernel
theorem dX8_play_80 : decode cX8_play 80 = .ok (.invokevirtual 383, 3) := by decide +kernel
theorem dX8_play_83 : decode cX8_play 83 = .ok (.ifCond .lt 17, 3) := by decide +kernel
theorem dX8_play_86 : decode cX8_play 86 = .ok (.iload_n 3, 1) := by decide +kernel
theorem dX8_play_87 : decode cX8_play 87 = .ok (.aload_n 0, 1) := by decide +kernel
theorem dX8_play_88 : decode cX8_play 88 = .ok (.iload_n 3, 1) := by decide +kernel
theorem dX8_play_89 : decode cX8_play 89 = .ok (.invokevirtual 386, 3) := by decide +kernel
theorem dX8_play_92 : decode cX8_play 92 = .ok (.iadd, 1) := by decide +kernel
theorem dX8_play_93 : decode cX8_play 93 = .ok (.istore_n 3, 1) := by decide +kernel
theorem dX8_play_94 : decode cX8_play 94 = .ok (.iinc 2 1, 3) := by decide +kernel
theorem dX8_play_97 : decode cX8_play 97 = .ok (.goto (-27), 3) := by decide +kernel
theorem dX8_play_100 : decode cX8_play 100 = .ok (.iload_n 2, 1) := by decide +kernel
theorem dX8_play_101 : decode cX8_play 101 = .ok (.ireturn, 1) := by decide +kernel
theorem dX8_writes_0 : decode cX8_writes 0 = .ok (.aload_n 0, 1) := by decide +kernel
theorem dX8_writes_1 : decode cX8_writes 1 = .ok (.getfield 46, 3) := by decide +kernel
theorem dX8_writes_4 : decode cX8_writes 4 = .ok (.aload_n 0, 1) := by decide +kernel
theorem dX8_writes_5 : decode cX8_writes 5 = .ok (.getfield 389, 3) := by decide +kernel
theorem dX8_writes_8 : decode cX8_writes 8 = .ok (.iload_n 1, 1) := by decide +kernel
theorem dX8_writes_9 : decode cX8_writes 9 = .ok (.iastore, 1) := by decide +kernel
theorem dX8_writes_10 : decode cX8_writes 10 = .ok (.aload_n 0, 1) := by decide +kernel
theorem dX8_writes_11 : decode cX8_writes 11 = .ok (.dup, 1) := by decide +kernel
theorem dX8_writes_12 : decode cX8_writes 12 = .ok (.getfield 389, 3) := by decide +kernel
theorem dX8_writes_15 : decode cX8_writes 15 = .ok (.iconst 1, 1) := by decide +kernel
theorem dX8_writes_16 : decode cX8_writes 16 = .ok (.iadd, 1) := by decide +kernel
theorem dX8_writes_17 : decode cX8_writes 17 = .ok (.putfield 389, 3) := by decide +kernel
theorem dX8_writes_20 : decode cX8_writes 20 = .ok (.return_, 1) := by decide +kernel
theorem dX8_writesNumber_0 : decode cX8_writesNumber 0 = .ok (.iload_n 1, 1) := by decide +kernel
theorem dX8_writesNumber_1 : decode cX8_writesNumber 1 = .ok (.ifCond .ge 9, 3) := by decide +kernel
theorem dX8_writesNumber_4 : decode cX8_writesNumber 4 = .ok (.aload_n 0, 1) := by decide +kernel
theorem dX8_writesNumber_5 : decode cX8_writesNumber 5 = .ok (.bipush 45, 2) := by decide +kernel
theorem dX8_writesNumber_7 : decode cX8_writesNumber 7 = .ok (.invokevirtual 392, 3) := by decide +kernel
theorem dX8_writesNumber_10 : decode cX8_writesNumber 10 = .ok (.iload_n 1, 1) := by decide +kernel
theorem dX8_writesNumber_11 : decode cX8_writesNumber 11 = .ok (.ifCond .ge 8, 3) := by decide +kernel
theorem dX8_writesNumber_14 : decode cX8_writesNumber 14 = .ok (.iload_n 1, 1) := by decide +kernel
theorem dX8_writesNumber_15 : decode cX8_writesNumber 15 = .ok (.ineg, 1) := by decide +kernel
theorem dX8_writesNumber_16 : decode cX8_writesNumber 16 = .ok (.goto 4, 3) := by decide +kernel
theorem dX8_writesNumber_19 : decode cX8_writesNumber 19 = .ok (.iload_n 1, 1) := by decide +kernel
theorem dX8_writesNumber_20 : decode cX8_writesNumber 20 = .ok (.istore_n 2, 1) := by decide +kernel
theorem dX8_writesNumber_21 : decode cX8_writesNumber 21 = .ok (.iconst 1, 1) := by decide +kernel
theorem dX8_writesNumber_22 : decode cX8_writesNumber 22 = .ok (.istore_n 3, 1) := by decide +kernel
theorem dX8_writesNumber_23 : decode cX8_writesNumber 23 = .ok (.iload_n 2, 1) := by decide +kernel
theorem dX8_writesNumber_24 : decode cX8_writesNumber 24 = .ok (.iload_n 3, 1) := by decide +kernel
theorem dX8_writesNumber_25 : decode cX8_writesNumber 25 = .ok (.idiv, 1) := by decide +kernel
theorem dX8_writesNumber_26 : decode cX8_writesNumber 26 = .ok (.bipush 9, 2) := by decide +kernel
theorem dX8_writesNumber_28 : decode cX8_writesNumber 28 = .ok (.if_icmp .le 11, 3) := by decide +kernel
theorem dX8_writesNumber_31 : decode cX8_writesNumber 31 = .ok (.iload_n 3, 1) := by decide +kernel
theorem dX8_writesNumber_32 : decode cX8_writesNumber 32 = .ok (.bipush 10, 2) := by decide +kernel
theorem dX8_writesNumber_34 : decode cX8_writesNumber 34 = .ok (.imul, 1) := by decide +kernel
theorem dX8_writesNumber_35 : decode cX8_writesNumber 35 = .ok (.istore_n 3, 1) := by decide +kernel
theorem dX8_writesNumber_36 : decode cX8_writesNumber 36 = .ok (.goto (-13), 3) := by decide +kernel
theorem dX8_writesNumber_39 : decode cX8_writesNumber 39 = .ok (.iload_n 3, 1) := by decide +kernel
theorem dX8_writesNumber_40 : decode cX8_writesNumber 40 = .ok (.ifCond .le 24, 3) := by decide +kernel
theorem dX8_writesNumber_43 : decode cX8_writesNumber 43 = .ok (.aload_n 0, 1) := by decide +kernel
theorem dX8_writesNumber_44 : decode cX8_writesNumber 44 = .ok (.bipush 48, 2) := by decide +kernel
theorem dX8_writesNumber_46 : decode cX8_writesNumber 46 = .ok (.iload_n 2, 1) := by decide +kernel
theorem dX8_writesNumber_47 : decode cX8_writesNumber 47 = .ok (.iload_n 3, 1) := by decide +kernel
theorem dX8_writesNumber_48 : decode cX8_writesNumber 48 = .ok (.idiv, 1) := by decide +kernel
theorem dX8_writesNumber_49 : decode cX8_writesNumber 49 = .ok (.bipush 10, 2) := by decide +kernel
theorem dX8_writesNumber_51 : decode cX8_writesNumber 51 = .ok (.irem, 1) := by decide +kernel
theorem dX8_writesNumber_52 : decode cX8_writesNumber 52 = .ok (.iadd, 1) := by decide +kernel
theorem dX8_writesNumber_53 : decode cX8_writesNumber 53 = .ok (.invokevirtual 392, 3) := by decide +kernel
theorem dX8_writesNumber_56 : decode cX8_writesNumber 56 = .ok (.iload_n 3, 1) := by decide +kernel
theorem dX8_writesNumber_57 : decode cX8_writesNumber 57 = .ok (.bipush 10, 2) := by decide +kernel
theorem dX8_writesNumber_59 : decode cX8_writesNumber 59 = .ok (.idiv, 1) := by decide +kernel
theorem dX8_writesNumber_60 : decode cX8_writesNumber 60 = .ok (.istore_n 3, 1) := by decide +kernel
theorem dX8_writesNumber_61 : decode cX8_writesNumber 61 = .ok (.goto (-22), 3) := by decide +kernel
theorem dX8_writesNumber_64 : decode cX8_writesNumber 64 = .ok (.return_, 1) := by decide +kernel
theorem dX8_writeString_0 : decode cX8_writeString 0 = .ok (.aload_n 0, 1) := by decide +kernel
theorem dX8_writeString_1 : decode cX8_writeString 1 = .ok (.iconst 0, 1) := by decide +kernel
theorem dX8_writeString_2 : decode cX8_writeString 2 = .ok (.putfield 57, 3) := by decide +kernel
theorem dX8_writeString_5 : decode cX8_writeString 5 = .ok (.aload_n 0, 1) := by decide +kernel
theorem dX8_writeString_6 : decode cX8_writeString 6 = .ok (.iconst 0, 1) := by decide +kernel
theorem dX8_writeString_7 : decode cX8_writeString 7 = .ok (.putfield 389, 3) := by decide +kernel
theorem dX8_writeString_10 : decode cX8_writeString 10 = .ok (.iconst 0, 1) := by decide +kernel
theorem dX8_writeString_11 : decode cX8_writeString 11 = .ok (.istore_n 1, 1) := by decide +kernel
theorem dX8_writeString_12 : decode cX8_writeString 12 = .ok (.iload_n 1, 1) := by decide +kernel
theorem dX8_writeString_13 : decode cX8_writeString 13 = .ok (.aload_n 0, 1) := by decide +kernel
theorem dX8_writeString_14 : decode cX8_writeString 14 = .ok (.getfield 7, 3) := by decide +kernel
theorem dX8_writeString_17 : decode cX8_writeString 17 = .ok (.iconst 0, 1) := by decide +kernel
theorem dX8_writeString_18 : decode cX8_writeString 18 = .ok (.iaload, 1) := by decide +kernel
theorem dX8_writeString_19 : decode cX8_writeString 19 = .ok (.if_icmp .ge 91, 3) := by decide +kernel
theorem dX8_writeString_22 : decode cX8_writeString 22 = .ok (.aload_n 0, 1) := by decide +kernel
theorem dX8_writeString_23 : decode cX8_writeString 23 = .ok (.iload_n 1, 1) := by decide +kernel
theorem dX8_writeString_24 : decode cX8_writeString 24 = .ok (.invokevirtual 395, 3) := by decide +kernel
theorem dX8_writeString_27 : decode cX8_writeString 27 = .ok (.aload_n 0, 1) := by decide +kernel
theorem dX8_writeString_28 : decode cX8_writeString 28 = .ok (.aload_n 0, 1) := by decide +kernel
theorem dX8_writeString_29 : decode cX8_writeString 29 = .ok (.getfield 7, 3) := by decide +kernel
theorem dX8_writeString_32 : decode cX8_writeString 32 = .ok (.bipush 52, 2) := by decide +kernel
theorem dX8_writeString_34 : decode cX8_writeString 34 = .ok (.iload_n 1, 1) := by decide +kernel
theorem dX8_writeString_35 : decode cX8_writeString 35 = .ok (.iadd, 1) := by decide +kernel
theorem dX8_writeString_36 : decode cX8_writeString 36 = .ok (.iaload, 1) := by decide +kernel
theorem dX8_writeString_37 : decode cX8_writeString 37 = .ok (.ifCond .ne 8, 3) := by decide +kernel
theorem dX8_writeString_40 : decode cX8_writeString 40 = .ok (.bipush 84, 2) := by decide +kernel
theorem dX8_writeString_42 : decode cX8_writeString 42 = .ok (.goto 23, 3) := by decide +kernel
theorem dX8_writeString_45 : decode cX8_writeString 45 = .ok (.aload_n 0, 1) := by decide +kernel
theorem dX8_writeString_46 : decode cX8_writeString 46 = .ok (.getfield 7, 3) := by decide +kernel
theorem dX8_writeString_49 : decode cX8_writeString 49 = .ok (.bipush 52, 2) := by decide +kernel
theorem dX8_writeString_51 : decode cX8_writeString 51 = .ok (.iload_n 1, 1) := by decide +kernel
theorem dX8_writeString_52 : decode cX8_writeString 52 = .ok (.iadd, 1) := by decide +kernel
theorem dX8_writeString_53 : decode cX8_writeString 53 = .ok (.iaload, 1) := by decide +kernel
theorem dX8_writeString_54 : decode cX8_writeString 54 = .ok (.iconst 1, 1) := by decide +kernel
theorem dX8_writeString_55 : decode cX8_writeString 55 = .ok (.if_icmp .ne 8, 3) := by decide +kernel
theorem dX8_writeString_58 : decode cX8_writeString 58 = .ok (.bipush 83, 2) := by decide +kernel
theorem dX8_writeString_60 : decode cX8_writeString 60 = .ok (.goto 5, 3) := by decide +kernel
theorem dX8_writeString_63 : decode cX8_writeString 63 = .ok (.bipush 68, 2) := by decide +kernel
theorem dX8_writeString_65 : decode cX8_writeString 65 = .ok (.invokevirtual 392, 3) := by decide +kernel
theorem dX8_writeString_68 : decode cX8_writeString 68 = .ok (.iload_n 1, 1) := by decide +kernel
theorem dX8_writeString_69 : decode cX8_writeString 69 = .ok (.iconst 1, 1) := by decide +kernel
theorem dX8_writeString_70 : decode cX8_writeString 70 = .ok (.iadd, 1) := by decide +kernel
theorem dX8_writeString_71 : decode cX8_writeString 71 = .ok (.aload_n 0, 1) := by decide +kernel
theorem dX8_writeString_72 : decode cX8_writeString 72 = .ok (.getfield 7, 3) := by decide +kernel
theorem dX8_writeString_75 : decode cX8_writeString 75 = .ok (.iconst 0, 1) := by decide +kernel
theorem dX8_writeString_76 : decode cX8_writeString 76 = .ok (.iaload, 1) := by decide +kernel
theorem dX8_writeString_77 : decode cX8_writeString 77 = .ok (.if_icmp .ge 27, 3) := by decide +kernel
theorem dX8_writeString_80 : decode cX8_writeString 80 = .ok (.aload_n 0, 1) := by decide +kernel
theorem dX8_writeString_81 : decode cX8_writeString 81 = .ok (.aload_n 0, 1) := by decide +kernel
theorem dX8_writeString_82 : decode cX8_writeString 82 = .ok (.getfield 7, 3) := by decide +kernel
theorem dX8_writeString_85 : decode cX8_writeString 85 = .ok (.sipush 132, 3) := by decide +kernel
theorem dX8_writeString_88 : decode cX8_writeString 88 = .ok (.iload_n 1, 1) := by decide +kernel
theorem dX8_writeString_89 : decode cX8_writeString 89 = .ok (.iadd, 1) := by decide +kernel
theorem dX8_writeString_90 : decode cX8_writeString 90 = .ok (.iaload, 1) := by decide +kernel
theorem dX8_writeString_91 : decode cX8_writeString 91 = .ok (.ifCond .ne 8, 3) := by decide +kernel
theorem dX8_writeString_94 : decode cX8_writeString 94 = .ok (.bipush 45, 2) := by decide +kernel
theorem dX8_writeString_96 : decode cX8_writeString 96 = .ok (.goto 5, 3) := by decide +kernel
theorem dX8_writeString_99 : decode cX8_writeString 99 = .ok (.bipush 32, 2) := by decide +kernel
theorem dX8_writeString_101 : decode cX8_writeString 101 = .ok (.invokevirtual 392, 3) := by decide +kernel
theorem dX8_writeString_104 : decode cX8_writeString 104 = .ok (.iinc 1 1, 3) := by decide +kernel
theorem dX8_writeString_107 : decode cX8_writeString 107 = .ok (.goto (-95), 3) := by decide +kernel
theorem dX8_writeString_110 : decode cX8_writeString 110 = .ok (.aload_n 0, 1) := by decide +kernel
theorem dX8_writeString_111 : decode cX8_writeString 111 = .ok (.getfield 389, 3) := by decide +kernel
theorem dX8_writeString_114 : decode cX8_writeString 114 = .ok (.ireturn, 1) := by decide +kernel
theorem dX8_writeHours_0 : decode cX8_writeHours 0 = .ok (.aload_n 0, 1) := by decide +kernel
theorem dX8_writeHours_1 : decode cX8_writeHours 1 = .ok (.iconst 0, 1) := by decide +kernel
theorem dX8_writeHours_2 : decode cX8_writeHours 2 = .ok (.putfield 57, 3) := by decide +kernel
theorem dX8_writeHours_5 : decode cX8_writeHours 5 = .ok (.aload_n 0, 1) := by decide +kernel
theorem dX8_writeHours_6 : decode cX8_writeHours 6 = .ok (.iconst 0, 1) := by decide +kernel
theorem dX8_writeHours_7 : decode cX8_writeHours 7 = .ok (.putfield 389, 3) := by decide +kernel
theorem dX8_writeHours_10 : decode cX8_writeHours 10 = .ok (.aload_n 0, 1) := by decide +kernel
theorem dX8_writeHours_11 : decode cX8_writeHours 11 = .ok (.invokevirtual 203, 3) := by decide +kernel
theorem dX8_writeHours_14 : decode cX8_writeHours 14 = .ok (.istore_n 1, 1) := by decide +kernel
theorem dX8_writeHours_15 : decode cX8_writeHours 15 = .ok (.iload_n 1, 1) := by decide +kernel
theorem dX8_writeHours_16 : decode cX8_writeHours 16 = .ok (.aload_n 0, 1) := by decide +kernel
theorem dX8_writeHours_17 : decode cX8_writeHours 17 = .ok (.getfield 7, 3) := by decide +kernel
theorem dX8_writeHours_20 : decode cX8_writeHours 20 = .ok (.iconst 5, 1) := by decide +kernel
theorem dX8_writeHours_21 : decode cX8_writeHours 21 = .ok (.iaload, 1) := by decide +kernel
theorem dX8_writeHours_22 : decode cX8_writeHours 22 = .ok (.if_icmp .ge 62, 3) := by decide +kernel
theorem dX8_writeHours_25 : decode cX8_writeHours 25 = .ok (.iload_n 1, 1) := by decide +kernel
theorem dX8_writeHours_26 : decode cX8_writeHours 26 = .ok (.aload_n 0, 1) := by decide +kernel
theorem dX8_writeHours_27 : decode cX8_writeHours 27 = .ok (.invokevirtual 203, 3) := by decide +kernel
theorem dX8_writeHours_30 : decode cX8_writeHours 30 = .ok (.if_icmp .le 9, 3) := by decide +kernel
theorem dX8_writeHours_33 : decode cX8_writeHours 33 = .ok (.aload_n 0, 1) := by decide +kernel
theorem dX8_writeHours_34 : decode cX8_writeHours 34 = .ok (.bipush 32, 2) := by decide +kernel
theorem dX8_writeHours_36 : decode cX8_writeHours 36 = .ok (.invokevirtual 392, 3) := by decide +kernel
theorem dX8_writeHours_39 : decode cX8_writeHours 39 = .ok (.aload_n 0, 1) := by decide +kernel
theorem dX8_writeHours_40 : decode cX8_writeHours 40 = .ok (.iload_n 1, 1) := by decide +kernel
theorem dX8_writeHours_41 : decode cX8_writeHours 41 = .ok (.invokevirtual 395, 3) := by decide +kernel
theorem dX8_writeHours_44 : decode cX8_writeHours 44 = .ok (.aload_n 0, 1) := by decide +kernel
theorem dX8_writeHours_45 : decode cX8_writeHours 45 = .ok (.iload_n 1, 1) := by decide +kernel
theorem dX8_writeHours_46 : decode cX8_writeHours 46 = .ok (.iconst 2, 1) := by decide +kernel
theorem dX8_writeHours_47 : decode cX8_writeHours 47 = .ok (.invokevirtual 209, 3) := by decide +kernel
theorem dX8_writeHours_50 : decode cX8_writeHours 50 = .ok (.ifCond .ne 12, 3) := by decide +kernel
theorem dX8_writeHours_53 : decode cX8_writeHours 53 = .ok (.aload_n 0, 1) := by decide +kernel
theorem dX8_writeHours_54 : decode cX8_writeHours 54 = .ok (.bipush 63, 2) := by decide +kernel
theorem dX8_writeHours_56 : decode cX8_writeHours 56 = .ok (.invokevirtual 392, 3) := by decide +kernel
theorem dX8_writeHours_59 : decode cX8_writeHours 59 = .ok (.goto 19, 3) := by decide +kernel
theorem dX8_writeHours_62 : decode cX8_writeHours 62 = .ok (.aload_n 0, 1) := by decide +kernel
theorem dX8_writeHours_63 : decode cX8_writeHours 63 = .ok (.bipush 61, 2) := by decide +kernel
theorem dX8_writeHours_65 : decode cX8_writeHours 65 = .ok (.invokevirtual 392, 3) := by decide +kernel
theorem dX8_writeHours_68 : decode cX8_writeHours 68 = .ok (.aload_n 0, 1) := by decide +kernel
theorem dX8_writeHours_69 : decode cX8_writeHours 69 = .ok (.aload_n 0, 1) := by decide +kernel
theorem dX8_writeHours_70 : decode cX8_writeHours 70 = .ok (.iload_n 1, 1) := by decide +kernel
theorem dX8_writeHours_71 : decode cX8_writeHours 71 = .ok (.iconst 5, 1) := by decide +kernel
theorem dX8_writeHours_72 : decode cX8_writeHours 72 = .ok (.invokevirtual 209, 3) := by decide +kernel
theorem dX8_writeHours_75 : decode cX8_writeHours 75 = .ok (.invokevirtual 395, 3) := by decide +kernel
theorem dX8_writeHours_78 : decode cX8_writeHours 78 = .ok (.iinc 1 1, 3) := by decide +kernel
theorem dX8_writeHours_81 : decode cX8_writeHours 81 = .ok (.goto (-66), 3) := by decide +kernel
theorem dX8_writeHours_84 : decode cX8_writeHours 84 = .ok (.aload_n 0, 1) := by decide +kernel
theorem dX8_writeHours_85 : decode cX8_writeHours 85 = .ok (.getfield 389, 3) := by decide +kernel
theorem dX8_writeHours_88 : decode cX8_writeHours 88 = .ok (.ireturn, 1) := by decide +kernel
theorem dX8_output_0 : decode cX8_output 0 = .ok (.aload_n 0, 1) := by decide +kernel
theorem dX8_output_1 : decode cX8_output 1 = .ok (.iconst 0, 1) := by decide +kernel
theorem dX8_output_2 : decode cX8_output 2 = .ok (.putfield 57, 3) := by decide +kernel
theorem dX8_output_5 : decode cX8_output 5 = .ok (.aload_n 0, 1) := by decide +kernel
theorem dX8_output_6 : decode cX8_output 6 = .ok (.iload_n 1, 1) := by decide +kernel
theorem dX8_output_7 : decode cX8_output 7 = .ok (.iconst 0, 1) := by decide +kernel
theorem dX8_output_8 : decode cX8_output 8 = .ok (.aload_n 0, 1) := by decide +kernel
theorem dX8_output_9 : decode cX8_output 9 = .ok (.getfield 389, 3) := by decide +kernel
theorem dX8_output_12 : decode cX8_output 12 = .ok (.iconst 1, 1) := by decide +kernel
theorem dX8_output_13 : decode cX8_output 13 = .ok (.isub, 1) := by decide +kernel
theorem dX8_output_14 : decode cX8_output 14 = .ok (.invokestatic 60, 3) := by decide +kernel
theorem dX8_output_17 : decode cX8_output 17 = .ok (.ifCond .ne 7, 3) := by decide +kernel
theorem dX8_output_20 : decode cX8_output 20 = .ok (.iconst 1, 1) := by decide +kernel
theorem dX8_output_21 : decode cX8_output 21 = .ok (.goto 4, 3) := by decide +kernel
theorem dX8_output_24 : decode cX8_output 24 = .ok (.iconst 0, 1) := by decide +kernel
theorem dX8_output_25 : decode cX8_output 25 = .ok (.iconst 1, 1) := by decide +kernel
theorem dX8_output_26 : decode cX8_output 26 = .ok (.invokevirtual 64, 3) := by decide +kernel
theorem dX8_output_29 : decode cX8_output 29 = .ok (.ifCond .eq 7, 3) := by decide +kernel
theorem dX8_output_32 : decode cX8_output 32 = .ok (.iconst 0, 1) := by decide +kernel
theorem dX8_output_33 : decode cX8_output 33 = .ok (.goto 9, 3) := by decide +kernel
theorem dX8_output_36 : decode cX8_output 36 = .ok (.aload_n 0, 1) := by decide +kernel
theorem dX8_output_37 : decode cX8_output 37 = .ok (.getfield 46, 3) := by decide +kernel
theorem dX8_output_40 : decode cX8_output 40 = .ok (.iload_n 1, 1) := by decide +kernel
theorem dX8_output_41 : decode cX8_output 41 = .ok (.iaload, 1) := by decide +kernel
theorem dX8_output_42 : decode cX8_output 42 = .ok (.ireturn, 1) := by decide +kernel
theorem dX8_undo_0 : decode cX8_undo 0 = .ok (.aload_n 0, 1) := by decide +kernel
theorem dX8_undo_1 : decode cX8_undo 1 = .ok (.iconst 0, 1) := by decide +kernel
theorem dX8_undo_2 : decode cX8_undo 2 = .ok (.putfield 57, 3) := by decide +kernel
theorem dX8_undo_5 : decode cX8_undo 5 = .ok (.aload_n 0, 1) := by decide +kernel
theorem dX8_undo_6 : decode cX8_undo 6 = .ok (.aload_n 0, 1) := by decide +kernel
theorem dX8_undo_7 : decode cX8_undo 7 = .ok (.getfield 173, 3) := by decide +kernel
theorem dX8_undo_10 : decode cX8_undo 10 = .ok (.ifCond .ne 7, 3) := by decide +kernel
theorem dX8_undo_13 : decode cX8_undo 13 = .ok (.iconst 1, 1) := by decide +kernel
theorem dX8_undo_14 : decode cX8_undo 14 = .ok (.goto 4, 3) := by decide +kernel
theorem dX8_undo_17 : decode cX8_undo 17 = .ok (.iconst 0, 1) := by decide +kernel
theorem dX8_undo_18 : decode cX8_undo 18 = .ok (.iconst 1, 1) := by decide +kernel
theorem dX8_undo_19 : decode cX8_undo 19 = .ok (.invokevirtual 64, 3) := by decide +kernel
theorem dX8_undo_22 : decode cX8_undo 22 = .ok (.ifCond .eq 5, 3) := by decide +kernel
theorem dX8_undo_25 : decode cX8_undo 25 = .ok (.iconst 0, 1) := by decide +kernel
theorem dX8_undo_26 : decode cX8_undo 26 = .ok (.ireturn, 1) := by decide +kernel
theorem dX8_undo_27 : decode cX8_undo 27 = .ok (.aload_n 0, 1) := by decide +kernel
theorem dX8_undo_28 : decode cX8_undo 28 = .ok (.dup, 1) := by decide +kernel
theorem dX8_undo_29 : decode cX8_undo 29 = .ok (.getfield 173, 3) := by decide +kernel
theorem dX8_undo_32 : decode cX8_undo 32 = .ok (.iconst 1, 1) := by decide +kernel
theorem dX8_undo_33 : decode cX8_undo 33 = .ok (.isub, 1) := by decide +kernel
theorem dX8_undo_34 : decode cX8_undo 34 = .ok (.putfield 173, 3) := by decide +kernel
theorem dX8_undo_37 : decode cX8_undo 37 = .ok (.aload_n 0, 1) := by decide +kernel
theorem dX8_undo_38 : decode cX8_undo 38 = .ok (.getfield 19, 3) := by decide +kernel
theorem dX8_undo_41 : decode cX8_undo 41 = .ok (.sipush 574, 3) := by decide +kernel
theorem dX8_undo_44 : decode cX8_undo 44 = .ok (.aload_n 0, 1) := by decide +kernel
theorem dX8_undo_45 : decode cX8_undo 45 = .ok (.getfield 173, 3) := by decide +kernel
theorem dX8_undo_48 : decode cX8_undo 48 = .ok (.imul, 1) := by decide +kernel
theorem dX8_undo_49 : decode cX8_undo 49 = .ok (.aload_n 0, 1) := by decide +kernel
theorem dX8_undo_50 : decode cX8_undo 50 = .ok (.getfield 7, 3) := by decide +kernel
theorem dX8_undo_53 : decode cX8_undo 53 = .ok (.iconst 0, 1) := by decide +kernel
theorem dX8_undo_54 : decode cX8_undo 54 = .ok (.invokestatic 169, 3) := by decide +kernel
theorem dX8_undo_57 : decode cX8_undo 57 = .ok (.aload_n 0, 1) := by decide +kernel
theorem dX8_undo_58 : decode cX8_undo 58 = .ok (.getfield 173, 3) := by decide +kernel
theorem dX8_undo_61 : decode cX8_undo 61 = .ok (.ireturn, 1) := by decide +kernel
theorem dX8_noSlot_0 : decode cX8_noSlot 0 = .ok (.aload_n 0, 1) := by decide +kernel
theorem dX8_noSlot_1 : decode cX8_noSlot 1 = .ok (.iconst 0, 1) := by decide +kernel
theorem dX8_noSlot_2 : decode cX8_noSlot 2 = .ok (.putfield 57, 3) := by decide +kernel
theorem dX8_noSlot_5 : decode cX8_noSlot 5 = .ok (.aload_n 0, 1) := by decide +kernel
theorem dX8_noSlot_6 : decode cX8_noSlot 6 = .ok (.iload_n 1, 1) := by decide +kernel
theorem dX8_noSlot_7 : decode cX8_noSlot 7 = .ok (.iconst 0, 1) := by decide +kernel
theorem dX8_noSlot_8 : decode cX8_noSlot 8 = .ok (.iconst 1, 1) := by decide +kernel
theorem dX8_noSlot_9 : decode cX8_noSlot 9 = .ok (.invokestatic 60, 3) := by decide +kernel
theorem dX8_noSlot_12 : decode cX8_noSlot 12 = .ok (.ifCond .ne 7, 3) := by decide +kernel
theorem dX8_noSlot_15 : decode cX8_noSlot 15 = .ok (.iconst 1, 1) := by decide +kernel
theorem dX8_noSlot_16 : decode cX8_noSlot 16 = .ok (.goto 4, 3) := by decide +kernel
theorem dX8_noSlot_19 : decode cX8_noSlot 19 = .ok (.iconst 0, 1) := by decide +kernel
theorem dX8_noSlot_20 : decode cX8_noSlot 20 = .ok (.iconst 1, 1) := by decide +kernel
theorem dX8_noSlot_21 : decode cX8_noSlot 21 = .ok (.invokevirtual 64, 3) := by decide +kernel
theorem dX8_noSlot_24 : decode cX8_noSlot 24 = .ok (.ireturn, 1) := by decide +kernel
theorem dX8_save_0 : decode cX8_save 0 = .ok (.aload_n 0, 1) := by decide +kernel
theorem dX8_save_1 : decode cX8_save 1 = .ok (.iload_n 1, 1) := by decide +kernel
theorem dX8_save_2 : decode cX8_save 2 = .ok (.invokevirtual 398, 3) := by decide +kernel
theorem dX8_save_5 : decode cX8_save 5 = .ok (.ifCond .eq 5, 3) := by decide +kernel
theorem dX8_save_8 : decode cX8_save 8 = .ok (.iconst 0, 1) := by decide +kernel
theorem dX8_save_9 : decode cX8_save 9 = .ok (.ireturn, 1) := by decide +kernel
theorem dX8_save_10 : decode cX8_save 10 = .ok (.aload_n 0, 1) := by decide +kernel
theorem dX8_save_11 : decode cX8_save 11 = .ok (.getfield 7, 3) := by decide +kernel
theorem dX8_save_14 : decode cX8_save 14 = .ok (.iconst 0, 1) := by decide +kernel
theorem dX8_save_15 : decode cX8_save 15 = .ok (.aload_n 0, 1) := by decide +kernel
theorem dX8_save_16 : decode cX8_save 16 = .ok (.getfield 22, 3) := by decide +kernel
theorem dX8_save_19 : decode cX8_save 19 = .ok (.sipush 574, 3) := by decide +kernel
theorem dX8_save_22 : decode cX8_save 22 = .ok (.iload_n 1, 1) := by decide +kernel
theorem dX8_save_23 : decode cX8_save 23 = .ok (.imul, 1) := by decide +kernel
theorem dX8_save_24 : decode cX8_save 24 = .ok (.invokestatic 169, 3) := by decide +kernel
theorem dX8_save_27 : decode cX8_save 27 = .ok (.aload_n 0, 1) := by decide +kernel
theorem dX8_save_28 : decode cX8_save 28 = .ok (.getfield 25, 3) := by decide +kernel
theorem dX8_save_31 : decode cX8_save 31 = .ok (.iload_n 1, 1) := by decide +kernel
theorem dX8_save_32 : decode cX8_save 32 = .ok (.iconst 1, 1) := by decide +kernel
theorem dX8_save_33 : decode cX8_save 33 = .ok (.bastore, 1) := by decide +kernel
theorem dX8_save_34 : decode cX8_save 34 = .ok (.aload_n 0, 1) := by decide +kernel
theorem dX8_save_35 : decode cX8_save 35 = .ok (.getfield 7, 3) := by decide +kernel
theorem dX8_save_38 : decode cX8_save 38 = .ok (.iconst 5, 1) := by decide +kernel
theorem dX8_save_39 : decode cX8_save 39 = .ok (.iaload, 1) := by decide +kernel
theorem dX8_save_40 : decode cX8_save 40 = .ok (.ireturn, 1) := by decide +kernel
theorem dX8_restore_0 : decode cX8_restore 0 = .ok (.aload_n 0, 1) := by decide +kernel
theorem dX8_restore_1 : decode cX8_restore 1 = .ok (.iload_n 1, 1) := by decide +kernel
theorem dX8_restore_2 : decode cX8_restore 2 = .ok (.invokevirtual 398, 3) := by decide +kernel
theorem dX8_restore_5 : decode cX8_restore 5 = .ok (.ifCond .ne 25, 3) := by decide +kernel
theorem dX8_restore_8 : decode cX8_restore 8 = .ok (.aload_n 0, 1) := by decide +kernel
theorem dX8_restore_9 : decode cX8_restore 9 = .ok (.aload_n 0, 1) := by decide +kernel
theorem dX8_restore_10 : decode cX8_restore 10 = .ok (.getfield 25, 3) := by decide +kernel
theorem dX8_restore_13 : decode cX8_restore 13 = .ok (.iload_n 1, 1) := by decide +kernel
theorem dX8_restore_14 : decode cX8_restore 14 = .ok (.baload, 1) := by decide +kernel
theorem dX8_restore_15 : decode cX8_restore 15 = .ok (.ifCond .ne 7, 3) := by decide +kernel
theorem dX8_restore_18 : decode cX8_restore 18 = .ok (.iconst 1, 1) := by decide +kernel
theorem dX8_restore_19 : decode cX8_restore 19 = .ok (.goto 4, 3) := by decide +kernel
theorem dX8_restore_22 : decode cX8_restore 22 = .ok (.iconst 0, 1) := by decide +kernel
theorem dX8_restore_23 : decode cX8_restore 23 = .ok (.iconst 2, 1) := by decide +kernel
theorem dX8_restore_24 : decode cX8_restore 24 = .ok (.invokevirtual 64, 3) := by decide +kernel
theorem dX8_restore_27 : decode cX8_restore 27 = .ok (.ifCond .eq 5, 3) := by decide +kernel
theorem dX8_restore_30 : decode cX8_restore 30 = .ok (.iconst 0, 1) := by decide +kernel
theorem dX8_restore_31 : decode cX8_restore 31 = .ok (.ireturn, 1) := by decide +kernel
theorem dX8_restore_32 : decode cX8_restore 32 = .ok (.aload_n 0, 1) := by decide +kernel
theorem dX8_restore_33 : decode cX8_restore 33 = .ok (.getfield 22, 3) := by decide +kernel
theorem dX8_restore_36 : decode cX8_restore 36 = .ok (.sipush 574, 3) := by decide +kernel
theorem dX8_restore_39 : decode cX8_restore 39 = .ok (.iload_n 1, 1) := by decide +kernel
theorem dX8_restore_40 : decode cX8_restore 40 = .ok (.imul, 1) := by decide +kernel
theorem dX8_restore_41 : decode cX8_restore 41 = .ok (.aload_n 0, 1) := by decide +kernel
theorem dX8_restore_42 : decode cX8_restore 42 = .ok (.getfield 7, 3) := by decide +kernel
theorem dX8_restore_45 : decode cX8_restore 45 = .ok (.iconst 0, 1) := by decide +kernel
theorem dX8_restore_46 : decode cX8_restore 46 = .ok (.invokestatic 169, 3) := by decide +kernel
theorem dX8_restore_49 : decode cX8_restore 49 = .ok (.aload_n 0, 1) := by decide +kernel
theorem dX8_restore_50 : decode cX8_restore 50 = .ok (.iconst 0, 1) := by decide +kernel
theorem dX8_restore_51 : decode cX8_restore 51 = .ok (.putfield 173, 3) := by decide +kernel
theorem dX8_restore_54 : decode cX8_restore 54 = .ok (.aload_n 0, 1) := by decide +kernel
theorem dX8_restore_55 : decode cX8_restore 55 = .ok (.getfield 7, 3) := by decide +kernel
theorem dX8_restore_58 : decode cX8_restore 58 = .ok (.iconst 0, 1) := by decide +kernel
theorem dX8_restore_59 : decode cX8_restore 59 = .ok (.iaload, 1) := by decide +kernel
theorem dX8_restore_60 : decode cX8_restore 60 = .ok (.ireturn, 1) := by decide +kernel
theorem dJ6_bitCount_0f7a4_0 : decode cJ6_bitCount_0f7a4 0 = .ok (.iload_n 0, 1) := by decide +kernel
theorem dJ6_bitCount_0f7a4_1 : decode cJ6_bitCount_0f7a4 1 = .ok (.iload_n 0, 1) := by decide +kernel
theorem dJ6_bitCount_0f7a4_2 : decode cJ6_bitCount_0f7a4 2 = .ok (.iconst 1, 1) := by decide +kernel
theorem dJ6_bitCount_0f7a4_3 : decode cJ6_bitCount_0f7a4 3 = .ok (.iushr, 1) := by decide +kernel
theorem dJ6_bitCount_0f7a4_4 : decode cJ6_bitCount_0f7a4 4 = .ok (.ldc_w 265, 3) := by decide +kernel
theorem dJ6_bitCount_0f7a4_7 : decode cJ6_bitCount_0f7a4 7 = .ok (.iand, 1) := by decide +kernel
theorem dJ6_bitCount_0f7a4_8 : decode cJ6_bitCount_0f7a4 8 = .ok (.isub, 1) := by decide +kernel
theorem dJ6_bitCount_0f7a4_9 : decode cJ6_bitCount_0f7a4 9 = .ok (.istore_n 0, 1) := by decide +kernel
theorem dJ6_bitCount_0f7a4_10 : decode cJ6_bitCount_0f7a4 10 = .ok (.iload_n 0, 1) := by decide +kernel
theorem dJ6_bitCount_0f7a4_11 : decode cJ6_bitCount_0f7a4 11 = .ok (.ldc_w 266, 3) := by decide +kernel
theorem dJ6_bitCount_0f7a4_14 : decode cJ6_bitCount_0f7a4 14 = .ok (.iand, 1) := by decide +kernel
theorem dJ6_bitCount_0f7a4_15 : decode cJ6_bitCount_0f7a4 15 = .ok (.iload_n 0, 1) := by decide +kernel
theorem dJ6_bitCount_0f7a4_16 : decode cJ6_bitCount_0f7a4 16 = .ok (.iconst 2, 1) := by decide +kernel
theorem dJ6_bitCount_0f7a4_17 : decode cJ6_bitCount_0f7a4 17 = .ok (.iushr, 1) := by decide +kernel
theorem dJ6_bitCount_0f7a4_18 : decode cJ6_bitCount_0f7a4 18 = .ok (.ldc_w 266, 3) := by decide +kernel
theorem dJ6_bitCount_0f7a4_21 : decode cJ6_bitCount_0f7a4 21 = .ok (.iand, 1) := by decide +kernel
theorem dJ6_bitCount_0f7a4_22 : decode cJ6_bitCount_0f7a4 22 = .ok (.iadd, 1) := by decide +kernel
theorem dJ6_bitCount_0f7a4_23 : decode cJ6_bitCount_0f7a4 23 = .ok (.istore_n 0, 1) := by decide +kernel
theorem dJ6_bitCount_0f7a4_24 : decode cJ6_bitCount_0f7a4 24 = .ok (.iload_n 0, 1) := by decide +kernel
theorem dJ6_bitCount_0f7a4_25 : decode cJ6_bitCount_0f7a4 25 = .ok (.iload_n 0, 1) := by decide +kernel
theorem dJ6_bitCount_0f7a4_26 : decode cJ6_bitCount_0f7a4 26 = .ok (.iconst 4, 1) := by decide +kernel
theorem dJ6_bitCount_0f7a4_27 : decode cJ6_bitCount_0f7a4 27 = .ok (.iushr, 1) := by decide +kernel
theorem dJ6_bitCount_0f7a4_28 : decode cJ6_bitCount_0f7a4 28 = .ok (.iadd, 1) := by decide +kernel
theorem dJ6_bitCount_0f7a4_29 : decode cJ6_bitCount_0f7a4 29 = .ok (.ldc_w 267, 3) := by decide +kernel
theorem dJ6_bitCount_0f7a4_32 : decode cJ6_bitCount_0f7a4 32 = .ok (.iand, 1) := by decide +kernel
theorem dJ6_bitCount_0f7a4_33 : decode cJ6_bitCount_0f7a4 33 = .ok (.istore_n 0, 1) := by decide +kernel
theorem dJ6_bitCount_0f7a4_34 : decode cJ6_bitCount_0f7a4 34 = .ok (.iload_n 0, 1) := by decide +kernel
theorem dJ6_bitCount_0f7a4_35 : decode cJ6_bitCount_0f7a4 35 = .ok (.iload_n 0, 1) := by decide +kernel
theorem dJ6_bitCount_0f7a4_36 : decode cJ6_bitCount_0f7a4 36 = .ok (.bipush 8, 2) := by decide +kernel
theorem dJ6_bitCount_0f7a4_38 : decode cJ6_bitCount_0f7a4 38 = .ok (.iushr, 1) := by decide +kernel
theorem dJ6_bitCount_0f7a4_39 : decode cJ6_bitCount_0f7a4 39 = .ok (.iadd, 1) := by decide +kernel
theorem dJ6_bitCount_0f7a4_40 : decode cJ6_bitCount_0f7a4 40 = .ok (.istore_n 0, 1) := by decide +kernel
theorem dJ6_bitCount_0f7a4_41 : decode cJ6_bitCount_0f7a4 41 = .ok (.iload_n 0, 1) := by decide +kernel
theorem dJ6_bitCount_0f7a4_42 : decode cJ6_bitCount_0f7a4 42 = .ok (.iload_n 0, 1) := by decide +kernel
theorem dJ6_bitCount_0f7a4_43 : decode cJ6_bitCount_0f7a4 43 = .ok (.bipush 16, 2) := by decide +kernel
theorem dJ6_bitCount_0f7a4_45 : decode cJ6_bitCount_0f7a4 45 = .ok (.iushr, 1) := by decide +kernel
theorem dJ6_bitCount_0f7a4_46 : decode cJ6_bitCount_0f7a4 46 = .ok (.iadd, 1) := by decide +kernel
theorem dJ6_bitCount_0f7a4_47 : decode cJ6_bitCount_0f7a4 47 = .ok (.istore_n 0, 1) := by decide +kernel
theorem dJ6_bitCount_0f7a4_48 : decode cJ6_bitCount_0f7a4 48 = .ok (.iload_n 0, 1) := by decide +kernel
theorem dJ6_bitCount_0f7a4_49 : decode cJ6_bitCount_0f7a4 49 = .ok (.bipush 63, 2) := by decide +kernel
theorem dJ6_bitCount_0f7a4_51 : decode cJ6_bitCount_0f7a4 51 = .ok (.iand, 1) := by decide +kernel
theorem dJ6_bitCount_0f7a4_52 : decode cJ6_bitCount_0f7a4 52 = .ok (.ireturn, 1) := by decide +kernel
theorem dJ9_floorDiv_7cf53_0 : decode cJ9_floorDiv_7cf53 0 = .ok (.iload_n 0, 1) := by decide +kernel
theorem dJ9_floorDiv_7cf53_1 : decode cJ9_floorDiv_7cf53 1 = .ok (.iload_n 1, 1) := by decide +kernel
theorem dJ9_floorDiv_7cf53_2 : decode cJ9_floorDiv_7cf53 2 = .ok (.idiv, 1) := by decide +kernel
theorem dJ9_floorDiv_7cf53_3 : decode cJ9_floorDiv_7cf53 3 = .ok (.istore_n 2, 1) := by decide +kernel
theorem dJ9_floorDiv_7cf53_4 : decode cJ9_floorDiv_7cf53 4 = .ok (.iload_n 0, 1) := by decide +kernel
theorem dJ9_floorDiv_7cf53_5 : decode cJ9_floorDiv_7cf53 5 = .ok (.iload_n 1, 1) := by decide +kernel
theorem dJ9_floorDiv_7cf53_6 : decode cJ9_floorDiv_7cf53 6 = .ok (.ixor, 1) := by decide +kernel
theorem dJ9_floorDiv_7cf53_7 : decode cJ9_floorDiv_7cf53 7 = .ok (.ifCond .ge 14, 3) := by decide +kernel
theorem dJ9_floorDiv_7cf53_10 : decode cJ9_floorDiv_7cf53 10 = .ok (.iload_n 2, 1) := by decide +kernel
theorem dJ9_floorDiv_7cf53_11 : decode cJ9_floorDiv_7cf53 11 = .ok (.iload_n 1, 1) := by decide +kernel
theorem dJ9_floorDiv_7cf53_12 : decode cJ9_floorDiv_7cf53 12 = .ok (.imul, 1) := by decide +kernel
theorem dJ9_floorDiv_7cf53_13 : decode cJ9_floorDiv_7cf53 13 = .ok (.iload_n 0, 1) := by decide +kernel
theorem dJ9_floorDiv_7cf53_14 : decode cJ9_floorDiv_7cf53 14 = .ok (.if_icmp .eq 7, 3) := by decide +kernel
theorem dJ9_floorDiv_7cf53_17 : decode cJ9_floorDiv_7cf53 17 = .ok (.iload_n 2, 1) := by decide +kernel
theorem dJ9_floorDiv_7cf53_18 : decode cJ9_floorDiv_7cf53 18 = .ok (.iconst 1, 1) := by decide +kernel
theorem dJ9_floorDiv_7cf53_19 : decode cJ9_floorDiv_7cf53 19 = .ok (.isub, 1) := by decide +kernel
theorem dJ9_floorDiv_7cf53_20 : decode cJ9_floorDiv_7cf53 20 = .ok (.ireturn, 1) := by decide +kernel
theorem dJ9_floorDiv_7cf53_21 : decode cJ9_floorDiv_7cf53 21 = .ok (.iload_n 2, 1) := by decide +kernel
theorem dJ9_floorDiv_7cf53_22 : decode cJ9_floorDiv_7cf53 22 = .ok (.ireturn, 1) := by decide +kernel
theorem dJ9_floorMod_7cf53_0 : decode cJ9_floorMod_7cf53 0 = .ok (.iload_n 0, 1) := by decide +kernel
theorem dJ9_floorMod_7cf53_1 : decode cJ9_floorMod_7cf53 1 = .ok (.iload_n 1, 1) := by decide +kernel
theorem dJ9_floorMod_7cf53_2 : decode cJ9_floorMod_7cf53 2 = .ok (.irem, 1) := by decide +kernel
theorem dJ9_floorMod_7cf53_3 : decode cJ9_floorMod_7cf53 3 = .ok (.istore_n 2, 1) := by decide +kernel
theorem dJ9_floorMod_7cf53_4 : decode cJ9_floorMod_7cf53 4 = .ok (.iload_n 0, 1) := by decide +kernel
theorem dJ9_floorMod_7cf53_5 : decode cJ9_floorMod_7cf53 5 = .ok (.iload_n 1, 1) := by decide +kernel
theorem dJ9_floorMod_7cf53_6 : decode cJ9_floorMod_7cf53 6 = .ok (.ixor, 1) := by decide +kernel
theorem dJ9_floorMod_7cf53_7 : decode cJ9_floorMod_7cf53 7 = .ok (.ifCond .ge 11, 3) := by decide +kernel
theorem dJ9_floorMod_7cf53_10 : decode cJ9_floorMod_7cf53 10 = .ok (.iload_n 2, 1) := by decide +kernel
theorem dJ9_floorMod_7cf53_11 : decode cJ9_floorMod_7cf53 11 = .ok (.ifCond .eq 7, 3) := by decide +kernel
theorem dJ9_floorMod_7cf53_14 : decode cJ9_floorMod_7cf53 14 = .ok (.iload_n 2, 1) := by decide +kernel
theorem dJ9_floorMod_7cf53_15 : decode cJ9_floorMod_7cf53 15 = .ok (.iload_n 1, 1) := by decide +kernel
theorem dJ9_floorMod_7cf53_16 : decode cJ9_floorMod_7cf53 16 = .ok (.iadd, 1) := by decide +kernel
theorem dJ9_floorMod_7cf53_17 : decode cJ9_floorMod_7cf53 17 = .ok (.ireturn, 1) := by decide +kernel
theorem dJ9_floorMod_7cf53_18 : decode cJ9_floorMod_7cf53 18 = .ok (.iload_n 2, 1) := by decide +kernel
theorem dJ9_floorMod_7cf53_19 : decode cJ9_floorMod_7cf53 19 = .ok (.ireturn, 1) := by decide +kernel
theorem dJ9_abs_0f7a4_0 : decode cJ9_abs_0f7a4 0 = .ok (.iload_n 0, 1) := by decide +kernel
theorem dJ9_abs_0f7a4_1 : decode cJ9_abs_0f7a4 1 = .ok (.ifCond .ge 8, 3) := by decide +kernel
theorem dJ9_abs_0f7a4_4 : decode cJ9_abs_0f7a4 4 = .ok (.iload_n 0, 1) := by decide +kernel
theorem dJ9_abs_0f7a4_5 : decode cJ9_abs_0f7a4 5 = .ok (.ineg, 1) := by decide +kernel
theorem dJ9_abs_0f7a4_6 : decode cJ9_abs_0f7a4 6 = .ok (.goto 4, 3) := by decide +kernel
theorem dJ9_abs_0f7a4_9 : decode cJ9_abs_0f7a4 9 = .ok (.iload_n 0, 1) := by decide +kernel
theorem dJ9_abs_0f7a4_10 : decode cJ9_abs_0f7a4 10 = .ok (.ireturn, 1) := by decide +kernel
theorem dJ9_max_7cf53_0 : decode cJ9_max_7cf53 0 = .ok (.iload_n 0, 1) := by decide +kernel
theorem dJ9_max_7cf53_1 : decode cJ9_max_7cf53 1 = .ok (.iload_n 1, 1) := by decide +kernel
theorem dJ9_max_7cf53_2 : decode cJ9_max_7cf53 2 = .ok (.if_icmp .lt 7, 3) := by decide +kernel
theorem dJ9_max_7cf53_5 : decode cJ9_max_7cf53 5 = .ok (.iload_n 0, 1) := by decide +kernel
theorem dJ9_max_7cf53_6 : decode cJ9_max_7cf53 6 = .ok (.goto 4, 3) := by decide +kernel
theorem dJ9_max_7cf53_9 : decode cJ9_max_7cf53 9 = .ok (.iload_n 1, 1) := by decide +kernel
theorem dJ9_max_7cf53_10 : decode cJ9_max_7cf53 10 = .ok (.ireturn, 1) := by decide +kernel
theorem dJ9_min_7cf53_0 : decode cJ9_min_7cf53 0 = .ok (.iload_n 0, 1) := by decide +kernel
theorem dJ9_min_7cf53_1 : decode cJ9_min_7cf53 1 = .ok (.iload_n 1, 1) := by decide +kernel
theorem dJ9_min_7cf53_2 : decode cJ9_min_7cf53 2 = .ok (.if_icmp .gt 7, 3) := by decide +kernel
theorem dJ9_min_7cf53_5 : decode cJ9_min_7cf53 5 = .ok (.iload_n 0, 1) := by decide +kernel
theorem dJ9_min_7cf53_6 : decode cJ9_min_7cf53 6 = .ok (.goto 4, 3) := by decide +kernel
theorem dJ9_min_7cf53_9 : decode cJ9_min_7cf53 9 = .ok (.iload_n 1, 1) := by decide +kernel
theorem dJ9_min_7cf53_10 : decode cJ9_min_7cf53 10 = .ok (.ireturn, 1) := by decide +kernel
theorem dJ0_length_8abf5_0 : decode cJ0_length_8abf5 0 = .ok (.aload_n 0, 1) := by decide +kernel
theorem dJ0_length_8abf5_1 : decode cJ0_length_8abf5 1 = .ok (.getfield 9, 3) := by decide +kernel
theorem dJ0_length_8abf5_4 : decode cJ0_length_8abf5 4 = .ok (.arraylength, 1) := by decide +kernel
theorem dJ0_length_8abf5_5 : decode cJ0_length_8abf5 5 = .ok (.aload_n 0, 1) := by decide +kernel
theorem dJ0_length_8abf5_6 : decode cJ0_length_8abf5 6 = .ok (.invokevirtual 335, 3) := by decide +kernel
theorem dJ0_length_8abf5_9 : decode cJ0_length_8abf5 9 = .ok (.ishr, 1) := by decide +kernel
theorem dJ0_length_8abf5_10 : decode cJ0_length_8abf5 10 = .ok (.ireturn, 1) := by decide +kernel
theorem dJ0_charAt_5068e_0 : decode cJ0_charAt_5068e 0 = .ok (.aload_n 0, 1) := by decide +kernel
theorem dJ0_charAt_5068e_1 : decode cJ0_charAt_5068e 1 = .ok (.invokevirtual 492, 3) := by decide +kernel
theorem dJ0_charAt_5068e_4 : decode cJ0_charAt_5068e 4 = .ok (.ifCond .eq 12, 3) := by decide +kernel
theorem dJ0_charAt_5068e_7 : decode cJ0_charAt_5068e 7 = .ok (.aload_n 0, 1) := by decide +kernel
theorem dJ0_charAt_5068e_8 : decode cJ0_charAt_5068e 8 = .ok (.getfield 9, 3) := by decide +kernel
theorem dJ0_charAt_5068e_11 : decode cJ0_charAt_5068e 11 = .ok (.iload_n 1, 1) := by decide +kernel
theorem dJ0_charAt_5068e_12 : decode cJ0_charAt_5068e 12 = .ok (.invokestatic 495, 3) := by decide +kernel
theorem dJ0_charAt_5068e_15 : decode cJ0_charAt_5068e 15 = .ok (.ireturn, 1) := by decide +kernel
theorem dJ0_charAt_5068e_16 : decode cJ0_charAt_5068e 16 = .ok (.aload_n 0, 1) := by decide +kernel
theorem dJ0_charAt_5068e_17 : decode cJ0_charAt_5068e 17 = .ok (.getfield 9, 3) := by decide +kernel
theorem dJ0_charAt_5068e_20 : decode cJ0_charAt_5068e 20 = .ok (.iload_n 1, 1) := by decide +kernel
theorem dJ0_charAt_5068e_21 : decode cJ0_charAt_5068e 21 = .ok (.invokestatic 498, 3) := by decide +kernel
theorem dJ0_charAt_5068e_24 : decode cJ0_charAt_5068e 24 = .ok (.ireturn, 1) := by decide +kernel
theorem dJ0_coder_7d493_0 : decode cJ0_coder_7d493 0 = .ok (.getstatic 38, 3) := by decide +kernel
theorem dJ0_coder_7d493_3 : decode cJ0_coder_7d493 3 = .ok (.ifCond .eq 10, 3) := by decide +kernel
theorem dJ0_coder_7d493_6 : decode cJ0_coder_7d493 6 = .ok (.aload_n 0, 1) := by decide +kernel
theorem dJ0_coder_7d493_7 : decode cJ0_coder_7d493 7 = .ok (.getfield 15, 3) := by decide +kernel
theorem dJ0_coder_7d493_10 : decode cJ0_coder_7d493 10 = .ok (.goto 4, 3) := by decide +kernel
theorem dJ0_coder_7d493_13 : decode cJ0_coder_7d493 13 = .ok (.iconst 1, 1) := by decide +kernel
theorem dJ0_coder_7d493_14 : decode cJ0_coder_7d493 14 = .ok (.ireturn, 1) := by decide +kernel
theorem dJ0_isLatin1_aae02_0 : decode cJ0_isLatin1_aae02 0 = .ok (.getstatic 38, 3) := by decide +kernel
theorem dJ0_isLatin1_aae02_3 : decode cJ0_isLatin1_aae02 3 = .ok (.ifCond .eq 14, 3) := by decide +kernel
theorem dJ0_isLatin1_aae02_6 : decode cJ0_isLatin1_aae02 6 = .ok (.aload_n 0, 1) := by decide +kernel
theorem dJ0_isLatin1_aae02_7 : decode cJ0_isLatin1_aae02 7 = .ok (.getfield 15, 3) := by decide +kernel
theorem dJ0_isLatin1_aae02_10 : decode cJ0_isLatin1_aae02 10 = .ok (.ifCond .ne 7, 3) := by decide +kernel
theorem dJ0_isLatin1_aae02_13 : decode cJ0_isLatin1_aae02 13 = .ok (.iconst 1, 1) := by decide +kernel
theorem dJ0_isLatin1_aae02_14 : decode cJ0_isLatin1_aae02 14 = .ok (.goto 4, 3) := by decide +kernel
theorem dJ0_isLatin1_aae02_17 : decode cJ0_isLatin1_aae02 17 = .ok (.iconst 0, 1) := by decide +kernel
theorem dJ0_isLatin1_aae02_18 : decode cJ0_isLatin1_aae02 18 = .ok (.ireturn, 1) := by decide +kernel
theorem dJ0_checkIndex_df160_0 : decode cJ0_checkIndex_df160 0 = .ok (.iload_n 0, 1) := by decide +kernel
theorem dJ0_checkIndex_df160_1 : decode cJ0_checkIndex_df160 1 = .ok (.iload_n 1, 1) := by decide +kernel
theorem dJ0_checkIndex_df160_2 : decode cJ0_checkIndex_df160 2 = .ok (.getstatic 1053, 3) := by decide +kernel
theorem dJ0_checkIndex_df160_5 : decode cJ0_checkIndex_df160 5 = .ok (.invokestatic 1059, 3) := by decide +kernel
theorem dJ0_checkIndex_df160_8 : decode cJ0_checkIndex_df160 8 = .ok (.pop, 1) := by decide +kernel
theorem dJ0_checkIndex_df160_9 : decode cJ0_checkIndex_df160 9 = .ok (.return_, 1) := by decide +kernel
theorem dJ1_charAt_3b067_0 : decode cJ1_charAt_3b067 0 = .ok (.iload_n 1, 1) := by decide +kernel
theorem dJ1_charAt_3b067_1 : decode cJ1_charAt_3b067 1 = .ok (.aload_n 0, 1) := by decide +kernel
theorem dJ1_charAt_3b067_2 : decode cJ1_charAt_3b067 2 = .ok (.arraylength, 1) := by decide +kernel
theorem dJ1_charAt_3b067_3 : decode cJ1_charAt_3b067 3 = .ok (.invokestatic 9, 3) := by decide +kernel
theorem dJ1_charAt_3b067_6 : decode cJ1_charAt_3b067 6 = .ok (.aload_n 0, 1) := by decide +kernel
theorem dJ1_charAt_3b067_7 : decode cJ1_charAt_3b067 7 = .ok (.iload_n 1, 1) := by decide +kernel
theorem dJ1_charAt_3b067_8 : decode cJ1_charAt_3b067 8 = .ok (.baload, 1) := by decide +kernel
theorem dJ1_charAt_3b067_9 : decode cJ1_charAt_3b067 9 = .ok (.sipush 255, 3) := by decide +kernel
theorem dJ1_charAt_3b067_12 : decode cJ1_charAt_3b067 12 = .ok (.iand, 1) := by decide +kernel
theorem dJ1_charAt_3b067_13 : decode cJ1_charAt_3b067 13 = .ok (.i2c, 1) := by decide +kernel
theorem dJ1_charAt_3b067_14 : decode cJ1_charAt_3b067 14 = .ok (.ireturn, 1) := by decide +kernel
theorem dJ2_getChar_3b067_0 : decode cJ2_getChar_3b067 0 = .ok (.getstatic 44, 3) := by decide +kernel
theorem dJ2_getChar_3b067_3 : decode cJ2_getChar_3b067 3 = .ok (.ifCond .ne 25, 3) := by decide +kernel
theorem dJ2_getChar_3b067_6 : decode cJ2_getChar_3b067 6 = .ok (.iload_n 1, 1) := by decide +kernel
theorem dJ2_getChar_3b067_7 : decode cJ2_getChar_3b067 7 = .ok (.ifCond .lt 11, 3) := by decide +kernel
theorem dJ2_getChar_3b067_10 : decode cJ2_getChar_3b067 10 = .ok (.iload_n 1, 1) := by decide +kernel
theorem dJ2_getChar_3b067_11 : decode cJ2_getChar_3b067 11 = .ok (.aload_n 0, 1) := by decide +kernel
theorem dJ2_getChar_3b067_12 : decode cJ2_getChar_3b067 12 = .ok (.invokestatic 48, 3) := by decide +kernel
theorem dJ2_getChar_3b067_15 : decode cJ2_getChar_3b067 15 = .ok (.if_icmp .lt 13, 3) := by decide +kernel
theorem dJ2_getChar_3b067_18 : decode cJ2_getChar_3b067 18 = .ok (.new 52, 3) := by decide +kernel
theorem dJ2_getChar_3b067_21 : decode cJ2_getChar_3b067 21 = .ok (.dup, 1) := by decide +kernel
theorem dJ2_getChar_3b067_22 : decode cJ2_getChar_3b067 22 = .ok (.ldc 54, 2) := by decide +kernel
theorem dJ2_getChar_3b067_24 : decode cJ2_getChar_3b067 24 = .ok (.invokespecial 56, 3) := by decide +kernel
theorem dJ2_getChar_3b067_27 : decode cJ2_getChar_3b067 27 = .ok (.athrow, 1) := by decide +kernel
theorem dJ2_getChar_3b067_28 : decode cJ2_getChar_3b067 28 = .ok (.iload_n 1, 1) := by decide +kernel
theorem dJ2_getChar_3b067_29 : decode cJ2_getChar_3b067 29 = .ok (.iconst 1, 1) := by decide +kernel
theorem dJ2_getChar_3b067_30 : decode cJ2_getChar_3b067 30 = .ok (.ishl, 1) := by decide +kernel
theorem dJ2_getChar_3b067_31 : decode cJ2_getChar_3b067 31 = .ok (.istore_n 1, 1) := by decide +kernel
theorem dJ2_getChar_3b067_32 : decode cJ2_getChar_3b067 32 = .ok (.aload_n 0, 1) := by decide +kernel
theorem dJ2_getChar_3b067_33 : decode cJ2_getChar_3b067 33 = .ok (.iload_n 1, 1) := by decide +kernel
theorem dJ2_getChar_3b067_34 : decode cJ2_getChar_3b067 34 = .ok (.iinc 1 1, 3) := by decide +kernel
theorem dJ2_getChar_3b067_37 : decode cJ2_getChar_3b067 37 = .ok (.baload, 1) := by decide +kernel
theorem dJ2_getChar_3b067_38 : decode cJ2_getChar_3b067 38 = .ok (.sipush 255, 3) := by decide +kernel
theorem dJ2_getChar_3b067_41 : decode cJ2_getChar_3b067 41 = .ok (.iand, 1) := by decide +kernel
theorem dJ2_getChar_3b067_42 : decode cJ2_getChar_3b067 42 = .ok (.getstatic 59, 3) := by decide +kernel
theorem dJ2_getChar_3b067_45 : decode cJ2_getChar_3b067 45 = .ok (.ishl, 1) := by decide +kernel
theorem dJ2_getChar_3b067_46 : decode cJ2_getChar_3b067 46 = .ok (.aload_n 0, 1) := by decide +kernel
theorem dJ2_getChar_3b067_47 : decode cJ2_getChar_3b067 47 = .ok (.iload_n 1, 1) := by decide +kernel
theorem dJ2_getChar_3b067_48 : decode cJ2_getChar_3b067 48 = .ok (.baload, 1) := by decide +kernel
theorem dJ2_getChar_3b067_49 : decode cJ2_getChar_3b067 49 = .ok (.sipush 255, 3) := by decide +kernel
theorem dJ2_getChar_3b067_52 : decode cJ2_getChar_3b067 52 = .ok (.iand, 1) := by decide +kernel
theorem dJ2_getChar_3b067_53 : decode cJ2_getChar_3b067 53 = .ok (.getstatic 63, 3) := by decide +kernel
theorem dJ2_getChar_3b067_56 : decode cJ2_getChar_3b067 56 = .ok (.ishl, 1) := by decide +kernel
theorem dJ2_getChar_3b067_57 : decode cJ2_getChar_3b067 57 = .ok (.ior, 1) := by decide +kernel
theorem dJ2_getChar_3b067_58 : decode cJ2_getChar_3b067 58 = .ok (.i2c, 1) := by decide +kernel
theorem dJ2_getChar_3b067_59 : decode cJ2_getChar_3b067 59 = .ok (.ireturn, 1) := by decide +kernel
theorem dJ2_length_9d52b_0 : decode cJ2_length_9d52b 0 = .ok (.aload_n 0, 1) := by decide +kernel
theorem dJ2_length_9d52b_1 : decode cJ2_length_9d52b 1 = .ok (.arraylength, 1) := by decide +kernel
theorem dJ2_length_9d52b_2 : decode cJ2_length_9d52b 2 = .ok (.iconst 1, 1) := by decide +kernel
theorem dJ2_length_9d52b_3 : decode cJ2_length_9d52b 3 = .ok (.ishr, 1) := by decide +kernel
theorem dJ2_length_9d52b_4 : decode cJ2_length_9d52b 4 = .ok (.ireturn, 1) := by decide +kernel
theorem dJ2_charAt_3b067_0 : decode cJ2_charAt_3b067 0 = .ok (.iload_n 1, 1) := by decide +kernel
theorem dJ2_charAt_3b067_1 : decode cJ2_charAt_3b067 1 = .ok (.aload_n 0, 1) := by decide +kernel
theorem dJ2_charAt_3b067_2 : decode cJ2_charAt_3b067 2 = .ok (.invokestatic 67, 3) := by decide +kernel
theorem dJ2_charAt_3b067_5 : decode cJ2_charAt_3b067 5 = .ok (.aload_n 0, 1) := by decide +kernel
theorem dJ2_charAt_3b067_6 : decode cJ2_charAt_3b067 6 = .ok (.iload_n 1, 1) := by decide +kernel
theorem dJ2_charAt_3b067_7 : decode cJ2_charAt_3b067 7 = .ok (.invokestatic 71, 3) := by decide +kernel
theorem dJ2_charAt_3b067_10 : decode cJ2_charAt_3b067 10 = .ok (.ireturn, 1) := by decide +kernel
theorem dJ2_checkIndex_2214a_0 : decode cJ2_checkIndex_2214a 0 = .ok (.iload_n 0, 1) := by decide +kernel
theorem dJ2_checkIndex_2214a_1 : decode cJ2_checkIndex_2214a 1 = .ok (.aload_n 1, 1) := by decide +kernel
theorem dJ2_checkIndex_2214a_2 : decode cJ2_checkIndex_2214a 2 = .ok (.invokestatic 48, 3) := by decide +kernel
theorem dJ2_checkIndex_2214a_5 : decode cJ2_checkIndex_2214a 5 = .ok (.invokestatic 414, 3) := by decide +kernel
theorem dJ2_checkIndex_2214a_8 : decode cJ2_checkIndex_2214a 8 = .ok (.return_, 1) := by decide +kernel
theorem dJ3_checkIndex_8e157_0 : decode cJ3_checkIndex_8e157 0 = .ok (.iload_n 0, 1) := by decide +kernel
theorem dJ3_checkIndex_8e157_1 : decode cJ3_checkIndex_8e157 1 = .ok (.ifCond .lt 8, 3) := by decide +kernel
theorem dJ3_checkIndex_8e157_4 : decode cJ3_checkIndex_8e157 4 = .ok (.iload_n 0, 1) := by decide +kernel
theorem dJ3_checkIndex_8e157_5 : decode cJ3_checkIndex_8e157 5 = .ok (.iload_n 1, 1) := by decide +kernel
theorem dJ3_checkIndex_8e157_6 : decode cJ3_checkIndex_8e157 6 = .ok (.if_icmp .lt 10, 3) := by decide +kernel
theorem dJ3_checkIndex_8e157_9 : decode cJ3_checkIndex_8e157 9 = .ok (.aload_n 2, 1) := by decide +kernel
theorem dJ3_checkIndex_8e157_10 : decode cJ3_checkIndex_8e157 10 = .ok (.iload_n 0, 1) := by decide +kernel
theorem dJ3_checkIndex_8e157_11 : decode cJ3_checkIndex_8e157 11 = .ok (.iload_n 1, 1) := by decide +kernel
theorem dJ3_checkIndex_8e157_12 : decode cJ3_checkIndex_8e157 12 = .ok (.invokestatic 95, 3) := by decide +kernel
theorem dJ3_checkIndex_8e157_15 : decode cJ3_checkIndex_8e157 15 = .ok (.athrow, 1) := by decide +kernel
theorem dJ3_checkIndex_8e157_16 : decode cJ3_checkIndex_8e157 16 = .ok (.iload_n 0, 1) := by decide +kernel
theorem dJ3_checkIndex_8e157_17 : decode cJ3_checkIndex_8e157 17 = .ok (.ireturn, 1) := by decide +kernel
theorem dL_append_0 : decode cL_append 0 = .ok (.aload 6, 2) := by decide +kernel
theorem dL_append_2 : decode cL_append 2 = .ok (.iconst 0, 1) := by decide +kernel
theorem dL_append_3 : decode cL_append 3 = .ok (.aload_n 0, 1) := by decide +kernel
theorem dL_append_4 : decode cL_append 4 = .ok (.iload_n 1, 1) := by decide +kernel
theorem dL_append_5 : decode cL_append 5 = .ok (.iload_n 2, 1) := by decide +kernel
theorem dL_append_6 : decode cL_append 6 = .ok (.iload_n 3, 1) := by decide +kernel
theorem dL_append_7 : decode cL_append 7 = .ok (.iload 4, 2) := by decide +kernel
theorem dL_append_9 : decode cL_append 9 = .ok (.iload 5, 2) := by decide +kernel
theorem dL_append_11 : decode cL_append 11 = .ok (.invokevirtual 7, 3) := by decide +kernel
theorem dL_append_14 : decode cL_append 14 = .ok (.i2l, 1) := by decide +kernel
theorem dL_append_15 : decode cL_append 15 = .ok (.lastore, 1) := by decide +kernel
theorem dL_append_16 : decode cL_append 16 = .ok (.goto 7, 3) := by decide +kernel
theorem dL_append_19 : decode cL_append 19 = .ok (.astore 7, 2) := by decide +kernel
theorem dL_append_21 : decode cL_append 21 = .ok (.iconst 1, 1) := by decide +kernel
theorem dL_append_22 : decode cL_append 22 = .ok (.ireturn, 1) := by decide +kernel
theorem dL_append_23 : decode cL_append 23 = .ok (.iconst 0, 1) := by decide +kernel
theorem dL_append_24 : decode cL_append 24 = .ok (.ireturn, 1) := by decide +kernel
theorem dL_size_0 : decode cL_size 0 = .ok (.aload_n 2, 1) := by decide +kernel
theorem dL_size_1 : decode cL_size 1 = .ok (.iconst 0, 1) := by decide +kernel
theorem dL_size_2 : decode cL_size 2 = .ok (.aload_n 0, 1) := by decide +kernel
theorem dL_size_3 : decode cL_size 3 = .ok (.iload_n 1, 1) := by decide +kernel
theorem dL_size_4 : decode cL_size 4 = .ok (.invokevirtual 15, 3) := by decide +kernel
theorem dL_size_7 : decode cL_size 7 = .ok (.i2l, 1) := by decide +kernel
theorem dL_size_8 : decode cL_size 8 = .ok (.lastore, 1) := by decide +kernel
theorem dL_size_9 : decode cL_size 9 = .ok (.goto 6, 3) := by decide +kernel
theorem dL_size_12 : decode cL_size 12 = .ok (.astore_n 3, 1) := by decide +kernel
theorem dL_size_13 : decode cL_size 13 = .ok (.iconst 1, 1) := by decide +kernel
theorem dL_size_14 : decode cL_size 14 = .ok (.ireturn, 1) := by decide +kernel
theorem dL_size_15 : decode cL_size 15 = .ok (.iconst 0, 1) := by decide +kernel
theorem dL_size_16 : decode cL_size 16 = .ok (.ireturn, 1) := by decide +kernel
theorem dL_buoy_0 : decode cL_buoy 0 = .ok (.aload_n 3, 1) := by decide +kernel
theorem dL_buoy_1 : decode cL_buoy 1 = .ok (.iconst 0, 1) := by decide +kernel
theorem dL_buoy_2 : decode cL_buoy 2 = .ok (.aload_n 0, 1) := by decide +kernel
theorem dL_buoy_3 : decode cL_buoy 3 = .ok (.iload_n 1, 1) := by decide +kernel
theorem dL_buoy_4 : decode cL_buoy 4 = .ok (.iload_n 2, 1) := by decide +kernel
theorem dL_buoy_5 : decode cL_buoy 5 = .ok (.invokevirtual 21, 3) := by decide +kernel
theorem dL_buoy_8 : decode cL_buoy 8 = .ok (.i2l, 1) := by decide +kernel
theorem dL_buoy_9 : decode cL_buoy 9 = .ok (.lastore, 1) := by decide +kernel
theorem dL_buoy_10 : decode cL_buoy 10 = .ok (.goto 11, 3) := by decide +kernel
theorem dL_buoy_13 : decode cL_buoy 13 = .ok (.astore 4, 2) := by decide +kernel
theorem dL_buoy_15 : decode cL_buoy 15 = .ok (.iconst 1, 1) := by decide +kernel
theorem dL_buoy_16 : decode cL_buoy 16 = .ok (.ireturn, 1) := by decide +kernel
theorem dL_buoy_17 : decode cL_buoy 17 = .ok (.astore 4, 2) := by decide +kernel
theorem dL_buoy_19 : decode cL_buoy 19 = .ok (.iconst 2, 1) := by decide +kernel
theorem dL_buoy_20 : decode cL_buoy 20 = .ok (.ireturn, 1) := by decide +kernel
theorem dL_buoy_21 : decode cL_buoy 21 = .ok (.iconst 0, 1) := by decide +kernel
theorem dL_buoy_22 : decode cL_buoy 22 = .ok (.ireturn, 1) := by decide +kernel
theorem dL_rope_0 : decode cL_rope 0 = .ok (.aload_n 3, 1) := by decide +kernel
theorem dL_rope_1 : decode cL_rope 1 = .ok (.iconst 0, 1) := by decide +kernel
theorem dL_rope_2 : decode cL_rope 2 = .ok (.aload_n 0, 1) := by decide +kernel
theorem dL_rope_3 : decode cL_rope 3 = .ok (.iload_n 1, 1) := by decide +kernel
theorem dL_rope_4 : decode cL_rope 4 = .ok (.iload_n 2, 1) := by decide +kernel
theorem dL_rope_5 : decode cL_rope 5 = .ok (.invokevirtual 27, 3) := by decide +kernel
theorem dL_rope_8 : decode cL_rope 8 = .ok (.i2l, 1) := by decide +kernel
theorem dL_rope_9 : decode cL_rope 9 = .ok (.lastore, 1) := by decide +kernel
theorem dL_rope_10 : decode cL_rope 10 = .ok (.goto 11, 3) := by decide +kernel
theorem dL_rope_13 : decode cL_rope 13 = .ok (.astore 4, 2) := by decide +kernel
theorem dL_rope_15 : decode cL_rope 15 = .ok (.iconst 1, 1) := by decide +kernel
theorem dL_rope_16 : decode cL_rope 16 = .ok (.ireturn, 1) := by decide +kernel
theorem dL_rope_17 : decode cL_rope 17 = .ok (.astore 4, 2) := by decide +kernel
theorem dL_rope_19 : decode cL_rope 19 = .ok (.iconst 2, 1) := by decide +kernel
theorem dL_rope_20 : decode cL_rope 20 = .ok (.ireturn, 1) := by decide +kernel
theorem dL_rope_21 : decode cL_rope 21 = .ok (.iconst 0, 1) := by decide +kernel
theorem dL_rope_22 : decode cL_rope 22 = .ok (.ireturn, 1) := by decide +kernel
theorem dL_account_0 : decode cL_account 0 = .ok (.aload_n 2, 1) := by decide +kernel
theorem dL_account_1 : decode cL_account 1 = .ok (.iconst 0, 1) := by decide +kernel
theorem dL_account_2 : decode cL_account 2 = .ok (.aload_n 0, 1) := by decide +kernel
theorem dL_account_3 : decode cL_account 3 = .ok (.iload_n 1, 1) := by decide +kernel
theorem dL_account_4 : decode cL_account 4 = .ok (.invokevirtual 30, 3) := by decide +kernel
theorem dL_account_7 : decode cL_account 7 = .ok (.i2l, 1) := by decide +kernel
theorem dL_account_8 : decode cL_account 8 = .ok (.lastore, 1) := by decide +kernel
theorem dL_account_9 : decode cL_account 9 = .ok (.goto 6, 3) := by decide +kernel
theorem dL_account_12 : decode cL_account 12 = .ok (.astore_n 3, 1) := by decide +kernel
theorem dL_account_13 : decode cL_account 13 = .ok (.iconst 1, 1) := by decide +kernel
theorem dL_account_14 : decode cL_account 14 = .ok (.ireturn, 1) := by decide +kernel
theorem dL_account_15 : decode cL_account 15 = .ok (.iconst 0, 1) := by decide +kernel
theorem dL_account_16 : decode cL_account 16 = .ok (.ireturn, 1) := by decide +kernel
theorem dL_hour_0 : decode cL_hour 0 = .ok (.aload_n 3, 1) := by decide +kernel
theorem dL_hour_1 : decode cL_hour 1 = .ok (.iconst 0, 1) := by decide +kernel
theorem dL_hour_2 : decode cL_hour 2 = .ok (.aload_n 0, 1) := by decide +kernel
theorem dL_hour_3 : decode cL_hour 3 = .ok (.iload_n 1, 1) := by decide +kernel
theorem dL_hour_4 : decode cL_hour 4 = .ok (.iload_n 2, 1) := by decide +kernel
theorem dL_hour_5 : decode cL_hour 5 = .ok (.invokevirtual 33, 3) := by decide +kernel
theorem dL_hour_8 : decode cL_hour 8 = .ok (.i2l, 1) := by decide +kernel
theorem dL_hour_9 : decode cL_hour 9 = .ok (.lastore, 1) := by decide +kernel
theorem dL_hour_10 : decode cL_hour 10 = .ok (.goto 11, 3) := by decide +kernel
theorem dL_hour_13 : decode cL_hour 13 = .ok (.astore 4, 2) := by decide +kernel
theorem dL_hour_15 : decode cL_hour 15 = .ok (.iconst 1, 1) := by decide +kernel
theorem dL_hour_16 : decode cL_hour 16 = .ok (.ireturn, 1) := by decide +kernel
theorem dL_hour_17 : decode cL_hour 17 = .ok (.astore 4, 2) := by decide +kernel
theorem dL_hour_19 : decode cL_hour 19 = .ok (.iconst 2, 1) := by decide +kernel
theorem dL_hour_20 : decode cL_hour 20 = .ok (.ireturn, 1) := by decide +kernel
theorem dL_hour_21 : decode cL_hour 21 = .ok (.iconst 0, 1) := by decide +kernel
theorem dL_hour_22 : decode cL_hour 22 = .ok (.ireturn, 1) := by decide +kernel
theorem dL_level_0 : decode cL_level 0 = .ok (.aload_n 2, 1) := by decide +kernel
theorem dL_level_1 : decode cL_level 1 = .ok (.iconst 0, 1) := by decide +kernel
theorem dL_level_2 : decode cL_level 2 = .ok (.aload_n 0, 1) := by decide +kernel
theorem dL_level_3 : decode cL_level 3 = .ok (.iload_n 1, 1) := by decide +kernel
theorem dL_level_4 : decode cL_level 4 = .ok (.invokevirtual 36, 3) := by decide +kernel
theorem dL_level_7 : decode cL_level 7 = .ok (.i2l, 1) := by decide +kernel
theorem dL_level_8 : decode cL_level 8 = .ok (.lastore, 1) := by decide +kernel
theorem dL_level_9 : decode cL_level 9 = .ok (.goto 9, 3) := by decide +kernel
theorem dL_level_12 : decode cL_level 12 = .ok (.astore_n 3, 1) := by decide +kernel
theorem dL_level_13 : decode cL_level 13 = .ok (.iconst 1, 1) := by decide +kernel
theorem dL_level_14 : decode cL_level 14 = .ok (.ireturn, 1) := by decide +kernel
theorem dL_level_15 : decode cL_level 15 = .ok (.astore_n 3, 1) := by decide +kernel
theorem dL_level_16 : decode cL_level 16 = .ok (.iconst 2, 1) := by decide +kernel
theorem dL_level_17 : decode cL_level 17 = .ok (.ireturn, 1) := by decide +kernel
theorem dL_level_18 : decode cL_level 18 = .ok (.iconst 0, 1) := by decide +kernel
theorem dL_level_19 : decode cL_level 19 = .ok (.ireturn, 1) := by decide +kernel
theorem dL_value_0 : decode cL_value 0 = .ok (.aload_n 3, 1) := by decide +kernel
theorem dL_value_1 : decode cL_value 1 = .ok (.iconst 0, 1) := by decide +kernel
theorem dL_value_2 : decode cL_value 2 = .ok (.aload_n 0, 1) := by decide +kernel
theorem dL_value_3 : decode cL_value 3 = .ok (.iload_n 1, 1) := by decide +kernel
theorem dL_value_4 : decode cL_value 4 = .ok (.iload_n 2, 1) := by decide +kernel
theorem dL_value_5 : decode cL_value 5 = .ok (.invokevirtual 41, 3) := by decide +kernel
theorem dL_value_8 : decode cL_value 8 = .ok (.i2l, 1) := by decide +kernel
theorem dL_value_9 : decode cL_value 9 = .ok (.lastore, 1) := by decide +kernel
theorem dL_value_10 : decode cL_value 10 = .ok (.goto 11, 3) := by decide +kernel
theorem dL_value_13 : decode cL_value 13 = .ok (.astore 4, 2) := by decide +kernel
theorem dL_value_15 : decode cL_value 15 = .ok (.iconst 1, 1) := by decide +kernel
theorem dL_value_16 : decode cL_value 16 = .ok (.ireturn, 1) := by decide +kernel
theorem dL_value_17 : decode cL_value 17 = .ok (.astore 4, 2) := by decide +kernel
theorem dL_value_19 : decode cL_value 19 = .ok (.iconst 2, 1) := by decide +kernel
theorem dL_value_20 : decode cL_value 20 = .ok (.ireturn, 1) := by decide +kernel
theorem dL_value_21 : decode cL_value 21 = .ok (.iconst 0, 1) := by decide +kernel
theorem dL_value_22 : decode cL_value 22 = .ok (.ireturn, 1) := by decide +kernel
theorem dL_why_0 : decode cL_why 0 = .ok (.aload_n 3, 1) := by decide +kernel
theorem dL_why_1 : decode cL_why 1 = .ok (.iconst 0, 1) := by decide +kernel
theorem dL_why_2 : decode cL_why 2 = .ok (.aload_n 0, 1) := by decide +kernel
theorem dL_why_3 : decode cL_why 3 = .ok (.iload_n 1, 1) := by decide +kernel
theorem dL_why_4 : decode cL_why 4 = .ok (.iload_n 2, 1) := by decide +kernel
theorem dL_why_5 : decode cL_why 5 = .ok (.invokevirtual 44, 3) := by decide +kernel
theorem dL_why_8 : decode cL_why 8 = .ok (.i2l, 1) := by decide +kernel
theorem dL_why_9 : decode cL_why 9 = .ok (.lastore, 1) := by decide +kernel
theorem dL_why_10 : decode cL_why 10 = .ok (.goto 7, 3) := by decide +kernel
theorem dL_why_13 : decode cL_why 13 = .ok (.astore 4, 2) := by decide +kernel
theorem dL_why_15 : decode cL_why 15 = .ok (.iconst 1, 1) := by decide +kernel
theorem dL_why_16 : decode cL_why 16 = .ok (.ireturn, 1) := by decide +kernel
theorem dL_why_17 : decode cL_why 17 = .ok (.iconst 0, 1) := by decide +kernel
theorem dL_why_18 : decode cL_why 18 = .ok (.ireturn, 1) := by decide +kernel
theorem dL_tide_0 : decode cL_tide 0 = .ok (.aload_n 2, 1) := by decide +kernel
theorem dL_tide_1 : decode cL_tide 1 = .ok (.iconst 0, 1) := by decide +kernel
theorem dL_tide_2 : decode cL_tide 2 = .ok (.aload_n 0, 1) := by decide +kernel
theorem dL_tide_3 : decode cL_tide 3 = .ok (.iload_n 1, 1) := by decide +kernel
theorem dL_tide_4 : decode cL_tide 4 = .ok (.invokevirtual 47, 3) := by decide +kernel
theorem dL_tide_7 : decode cL_tide 7 = .ok (.i2l, 1) := by decide +kernel
theorem dL_tide_8 : decode cL_tide 8 = .ok (.lastore, 1) := by decide +kernel
theorem dL_tide_9 : decode cL_tide 9 = .ok (.goto 9, 3) := by decide +kernel
theorem dL_tide_12 : decode cL_tide 12 = .ok (.astore_n 3, 1) := by decide +kernel
theorem dL_tide_13 : decode cL_tide 13 = .ok (.iconst 1, 1) := by decide +kernel
theorem dL_tide_14 : decode cL_tide 14 = .ok (.ireturn, 1) := by decide +kernel
theorem dL_tide_15 : decode cL_tide 15 = .ok (.astore_n 3, 1) := by decide +kernel
theorem dL_tide_16 : decode cL_tide 16 = .ok (.iconst 2, 1) := by decide +kernel
theorem dL_tide_17 : decode cL_tide 17 = .ok (.ireturn, 1) := by decide +kernel
theorem dL_tide_18 : decode cL_tide 18 = .ok (.iconst 0, 1) := by decide +kernel
theorem dL_tide_19 : decode cL_tide 19 = .ok (.ireturn, 1) := by decide +kernel
theorem dL_agreement_0 : decode cL_agreement 0 = .ok (.aload_n 2, 1) := by decide +kernel
theorem dL_agreement_1 : decode cL_agreement 1 = .ok (.iconst 0, 1) := by decide +kernel
theorem dL_agreement_2 : decode cL_agreement 2 = .ok (.aload_n 0, 1) := by decide +kernel
theorem dL_agreement_3 : decode cL_agreement 3 = .ok (.iload_n 1, 1) := by decide +kernel
theorem dL_agreement_4 : decode cL_agreement 4 = .ok (.invokevirtual 50, 3) := by decide +kernel
theorem dL_agreement_7 : decode cL_agreement 7 = .ok (.f2d, 1) := by decide +kernel
theorem dL_agreement_8 : decode cL_agreement 8 = .ok (.dastore, 1) := by decide +kernel
theorem dL_agreement_9 : decode cL_agreement 9 = .ok (.goto 6, 3) := by decide +kernel
theorem dL_agreement_12 : decode cL_agreement 12 = .ok (.astore_n 3, 1) := by decide +kernel
theorem dL_agreement_13 : decode cL_agreement 13 = .ok (.iconst 1, 1) := by decide +kernel
theorem dL_agreement_14 : decode cL_agreement 14 = .ok (.ireturn, 1) := by decide +kernel
theorem dL_agreement_15 : decode cL_agreement 15 = .ok (.iconst 0, 1) := by decide +kernel
theorem dL_agreement_16 : decode cL_agreement 16 = .ok (.ireturn, 1) := by decide +kernel
theorem dL_levelNow_0 : decode cL_levelNow 0 = .ok (.aload_n 1, 1) := by decide +kernel
theorem dL_levelNow_1 : decode cL_levelNow 1 = .ok (.iconst 0, 1) := by decide +kernel
theorem dL_levelNow_2 : decode cL_levelNow 2 = .ok (.aload_n 0, 1) := by decide +kernel
theorem dL_levelNow_3 : decode cL_levelNow 3 = .ok (.invokevirtual 54, 3) := by decide +kernel
theorem dL_levelNow_6 : decode cL_levelNow 6 = .ok (.i2l, 1) := by decide +kernel
theorem dL_levelNow_7 : decode cL_levelNow 7 = .ok (.lastore, 1) := by decide +kernel
theorem dL_levelNow_8 : decode cL_levelNow 8 = .ok (.goto 6, 3) := by decide +kernel
theorem dL_levelNow_11 : decode cL_levelNow 11 = .ok (.astore_n 2, 1) := by decide +kernel
theorem dL_levelNow_12 : decode cL_levelNow 12 = .ok (.iconst 1, 1) := by decide +kernel
theorem dL_levelNow_13 : decode cL_levelNow 13 = .ok (.ireturn, 1) := by decide +kernel
theorem dL_levelNow_14 : decode cL_levelNow 14 = .ok (.iconst 0, 1) := by decide +kernel
theorem dL_levelNow_15 : decode cL_levelNow 15 = .ok (.ireturn, 1) := by decide +kernel
theorem dL_levelWithout_0 : decode cL_levelWithout 0 = .ok (.aload_n 3, 1) := by decide +kernel
theorem dL_levelWithout_1 : decode cL_levelWithout 1 = .ok (.iconst 0, 1) := by decide +kernel
theorem dL_levelWithout_2 : decode cL_levelWithout 2 = .ok (.aload_n 0, 1) := by decide +kernel
theorem dL_levelWithout_3 : decode cL_levelWithout 3 = .ok (.iload_n 1, 1) := by decide +kernel
theorem dL_levelWithout_4 : decode cL_levelWithout 4 = .ok (.iload_n 2, 1) := by decide +kernel
theorem dL_levelWithout_5 : decode cL_levelWithout 5 = .ok (.invokevirtual 58, 3) := by decide +kernel
theorem dL_levelWithout_8 : decode cL_levelWithout 8 = .ok (.i2l, 1) := by decide +kernel
theorem dL_levelWithout_9 : decode cL_levelWithout 9 = .ok (.lastore, 1) := by decide +kernel
theorem dL_levelWithout_10 : decode cL_levelWithout 10 = .ok (.goto 11, 3) := by decide +kernel
theorem dL_levelWithout_13 : decode cL_levelWithout 13 = .ok (.astore 4, 2) := by decide +kernel
theorem dL_levelWithout_15 : decode cL_levelWithout 15 = .ok (.iconst 1, 1) := by decide +kernel
theorem dL_levelWithout_16 : decode cL_levelWithout 16 = .ok (.ireturn, 1) := by decide +kernel
theorem dL_levelWithout_17 : decode cL_levelWithout 17 = .ok (.astore 4, 2) := by decide +kernel
theorem dL_levelWithout_19 : decode cL_levelWithout 19 = .ok (.iconst 2, 1) := by decide +kernel
theorem dL_levelWithout_20 : decode cL_levelWithout 20 = .ok (.ireturn, 1) := by decide +kernel
theorem dL_levelWithout_21 : decode cL_levelWithout 21 = .ok (.iconst 0, 1) := by decide +kernel
theorem dL_levelWithout_22 : decode cL_levelWithout 22 = .ok (.ireturn, 1) := by decide +kernel
theorem dL_needed_0 : decode cL_needed 0 = .ok (.aload_n 2, 1) := by decide +kernel
theorem dL_needed_1 : decode cL_needed 1 = .ok (.iconst 0, 1) := by decide +kernel
theorem dL_needed_2 : decode cL_needed 2 = .ok (.aload_n 0, 1) := by decide +kernel
theorem dL_needed_3 : decode cL_needed 3 = .ok (.iload_n 1, 1) := by decide +kernel
theorem dL_needed_4 : decode cL_needed 4 = .ok (.invokevirtual 61, 3) := by decide +kernel
theorem dL_needed_7 : decode cL_needed 7 = .ok (.i2l, 1) := by decide +kernel
theorem dL_needed_8 : decode cL_needed 8 = .ok (.lastore, 1) := by decide +kernel
theorem dL_needed_9 : decode cL_needed 9 = .ok (.goto 6, 3) := by decide +kernel
theorem dL_needed_12 : decode cL_needed 12 = .ok (.astore_n 3, 1) := by decide +kernel
theorem dL_needed_13 : decode cL_needed 13 = .ok (.iconst 1, 1) := by decide +kernel
theorem dL_needed_14 : decode cL_needed 14 = .ok (.ireturn, 1) := by decide +kernel
theorem dL_needed_15 : decode cL_needed 15 = .ok (.iconst 0, 1) := by decide +kernel
theorem dL_needed_16 : decode cL_needed 16 = .ok (.ireturn, 1) := by decide +kernel
theorem dL_segmentOf_0 : decode cL_segmentOf 0 = .ok (.aload_n 2, 1) := by decide +kernel
theorem dL_segmentOf_1 : decode cL_segmentOf 1 = .ok (.iconst 0, 1) := by decide +kernel
theorem dL_segmentOf_2 : decode cL_segmentOf 2 = .ok (.aload_n 0, 1) := by decide +kernel
theorem dL_segmentOf_3 : decode cL_segmentOf 3 = .ok (.iload_n 1, 1) := by decide +kernel
theorem dL_segmentOf_4 : decode cL_segmentOf 4 = .ok (.invokevirtual 64, 3) := by decide +kernel
theorem dL_segmentOf_7 : decode cL_segmentOf 7 = .ok (.i2l, 1) := by decide +kernel
theorem dL_segmentOf_8 : decode cL_segmentOf 8 = .ok (.lastore, 1) := by decide +kernel
theorem dL_segmentOf_9 : decode cL_segmentOf 9 = .ok (.goto 6, 3) := by decide +kernel
theorem dL_segmentOf_12 : decode cL_segmentOf 12 = .ok (.astore_n 3, 1) := by decide +kernel
theorem dL_segmentOf_13 : decode cL_segmentOf 13 = .ok (.iconst 1, 1) := by decide +kernel
theorem dL_segmentOf_14 : decode cL_segmentOf 14 = .ok (.ireturn, 1) := by decide +kernel
theorem dL_segmentOf_15 : decode cL_segmentOf 15 = .ok (.iconst 0, 1) := by decide +kernel
theorem dL_segmentOf_16 : decode cL_segmentOf 16 = .ok (.ireturn, 1) := by decide +kernel
theorem dL_wouldBreak_0 : decode cL_wouldBreak 0 = .ok (.aload 4, 2) := by decide +kernel
theorem dL_wouldBreak_2 : decode cL_wouldBreak 2 = .ok (.iconst 0, 1) := by decide +kernel
theorem dL_wouldBreak_3 : decode cL_wouldBreak 3 = .ok (.aload_n 0, 1) := by decide +kernel
theorem dL_wouldBreak_4 : decode cL_wouldBreak 4 = .ok (.iload_n 1, 1) := by decide +kernel
theorem dL_wouldBreak_5 : decode cL_wouldBreak 5 = .ok (.iload_n 2, 1) := by decide +kernel
theorem dL_wouldBreak_6 : decode cL_wouldBreak 6 = .ok (.iload_n 3, 1) := by decide +kernel
theorem dL_wouldBreak_7 : decode cL_wouldBreak 7 = .ok (.invokevirtual 67, 3) := by decide +kernel
theorem dL_wouldBreak_10 : decode cL_wouldBreak 10 = .ok (.i2l, 1) := by decide +kernel
theorem dL_wouldBreak_11 : decode cL_wouldBreak 11 = .ok (.lastore, 1) := by decide +kernel
theorem dL_wouldBreak_12 : decode cL_wouldBreak 12 = .ok (.goto 11, 3) := by decide +kernel
theorem dL_wouldBreak_15 : decode cL_wouldBreak 15 = .ok (.astore 5, 2) := by decide +kernel
theorem dL_wouldBreak_17 : decode cL_wouldBreak 17 = .ok (.iconst 1, 1) := by decide +kernel
theorem dL_wouldBreak_18 : decode cL_wouldBreak 18 = .ok (.ireturn, 1) := by decide +kernel
theorem dL_wouldBreak_19 : decode cL_wouldBreak 19 = .ok (.astore 5, 2) := by decide +kernel
theorem dL_wouldBreak_21 : decode cL_wouldBreak 21 = .ok (.iconst 2, 1) := by decide +kernel
theorem dL_wouldBreak_22 : decode cL_wouldBreak 22 = .ok (.ireturn, 1) := by decide +kernel
theorem dL_wouldBreak_23 : decode cL_wouldBreak 23 = .ok (.iconst 0, 1) := by decide +kernel
theorem dL_wouldBreak_24 : decode cL_wouldBreak 24 = .ok (.ireturn, 1) := by decide +kernel
theorem dL_wouldDrift_0 : decode cL_wouldDrift 0 = .ok (.aload 4, 2) := by decide +kernel
theorem dL_wouldDrift_2 : decode cL_wouldDrift 2 = .ok (.iconst 0, 1) := by decide +kernel
theorem dL_wouldDrift_3 : decode cL_wouldDrift 3 = .ok (.aload_n 0, 1) := by decide +kernel
theorem dL_wouldDrift_4 : decode cL_wouldDrift 4 = .ok (.iload_n 1, 1) := by decide +kernel
theorem dL_wouldDrift_5 : decode cL_wouldDrift 5 = .ok (.iload_n 2, 1) := by decide +kernel
theorem dL_wouldDrift_6 : decode cL_wouldDrift 6 = .ok (.iload_n 3, 1) := by decide +kernel
theorem dL_wouldDrift_7 : decode cL_wouldDrift 7 = .ok (.invokevirtual 71, 3) := by decide +kernel
theorem dL_wouldDrift_10 : decode cL_wouldDrift 10 = .ok (.i2l, 1) := by decide +kernel
theorem dL_wouldDrift_11 : decode cL_wouldDrift 11 = .ok (.lastore, 1) := by decide +kernel
theorem dL_wouldDrift_12 : decode cL_wouldDrift 12 = .ok (.goto 11, 3) := by decide +kernel
theorem dL_wouldDrift_15 : decode cL_wouldDrift 15 = .ok (.astore 5, 2) := by decide +kernel
theorem dL_wouldDrift_17 : decode cL_wouldDrift 17 = .ok (.iconst 1, 1) := by decide +kernel
theorem dL_wouldDrift_18 : decode cL_wouldDrift 18 = .ok (.ireturn, 1) := by decide +kernel
theorem dL_wouldDrift_19 : decode cL_wouldDrift 19 = .ok (.astore 5, 2) := by decide +kernel
theorem dL_wouldDrift_21 : decode cL_wouldDrift 21 = .ok (.iconst 2, 1) := by decide +kernel
theorem dL_wouldDrift_22 : decode cL_wouldDrift 22 = .ok (.ireturn, 1) := by decide +kernel
theorem dL_wouldDrift_23 : decode cL_wouldDrift 23 = .ok (.iconst 0, 1) := by decide +kernel
theorem dL_wouldDrift_24 : decode cL_wouldDrift 24 = .ok (.ireturn, 1) := by decide +kernel
theorem dL_lacks_0 : decode cL_lacks 0 = .ok (.aload_n 2, 1) := by decide +kernel
theorem dL_lacks_1 : decode cL_lacks 1 = .ok (.iconst 0, 1) := by decide +kernel
theorem dL_lacks_2 : decode cL_lacks 2 = .ok (.aload_n 0, 1) := by decide +kernel
theorem dL_lacks_3 : decode cL_lacks 3 = .ok (.iload_n 1, 1) := by decide +kernel
theorem dL_lacks_4 : decode cL_lacks 4 = .ok (.invokevirtual 74, 3) := by decide +kernel
theorem dL_lacks_7 : decode cL_lacks 7 = .ok (.i2l, 1) := by decide +kernel
theorem dL_lacks_8 : decode cL_lacks 8 = .ok (.lastore, 1) := by decide +kernel
theorem dL_lacks_9 : decode cL_lacks 9 = .ok (.goto 6, 3) := by decide +kernel
theorem dL_lacks_12 : decode cL_lacks 12 = .ok (.astore_n 3, 1) := by decide +kernel
theorem dL_lacks_13 : decode cL_lacks 13 = .ok (.iconst 1, 1) := by decide +kernel
theorem dL_lacks_14 : decode cL_lacks 14 = .ok (.ireturn, 1) := by decide +kernel
theorem dL_lacks_15 : decode cL_lacks 15 = .ok (.iconst 0, 1) := by decide +kernel
theorem dL_lacks_16 : decode cL_lacks 16 = .ok (.ireturn, 1) := by decide +kernel
theorem dL_plan_0 : decode cL_plan 0 = .ok (.aload_n 2, 1) := by decide +kernel
theorem dL_plan_1 : decode cL_plan 1 = .ok (.iconst 0, 1) := by decide +kernel
theorem dL_plan_2 : decode cL_plan 2 = .ok (.aload_n 0, 1) := by decide +kernel
theorem dL_plan_3 : decode cL_plan 3 = .ok (.iload_n 1, 1) := by decide +kernel
theorem dL_plan_4 : decode cL_plan 4 = .ok (.invokevirtual 77, 3) := by decide +kernel
theorem dL_plan_7 : decode cL_plan 7 = .ok (.i2l, 1) := by decide +kernel
theorem dL_plan_8 : decode cL_plan 8 = .ok (.lastore, 1) := by decide +kernel
theorem dL_plan_9 : decode cL_plan 9 = .ok (.goto 6, 3) := by decide +kernel
theorem dL_plan_12 : decode cL_plan 12 = .ok (.astore_n 3, 1) := by decide +kernel
theorem dL_plan_13 : decode cL_plan 13 = .ok (.iconst 1, 1) := by decide +kernel
theorem dL_plan_14 : decode cL_plan 14 = .ok (.ireturn, 1) := by decide +kernel
theorem dL_plan_15 : decode cL_plan 15 = .ok (.iconst 0, 1) := by decide +kernel
theorem dL_plan_16 : decode cL_plan 16 = .ok (.ireturn, 1) := by decide +kernel
theorem dL_planLength_0 : decode cL_planLength 0 = .ok (.aload_n 2, 1) := by decide +kernel
theorem dL_planLength_1 : decode cL_planLength 1 = .ok (.iconst 0, 1) := by decide +kernel
theorem dL_planLength_2 : decode cL_planLength 2 = .ok (.aload_n 0, 1) := by decide +kernel
theorem dL_planLength_3 : decode cL_planLength 3 = .ok (.iload_n 1, 1) := by decide +kernel
theorem dL_planLength_4 : decode cL_planLength 4 = .ok (.invokevirtual 80, 3) := by decide +kernel
theorem dL_planLength_7 : decode cL_planLength 7 = .ok (.i2l, 1) := by decide +kernel
theorem dL_planLength_8 : decode cL_planLength 8 = .ok (.lastore, 1) := by decide +kernel
theorem dL_planLength_9 : decode cL_planLength 9 = .ok (.goto 6, 3) := by decide +kernel
theorem dL_planLength_12 : decode cL_planLength 12 = .ok (.astore_n 3, 1) := by decide +kernel
theorem dL_planLength_13 : decode cL_planLength 13 = .ok (.iconst 1, 1) := by decide +kernel
theorem dL_planLength_14 : decode cL_planLength 14 = .ok (.ireturn, 1) := by decide +kernel
theorem dL_planLength_15 : decode cL_planLength 15 = .ok (.iconst 0, 1) := by decide +kernel
theorem dL_planLength_16 : decode cL_planLength 16 = .ok (.ireturn, 1) := by decide +kernel
theorem dL_report_0 : decode cL_report 0 = .ok (.aload_n 3, 1) := by decide +kernel
theorem dL_report_1 : decode cL_report 1 = .ok (.iconst 0, 1) := by decide +kernel
theorem dL_report_2 : decode cL_report 2 = .ok (.aload_n 0, 1) := by decide +kernel
theorem dL_report_3 : decode cL_report 3 = .ok (.iload_n 1, 1) := by decide +kernel
theorem dL_report_4 : decode cL_report 4 = .ok (.iload_n 2, 1) := by decide +kernel
theorem dL_report_5 : decode cL_report 5 = .ok (.invokevirtual 83, 3) := by decide +kernel
theorem dL_report_8 : decode cL_report 8 = .ok (.i2l, 1) := by decide +kernel
theorem dL_report_9 : decode cL_report 9 = .ok (.lastore, 1) := by decide +kernel
theorem dL_report_10 : decode cL_report 10 = .ok (.goto 11, 3) := by decide +kernel
theorem dL_report_13 : decode cL_report 13 = .ok (.astore 4, 2) := by decide +kernel
theorem dL_report_15 : decode cL_report 15 = .ok (.iconst 1, 1) := by decide +kernel
theorem dL_report_16 : decode cL_report 16 = .ok (.ireturn, 1) := by decide +kernel
theorem dL_report_17 : decode cL_report 17 = .ok (.astore 4, 2) := by decide +kernel
theorem dL_report_19 : decode cL_report 19 = .ok (.iconst 2, 1) := by decide +kernel
theorem dL_report_20 : decode cL_report 20 = .ok (.ireturn, 1) := by decide +kernel
theorem dL_report_21 : decode cL_report 21 = .ok (.iconst 0, 1) := by decide +kernel
theorem dL_report_22 : decode cL_report 22 = .ok (.ireturn, 1) := by decide +kernel
theorem dL_storm_0 : decode cL_storm 0 = .ok (.aload 4, 2) := by decide +kernel
theorem dL_storm_2 : decode cL_storm 2 = .ok (.iconst 0, 1) := by decide +kernel
theorem dL_storm_3 : decode cL_storm 3 = .ok (.aload_n 0, 1) := by decide +kernel
theorem dL_storm_4 : decode cL_storm 4 = .ok (.iload_n 1, 1) := by decide +kernel
theorem dL_storm_5 : decode cL_storm 5 = .ok (.iload_n 2, 1) := by decide +kernel
theorem dL_storm_6 : decode cL_storm 6 = .ok (.iload_n 3, 1) := by decide +kernel
theorem dL_storm_7 : decode cL_storm 7 = .ok (.invokevirtual 86, 3) := by decide +kernel
theorem dL_storm_10 : decode cL_storm 10 = .ok (.i2l, 1) := by decide +kernel
theorem dL_storm_11 : decode cL_storm 11 = .ok (.lastore, 1) := by decide +kernel
theorem dL_storm_12 : decode cL_storm 12 = .ok (.goto 11, 3) := by decide +kernel
theorem dL_storm_15 : decode cL_storm 15 = .ok (.astore 5, 2) := by decide +kernel
theorem dL_storm_17 : decode cL_storm 17 = .ok (.iconst 1, 1) := by decide +kernel
theorem dL_storm_18 : decode cL_storm 18 = .ok (.ireturn, 1) := by decide +kernel
theorem dL_storm_19 : decode cL_storm 19 = .ok (.astore 5, 2) := by decide +kernel
theorem dL_storm_21 : decode cL_storm 21 = .ok (.iconst 2, 1) := by decide +kernel
theorem dL_storm_22 : decode cL_storm 22 = .ok (.ireturn, 1) := by decide +kernel
theorem dL_storm_23 : decode cL_storm 23 = .ok (.iconst 0, 1) := by decide +kernel
theorem dL_storm_24 : decode cL_storm 24 = .ok (.ireturn, 1) := by decide +kernel
theorem dL_remake_0 : decode cL_remake 0 = .ok (.aload_n 2, 1) := by decide +kernel
theorem dL_remake_1 : decode cL_remake 1 = .ok (.iconst 0, 1) := by decide +kernel
theorem dL_remake_2 : decode cL_remake 2 = .ok (.aload_n 0, 1) := by decide +kernel
theorem dL_remake_3 : decode cL_remake 3 = .ok (.iload_n 1, 1) := by decide +kernel
theorem dL_remake_4 : decode cL_remake 4 = .ok (.invokevirtual 89, 3) := by decide +kernel
theorem dL_remake_7 : decode cL_remake 7 = .ok (.i2l, 1) := by decide +kernel
theorem dL_remake_8 : decode cL_remake 8 = .ok (.lastore, 1) := by decide +kernel
theorem dL_remake_9 : decode cL_remake 9 = .ok (.goto 6, 3) := by decide +kernel
theorem dL_remake_12 : decode cL_remake 12 = .ok (.astore_n 3, 1) := by decide +kernel
theorem dL_remake_13 : decode cL_remake 13 = .ok (.iconst 1, 1) := by decide +kernel
theorem dL_remake_14 : decode cL_remake 14 = .ok (.ireturn, 1) := by decide +kernel
theorem dL_remake_15 : decode cL_remake 15 = .ok (.iconst 0, 1) := by decide +kernel
theorem dL_remake_16 : decode cL_remake 16 = .ok (.ireturn, 1) := by decide +kernel
theorem dL_remakeBy_0 : decode cL_remakeBy 0 = .ok (.aload_n 2, 1) := by decide +kernel
theorem dL_remakeBy_1 : decode cL_remakeBy 1 = .ok (.iconst 0, 1) := by decide +kernel
theorem dL_remakeBy_2 : decode cL_remakeBy 2 = .ok (.aload_n 0, 1) := by decide +kernel
theorem dL_remakeBy_3 : decode cL_remakeBy 3 = .ok (.iload_n 1, 1) := by decide +kernel
theorem dL_remakeBy_4 : decode cL_remakeBy 4 = .ok (.invokevirtual 92, 3) := by decide +kernel
theorem dL_remakeBy_7 : decode cL_remakeBy 7 = .ok (.i2l, 1) := by decide +kernel
theorem dL_remakeBy_8 : decode cL_remakeBy 8 = .ok (.lastore, 1) := by decide +kernel
theorem dL_remakeBy_9 : decode cL_remakeBy 9 = .ok (.goto 6, 3) := by decide +kernel
theorem dL_remakeBy_12 : decode cL_remakeBy 12 = .ok (.astore_n 3, 1) := by decide +kernel
theorem dL_remakeBy_13 : decode cL_remakeBy 13 = .ok (.iconst 1, 1) := by decide +kernel
theorem dL_remakeBy_14 : decode cL_remakeBy 14 = .ok (.ireturn, 1) := by decide +kernel
theorem dL_remakeBy_15 : decode cL_remakeBy 15 = .ok (.iconst 0, 1) := by decide +kernel
theorem dL_remakeBy_16 : decode cL_remakeBy 16 = .ok (.ireturn, 1) := by decide +kernel
theorem dL_haul_0 : decode cL_haul 0 = .ok (.aload_n 2, 1) := by decide +kernel
theorem dL_haul_1 : decode cL_haul 1 = .ok (.iconst 0, 1) := by decide +kernel
theorem dL_haul_2 : decode cL_haul 2 = .ok (.aload_n 0, 1) := by decide +kernel
theorem dL_haul_3 : decode cL_haul 3 = .ok (.iload_n 1, 1) := by decide +kernel
theorem dL_haul_4 : decode cL_haul 4 = .ok (.invokevirtual 95, 3) := by decide +kernel
theorem dL_haul_7 : decode cL_haul 7 = .ok (.i2l, 1) := by decide +kernel
theorem dL_haul_8 : decode cL_haul 8 = .ok (.lastore, 1) := by decide +kernel
theorem dL_haul_9 : decode cL_haul 9 = .ok (.goto 6, 3) := by decide +kernel
theorem dL_haul_12 : decode cL_haul 12 = .ok (.astore_n 3, 1) := by decide +kernel
theorem dL_haul_13 : decode cL_haul 13 = .ok (.iconst 1, 1) := by decide +kernel
theorem dL_haul_14 : decode cL_haul 14 = .ok (.ireturn, 1) := by decide +kernel
theorem dL_haul_15 : decode cL_haul 15 = .ok (.iconst 0, 1) := by decide +kernel
theorem dL_haul_16 : decode cL_haul 16 = .ok (.ireturn, 1) := by decide +kernel
theorem dL_addStock_0 : decode cL_addStock 0 = .ok (.aload_n 2, 1) := by decide +kernel
theorem dL_addStock_1 : decode cL_addStock 1 = .ok (.iconst 0, 1) := by decide +kernel
theorem dL_addStock_2 : decode cL_addStock 2 = .ok (.aload_n 0, 1) := by decide +kernel
theorem dL_addStock_3 : decode cL_addStock 3 = .ok (.iload_n 1, 1) := by decide +kernel
theorem dL_addStock_4 : decode cL_addStock 4 = .ok (.invokevirtual 98, 3) := by decide +kernel
theorem dL_addStock_7 : decode cL_addStock 7 = .ok (.i2l, 1) := by decide +kernel
theorem dL_addStock_8 : decode cL_addStock 8 = .ok (.lastore, 1) := by decide +kernel
theorem dL_addStock_9 : decode cL_addStock 9 = .ok (.goto 6, 3) := by decide +kernel
theorem dL_addStock_12 : decode cL_addStock 12 = .ok (.astore_n 3, 1) := by decide +kernel
theorem dL_addStock_13 : decode cL_addStock 13 = .ok (.iconst 1, 1) := by decide +kernel
theorem dL_addStock_14 : decode cL_addStock 14 = .ok (.ireturn, 1) := by decide +kernel
theorem dL_addStock_15 : decode cL_addStock 15 = .ok (.iconst 0, 1) := by decide +kernel
theorem dL_addStock_16 : decode cL_addStock 16 = .ok (.ireturn, 1) := by decide +kernel
theorem dL_setOffset_0 : decode cL_setOffset 0 = .ok (.aload_n 3, 1) := by decide +kernel
theorem dL_setOffset_1 : decode cL_setOffset 1 = .ok (.iconst 0, 1) := by decide +kernel
theorem dL_setOffset_2 : decode cL_setOffset 2 = .ok (.aload_n 0, 1) := by decide +kernel
theorem dL_setOffset_3 : decode cL_setOffset 3 = .ok (.iload_n 1, 1) := by decide +kernel
theorem dL_setOffset_4 : decode cL_setOffset 4 = .ok (.iload_n 2, 1) := by decide +kernel
theorem dL_setOffset_5 : decode cL_setOffset 5 = .ok (.invokevirtual 101, 3) := by decide +kernel
theorem dL_setOffset_8 : decode cL_setOffset 8 = .ok (.i2l, 1) := by decide +kernel
theorem dL_setOffset_9 : decode cL_setOffset 9 = .ok (.lastore, 1) := by decide +kernel
theorem dL_setOffset_10 : decode cL_setOffset 10 = .ok (.goto 11, 3) := by decide +kernel
theorem dL_setOffset_13 : decode cL_setOffset 13 = .ok (.astore 4, 2) := by decide +kernel
theorem dL_setOffset_15 : decode cL_setOffset 15 = .ok (.iconst 1, 1) := by decide +kernel
theorem dL_setOffset_16 : decode cL_setOffset 16 = .ok (.ireturn, 1) := by decide +kernel
theorem dL_setOffset_17 : decode cL_setOffset 17 = .ok (.astore 4, 2) := by decide +kernel
theorem dL_setOffset_19 : decode cL_setOffset 19 = .ok (.iconst 2, 1) := by decide +kernel
theorem dL_setOffset_20 : decode cL_setOffset 20 = .ok (.ireturn, 1) := by decide +kernel
theorem dL_setOffset_21 : decode cL_setOffset 21 = .ok (.iconst 0, 1) := by decide +kernel
theorem dL_setOffset_22 : decode cL_setOffset 22 = .ok (.ireturn, 1) := by decide +kernel
theorem dL_setHold_0 : decode cL_setHold 0 = .ok (.aload_n 3, 1) := by decide +kernel
theorem dL_setHold_1 : decode cL_setHold 1 = .ok (.iconst 0, 1) := by decide +kernel
theorem dL_setHold_2 : decode cL_setHold 2 = .ok (.aload_n 0, 1) := by decide +kernel
theorem dL_setHold_3 : decode cL_setHold 3 = .ok (.iload_n 1, 1) := by decide +kernel
theorem dL_setHold_4 : decode cL_setHold 4 = .ok (.iload_n 2, 1) := by decide +kernel
theorem dL_setHold_5 : decode cL_setHold 5 = .ok (.invokevirtual 104, 3) := by decide +kernel
theorem dL_setHold_8 : decode cL_setHold 8 = .ok (.i2l, 1) := by decide +kernel
theorem dL_setHold_9 : decode cL_setHold 9 = .ok (.lastore, 1) := by decide +kernel
theorem dL_setHold_10 : decode cL_setHold 10 = .ok (.goto 11, 3) := by decide +kernel
theorem dL_setHold_13 : decode cL_setHold 13 = .ok (.astore 4, 2) := by decide +kernel
theorem dL_setHold_15 : decode cL_setHold 15 = .ok (.iconst 1, 1) := by decide +kernel
theorem dL_setHold_16 : decode cL_setHold 16 = .ok (.ireturn, 1) := by decide +kernel
theorem dL_setHold_17 : decode cL_setHold 17 = .ok (.astore 4, 2) := by decide +kernel
theorem dL_setHold_19 : decode cL_setHold 19 = .ok (.iconst 2, 1) := by decide +kernel
theorem dL_setHold_20 : decode cL_setHold 20 = .ok (.ireturn, 1) := by decide +kernel
theorem dL_setHold_21 : decode cL_setHold 21 = .ok (.iconst 0, 1) := by decide +kernel
theorem dL_setHold_22 : decode cL_setHold 22 = .ok (.ireturn, 1) := by decide +kernel
theorem dL_setTerms_0 : decode cL_setTerms 0 = .ok (.aload 4, 2) := by decide +kernel
theorem dL_setTerms_2 : decode cL_setTerms 2 = .ok (.iconst 0, 1) := by decide +kernel
theorem dL_setTerms_3 : decode cL_setTerms 3 = .ok (.aload_n 0, 1) := by decide +kernel
theorem dL_setTerms_4 : decode cL_setTerms 4 = .ok (.iload_n 1, 1) := by decide +kernel
theorem dL_setTerms_5 : decode cL_setTerms 5 = .ok (.iload_n 2, 1) := by decide +kernel
theorem dL_setTerms_6 : decode cL_setTerms 6 = .ok (.iload_n 3, 1) := by decide +kernel
theorem dL_setTerms_7 : decode cL_setTerms 7 = .ok (.invokevirtual 107, 3) := by decide +kernel
theorem dL_setTerms_10 : decode cL_setTerms 10 = .ok (.i2l, 1) := by decide +kernel
theorem dL_setTerms_11 : decode cL_setTerms 11 = .ok (.lastore, 1) := by decide +kernel
theorem dL_setTerms_12 : decode cL_setTerms 12 = .ok (.goto 7, 3) := by decide +kernel
theorem dL_setTerms_15 : decode cL_setTerms 15 = .ok (.astore 5, 2) := by decide +kernel
theorem dL_setTerms_17 : decode cL_setTerms 17 = .ok (.iconst 1, 1) := by decide +kernel
theorem dL_setTerms_18 : decode cL_setTerms 18 = .ok (.ireturn, 1) := by decide +kernel
theorem dL_setTerms_19 : decode cL_setTerms 19 = .ok (.iconst 0, 1) := by decide +kernel
theorem dL_setTerms_20 : decode cL_setTerms 20 = .ok (.ireturn, 1) := by decide +kernel
theorem dL_output_0 : decode cL_output 0 = .ok (.aload_n 2, 1) := by decide +kernel
theorem dL_output_1 : decode cL_output 1 = .ok (.iconst 0, 1) := by decide +kernel
theorem dL_output_2 : decode cL_output 2 = .ok (.aload_n 0, 1) := by decide +kernel
theorem dL_output_3 : decode cL_output 3 = .ok (.iload_n 1, 1) := by decide +kernel
theorem dL_output_4 : decode cL_output 4 = .ok (.invokevirtual 110, 3) := by decide +kernel
theorem dL_output_7 : decode cL_output 7 = .ok (.i2l, 1) := by decide +kernel
theorem dL_output_8 : decode cL_output 8 = .ok (.lastore, 1) := by decide +kernel
theorem dL_output_9 : decode cL_output 9 = .ok (.goto 6, 3) := by decide +kernel
theorem dL_output_12 : decode cL_output 12 = .ok (.astore_n 3, 1) := by decide +kernel
theorem dL_output_13 : decode cL_output 13 = .ok (.iconst 1, 1) := by decide +kernel
theorem dL_output_14 : decode cL_output 14 = .ok (.ireturn, 1) := by decide +kernel
theorem dL_output_15 : decode cL_output 15 = .ok (.iconst 0, 1) := by decide +kernel
theorem dL_output_16 : decode cL_output 16 = .ok (.ireturn, 1) := by decide +kernel
theorem dL_undo_0 : decode cL_undo 0 = .ok (.aload_n 1, 1) := by decide +kernel
theorem dL_undo_1 : decode cL_undo 1 = .ok (.iconst 0, 1) := by decide +kernel
theorem dL_undo_2 : decode cL_undo 2 = .ok (.aload_n 0, 1) := by decide +kernel
theorem dL_undo_3 : decode cL_undo 3 = .ok (.invokevirtual 113, 3) := by decide +kernel
theorem dL_undo_6 : decode cL_undo 6 = .ok (.i2l, 1) := by decide +kernel
theorem dL_undo_7 : decode cL_undo 7 = .ok (.lastore, 1) := by decide +kernel
theorem dL_undo_8 : decode cL_undo 8 = .ok (.goto 6, 3) := by decide +kernel
theorem dL_undo_11 : decode cL_undo 11 = .ok (.astore_n 2, 1) := by decide +kernel
theorem dL_undo_12 : decode cL_undo 12 = .ok (.iconst 1, 1) := by decide +kernel
theorem dL_undo_13 : decode cL_undo 13 = .ok (.ireturn, 1) := by decide +kernel
theorem dL_undo_14 : decode cL_undo 14 = .ok (.iconst 0, 1) := by decide +kernel
theorem dL_undo_15 : decode cL_undo 15 = .ok (.ireturn, 1) := by decide +kernel
theorem dL_save_0 : decode cL_save 0 = .ok (.aload_n 2, 1) := by decide +kernel
theorem dL_save_1 : decode cL_save 1 = .ok (.iconst 0, 1) := by decide +kernel
theorem dL_save_2 : decode cL_save 2 = .ok (.aload_n 0, 1) := by decide +kernel
theorem dL_save_3 : decode cL_save 3 = .ok (.iload_n 1, 1) := by decide +kernel
theorem dL_save_4 : decode cL_save 4 = .ok (.invokevirtual 116, 3) := by decide +kernel
theorem dL_save_7 : decode cL_save 7 = .ok (.i2l, 1) := by decide +kernel
theorem dL_save_8 : decode cL_save 8 = .ok (.lastore, 1) := by decide +kernel
theorem dL_save_9 : decode cL_save 9 = .ok (.goto 6, 3) := by decide +kernel
theorem dL_save_12 : decode cL_save 12 = .ok (.astore_n 3, 1) := by decide +kernel
theorem dL_save_13 : decode cL_save 13 = .ok (.iconst 1, 1) := by decide +kernel
theorem dL_save_14 : decode cL_save 14 = .ok (.ireturn, 1) := by decide +kernel
theorem dL_save_15 : decode cL_save 15 = .ok (.iconst 0, 1) := by decide +kernel
theorem dL_save_16 : decode cL_save 16 = .ok (.ireturn, 1) := by decide +kernel
theorem dL_restore_0 : decode cL_restore 0 = .ok (.aload_n 2, 1) := by decide +kernel
theorem dL_restore_1 : decode cL_restore 1 = .ok (.iconst 0, 1) := by decide +kernel
theorem dL_restore_2 : decode cL_restore 2 = .ok (.aload_n 0, 1) := by decide +kernel
theorem dL_restore_3 : decode cL_restore 3 = .ok (.iload_n 1, 1) := by decide +kernel
theorem dL_restore_4 : decode cL_restore 4 = .ok (.invokevirtual 119, 3) := by decide +kernel
theorem dL_restore_7 : decode cL_restore 7 = .ok (.i2l, 1) := by decide +kernel
theorem dL_restore_8 : decode cL_restore 8 = .ok (.lastore, 1) := by decide +kernel
theorem dL_restore_9 : decode cL_restore 9 = .ok (.goto 9, 3) := by decide +kernel
theorem dL_restore_12 : decode cL_restore 12 = .ok (.astore_n 3, 1) := by decide +kernel
theorem dL_restore_13 : decode cL_restore 13 = .ok (.iconst 1, 1) := by decide +kernel
theorem dL_restore_14 : decode cL_restore 14 = .ok (.ireturn, 1) := by decide +kernel
theorem dL_restore_15 : decode cL_restore 15 = .ok (.astore_n 3, 1) := by decide +kernel
theorem dL_restore_16 : decode cL_restore 16 = .ok (.iconst 2, 1) := by decide +kernel
theorem dL_restore_17 : decode cL_restore 17 = .ok (.ireturn, 1) := by decide +kernel
theorem dL_restore_18 : decode cL_restore 18 = .ok (.iconst 0, 1) := by decide +kernel
theorem dL_restore_19 : decode cL_restore 19 = .ok (.ireturn, 1) := by decide +kernel
theorem dL_law_0 : decode cL_law 0 = .ok (.new 8, 3) := by decide +kernel
theorem dL_law_3 : decode cL_law 3 = .ok (.dup, 1) := by decide +kernel
theorem dL_law_4 : decode cL_law 4 = .ok (.invokespecial 122, 3) := by decide +kernel
theorem dL_law_7 : decode cL_law 7 = .ok (.astore_n 1, 1) := by decide +kernel
theorem dL_law_8 : decode cL_law 8 = .ok (.new 123, 3) := by decide +kernel
theorem dL_law_11 : decode cL_law 11 = .ok (.dup, 1) := by decide +kernel
theorem dL_law_12 : decode cL_law 12 = .ok (.invokespecial 125, 3) := by decide +kernel
theorem dL_law_15 : decode cL_law 15 = .ok (.astore_n 2, 1) := by decide +kernel
theorem dL_law_16 : decode cL_law 16 = .ok (.iconst 1, 1) := by decide +kernel
theorem dL_law_17 : decode cL_law 17 = .ok (.newarray .long, 2) := by decide +kernel
theorem dL_law_19 : decode cL_law 19 = .ok (.astore_n 3, 1) := by decide +kernel
theorem dL_law_20 : decode cL_law 20 = .ok (.iconst 1, 1) := by decide +kernel
theorem dL_law_21 : decode cL_law 21 = .ok (.newarray .double, 2) := by decide +kernel
theorem dL_law_23 : decode cL_law 23 = .ok (.astore 4, 2) := by decide +kernel
theorem dL_law_25 : decode cL_law 25 = .ok (.iconst 0, 1) := by decide +kernel
theorem dL_law_26 : decode cL_law 26 = .ok (.istore 5, 2) := by decide +kernel
theorem dL_law_28 : decode cL_law 28 = .ok (.iload 5, 2) := by decide +kernel
theorem dL_law_30 : decode cL_law 30 = .ok (.aload_n 0, 1) := by decide +kernel
theorem dL_law_31 : decode cL_law 31 = .ok (.arraylength, 1) := by decide +kernel
theorem dL_law_32 : decode cL_law 32 = .ok (.bipush 6, 2) := by decide +kernel
theorem dL_law_34 : decode cL_law 34 = .ok (.isub, 1) := by decide +kernel
theorem dL_law_35 : decode cL_law 35 = .ok (.if_icmp .gt 2521, 3) := by decide +kernel
theorem dL_law_38 : decode cL_law 38 = .ok (.aload_n 0, 1) := by decide +kernel
theorem dL_law_39 : decode cL_law 39 = .ok (.iload 5, 2) := by decide +kernel
theorem dL_law_41 : decode cL_law 41 = .ok (.iaload, 1) := by decide +kernel
theorem dL_law_42 : decode cL_law 42 = .ok (.bipush 63, 2) := by decide +kernel
theorem dL_law_44 : decode cL_law 44 = .ok (.iand, 1) := by decide +kernel
theorem dL_law_45 : decode cL_law 45 = .ok (.tableswitch 2505 0 44 #[195, 299, 312, 325, 338, 351, 407, 475, 543, 599, 667, 723, 791, 859, 915, 956, 997, 1075, 1119, 1187, 1243, 1256, 1312, 1325, 1405, 1485, 1498, 1554, 1610, 1666, 1734, 1747, 1827, 1883, 1939, 1995, 2051, 2119, 2187, 2267, 2280, 2293, 2349, 2393, 2449], 195) := by decide +kernel
theorem dL_law_240 : decode cL_law 240 = .ok (.aload_n 1, 1) := by decide +kernel
theorem dL_law_241 : decode cL_law 241 = .ok (.aload_n 0, 1) := by decide +kernel
theorem dL_law_242 : decode cL_law 242 = .ok (.iload 5, 2) := by decide +kernel
theorem dL_law_244 : decode cL_law 244 = .ok (.iconst 1, 1) := by decide +kernel
theorem dL_law_245 : decode cL_law 245 = .ok (.iadd, 1) := by decide +kernel
theorem dL_law_246 : decode cL_law 246 = .ok (.iaload, 1) := by decide +kernel
theorem dL_law_247 : decode cL_law 247 = .ok (.aload_n 0, 1) := by decide +kernel
theorem dL_law_248 : decode cL_law 248 = .ok (.iload 5, 2) := by decide +kernel
theorem dL_law_250 : decode cL_law 250 = .ok (.iconst 2, 1) := by decide +kernel
theorem dL_law_251 : decode cL_law 251 = .ok (.iadd, 1) := by decide +kernel
theorem dL_law_252 : decode cL_law 252 = .ok (.iaload, 1) := by decide +kernel
theorem dL_law_253 : decode cL_law 253 = .ok (.aload_n 0, 1) := by decide +kernel
theorem dL_law_254 : decode cL_law 254 = .ok (.iload 5, 2) := by decide +kernel
theorem dL_law_256 : decode cL_law 256 = .ok (.iconst 3, 1) := by decide +kernel
theorem dL_law_257 : decode cL_law 257 = .ok (.iadd, 1) := by decide +kernel
theorem dL_law_258 : decode cL_law 258 = .ok (.iaload, 1) := by decide +kernel
theorem dL_law_259 : decode cL_law 259 = .ok (.aload_n 0, 1) := by decide +kernel
theorem dL_law_260 : decode cL_law 260 = .ok (.iload 5, 2) := by decide +kernel
theorem dL_law_262 : decode cL_law 262 = .ok (.iconst 4, 1) := by decide +kernel
theorem dL_law_263 : decode cL_law 263 = .ok (.iadd, 1) := by decide +kernel
theorem dL_law_264 : decode cL_law 264 = .ok (.iaload, 1) := by decide +kernel
theorem dL_law_265 : decode cL_law 265 = .ok (.aload_n 0, 1) := by decide +kernel
theorem dL_law_266 : decode cL_law 266 = .ok (.iload 5, 2) := by decide +kernel
theorem dL_law_268 : decode cL_law 268 = .ok (.iconst 5, 1) := by decide +kernel
theorem dL_law_269 : decode cL_law 269 = .ok (.iadd, 1) := by decide +kernel
theorem dL_law_270 : decode cL_law 270 = .ok (.iaload, 1) := by decide +kernel
theorem dL_law_271 : decode cL_law 271 = .ok (.aload_n 3, 1) := by decide +kernel
theorem dL_law_272 : decode cL_law 272 = .ok (.invokestatic 126, 3) := by decide +kernel
theorem dL_law_275 : decode cL_law 275 = .ok (.istore 6, 2) := by decide +kernel
theorem dL_law_277 : decode cL_law 277 = .ok (.aload_n 2, 1) := by decide +kernel
theorem dL_law_278 : decode cL_law 278 = .ok (.aload_n 0, 1) := by decide +kernel
theorem dL_law_279 : decode cL_law 279 = .ok (.iload 5, 2) := by decide +kernel
theorem dL_law_281 : decode cL_law 281 = .ok (.iconst 1, 1) := by decide +kernel
theorem dL_law_282 : decode cL_law 282 = .ok (.iadd, 1) := by decide +kernel
theorem dL_law_283 : decode cL_law 283 = .ok (.iaload, 1) := by decide +kernel
theorem dL_law_284 : decode cL_law 284 = .ok (.aload_n 0, 1) := by decide +kernel
theorem dL_law_285 : decode cL_law 285 = .ok (.iload 5, 2) := by decide +kernel
theorem dL_law_287 : decode cL_law 287 = .ok (.iconst 2, 1) := by decide +kernel
theorem dL_law_288 : decode cL_law 288 = .ok (.iadd, 1) := by decide +kernel
theorem dL_law_289 : decode cL_law 289 = .ok (.iaload, 1) := by decide +kernel
theorem dL_law_290 : decode cL_law 290 = .ok (.aload_n 0, 1) := by decide +kernel
theorem dL_law_291 : decode cL_law 291 = .ok (.iload 5, 2) := by decide +kernel
theorem dL_law_293 : decode cL_law 293 = .ok (.iconst 3, 1) := by decide +kernel
theorem dL_law_294 : decode cL_law 294 = .ok (.iadd, 1) := by decide +kernel
theorem dL_law_295 : decode cL_law 295 = .ok (.iaload, 1) := by decide +kernel
theorem dL_law_296 : decode cL_law 296 = .ok (.aload_n 0, 1) := by decide +kernel
theorem dL_law_297 : decode cL_law 297 = .ok (.iload 5, 2) := by decide +kernel
theorem dL_law_299 : decode cL_law 299 = .ok (.iconst 4, 1) := by decide +kernel
theorem dL_law_300 : decode cL_law 300 = .ok (.iadd, 1) := by decide +kernel
theorem dL_law_301 : decode cL_law 301 = .ok (.iaload, 1) := by decide +kernel
theorem dL_law_302 : decode cL_law 302 = .ok (.aload_n 0, 1) := by decide +kernel
theorem dL_law_303 : decode cL_law 303 = .ok (.iload 5, 2) := by decide +kernel
theorem dL_law_305 : decode cL_law 305 = .ok (.iconst 5, 1) := by decide +kernel
theorem dL_law_306 : decode cL_law 306 = .ok (.iadd, 1) := by decide +kernel
theorem dL_law_307 : decode cL_law 307 = .ok (.iaload, 1) := by decide +kernel
theorem dL_law_308 : decode cL_law 308 = .ok (.invokevirtual 131, 3) := by decide +kernel
theorem dL_law_311 : decode cL_law 311 = .ok (.istore 7, 2) := by decide +kernel
theorem dL_law_313 : decode cL_law 313 = .ok (.aload_n 2, 1) := by decide +kernel
theorem dL_law_314 : decode cL_law 314 = .ok (.invokevirtual 132, 3) := by decide +kernel
theorem dL_law_317 : decode cL_law 317 = .ok (.iload 6, 2) := by decide +kernel
theorem dL_law_319 : decode cL_law 319 = .ok (.if_icmp .eq 5, 3) := by decide +kernel
theorem dL_law_322 : decode cL_law 322 = .ok (.iconst 0, 1) := by decide +kernel
theorem dL_law_323 : decode cL_law 323 = .ok (.ireturn, 1) := by decide +kernel
theorem dL_law_324 : decode cL_law 324 = .ok (.iload 6, 2) := by decide +kernel
theorem dL_law_326 : decode cL_law 326 = .ok (.ifCond .ne 15, 3) := by decide +kernel
theorem dL_law_329 : decode cL_law 329 = .ok (.aload_n 3, 1) := by decide +kernel
theorem dL_law_330 : decode cL_law 330 = .ok (.iconst 0, 1) := by decide +kernel
theorem dL_law_331 : decode cL_law 331 = .ok (.laload, 1) := by decide +kernel
theorem dL_law_332 : decode cL_law 332 = .ok (.iload 7, 2) := by decide +kernel
theorem dL_law_334 : decode cL_law 334 = .ok (.i2l, 1) := by decide +kernel
theorem dL_law_335 : decode cL_law 335 = .ok (.lcmp, 1) := by decide +kernel
theorem dL_law_336 : decode cL_law 336 = .ok (.ifCond .eq 5, 3) := by decide +kernel
theorem dL_law_339 : decode cL_law 339 = .ok (.iconst 0, 1) := by decide +kernel
theorem dL_law_340 : decode cL_law 340 = .ok (.ireturn, 1) := by decide +kernel
theorem dL_law_341 : decode cL_law 341 = .ok (.goto 2209, 3) := by decide +kernel
theorem dL_law_344 : decode cL_law 344 = .ok (.aload_n 1, 1) := by decide +kernel
theorem dL_law_345 : decode cL_law 345 = .ok (.invokevirtual 135, 3) := by decide +kernel
theorem dL_law_348 : decode cL_law 348 = .ok (.aload_n 2, 1) := by decide +kernel
theorem dL_law_349 : decode cL_law 349 = .ok (.invokevirtual 138, 3) := by decide +kernel
theorem dL_law_352 : decode cL_law 352 = .ok (.if_icmp .eq 2198, 3) := by decide +kernel
theorem dL_law_355 : decode cL_law 355 = .ok (.iconst 0, 1) := by decide +kernel
theorem dL_law_356 : decode cL_law 356 = .ok (.ireturn, 1) := by decide +kernel
theorem dL_law_357 : decode cL_law 357 = .ok (.aload_n 1, 1) := by decide +kernel
theorem dL_law_358 : decode cL_law 358 = .ok (.invokevirtual 139, 3) := by decide +kernel
theorem dL_law_361 : decode cL_law 361 = .ok (.aload_n 2, 1) := by decide +kernel
theorem dL_law_362 : decode cL_law 362 = .ok (.invokevirtual 142, 3) := by decide +kernel
theorem dL_law_365 : decode cL_law 365 = .ok (.if_icmp .eq 2185, 3) := by decide +kernel
theorem dL_law_368 : decode cL_law 368 = .ok (.iconst 0, 1) := by decide +kernel
theorem dL_law_369 : decode cL_law 369 = .ok (.ireturn, 1) := by decide +kernel
theorem dL_law_370 : decode cL_law 370 = .ok (.aload_n 1, 1) := by decide +kernel
theorem dL_law_371 : decode cL_law 371 = .ok (.invokevirtual 143, 3) := by decide +kernel
theorem dL_law_374 : decode cL_law 374 = .ok (.aload_n 2, 1) := by decide +kernel
theorem dL_law_375 : decode cL_law 375 = .ok (.invokevirtual 146, 3) := by decide +kernel
theorem dL_law_378 : decode cL_law 378 = .ok (.if_icmp .eq 2172, 3) := by decide +kernel
theorem dL_law_381 : decode cL_law 381 = .ok (.iconst 0, 1) := by decide +kernel
theorem dL_law_382 : decode cL_law 382 = .ok (.ireturn, 1) := by decide +kernel
theorem dL_law_383 : decode cL_law 383 = .ok (.aload_n 1, 1) := by decide +kernel
theorem dL_law_384 : decode cL_law 384 = .ok (.invokevirtual 147, 3) := by decide +kernel
theorem dL_law_387 : decode cL_law 387 = .ok (.aload_n 2, 1) := by decide +kernel
theorem dL_law_388 : decode cL_law 388 = .ok (.invokevirtual 150, 3) := by decide +kernel
theorem dL_law_391 : decode cL_law 391 = .ok (.if_icmp .eq 2159, 3) := by decide +kernel
theorem dL_law_394 : decode cL_law 394 = .ok (.iconst 0, 1) := by decide +kernel
theorem dL_law_395 : decode cL_law 395 = .ok (.ireturn, 1) := by decide +kernel
theorem dL_law_396 : decode cL_law 396 = .ok (.aload_n 1, 1) := by decide +kernel
theorem dL_law_397 : decode cL_law 397 = .ok (.aload_n 0, 1) := by decide +kernel
theorem dL_law_398 : decode cL_law 398 = .ok (.iload 5, 2) := by decide +kernel
theorem dL_law_400 : decode cL_law 400 = .ok (.iconst 1, 1) := by decide +kernel
theorem dL_law_401 : decode cL_law 401 = .ok (.iadd, 1) := by decide +kernel
theorem dL_law_402 : decode cL_law 402 = .ok (.iaload, 1) := by decide +kernel
theorem dL_law_403 : decode cL_law 403 = .ok (.aload_n 3, 1) := by decide +kernel
theorem dL_law_404 : decode cL_law 404 = .ok (.invokestatic 151, 3) := by decide +kernel
theorem dL_law_407 : decode cL_law 407 = .ok (.istore 6, 2) := by decide +kernel
theorem dL_law_409 : decode cL_law 409 = .ok (.aload_n 2, 1) := by decide +kernel
theorem dL_law_410 : decode cL_law 410 = .ok (.aload_n 0, 1) := by decide +kernel
theorem dL_law_411 : decode cL_law 411 = .ok (.iload 5, 2) := by decide +kernel
theorem dL_law_413 : decode cL_law 413 = .ok (.iconst 1, 1) := by decide +kernel
theorem dL_law_414 : decode cL_law 414 = .ok (.iadd, 1) := by decide +kernel
theorem dL_law_415 : decode cL_law 415 = .ok (.iaload, 1) := by decide +kernel
theorem dL_law_416 : decode cL_law 416 = .ok (.invokevirtual 154, 3) := by decide +kernel
theorem dL_law_419 : decode cL_law 419 = .ok (.istore 7, 2) := by decide +kernel
theorem dL_law_421 : decode cL_law 421 = .ok (.aload_n 2, 1) := by decide +kernel
theorem dL_law_422 : decode cL_law 422 = .ok (.invokevirtual 132, 3) := by decide +kernel
theorem dL_law_425 : decode cL_law 425 = .ok (.iload 6, 2) := by decide +kernel
theorem dL_law_427 : decode cL_law 427 = .ok (.if_icmp .eq 5, 3) := by decide +kernel
theorem dL_law_430 : decode cL_law 430 = .ok (.iconst 0, 1) := by decide +kernel
theorem dL_law_431 : decode cL_law 431 = .ok (.ireturn, 1) := by decide +kernel
theorem dL_law_432 : decode cL_law 432 = .ok (.iload 6, 2) := by decide +kernel
theorem dL_law_434 : decode cL_law 434 = .ok (.ifCond .ne 15, 3) := by decide +kernel
theorem dL_law_437 : decode cL_law 437 = .ok (.aload_n 3, 1) := by decide +kernel
theorem dL_law_438 : decode cL_law 438 = .ok (.iconst 0, 1) := by decide +kernel
theorem dL_law_439 : decode cL_law 439 = .ok (.laload, 1) := by decide +kernel
theorem dL_law_440 : decode cL_law 440 = .ok (.iload 7, 2) := by decide +kernel
theorem dL_law_442 : decode cL_law 442 = .ok (.i2l, 1) := by decide +kernel
theorem dL_law_443 : decode cL_law 443 = .ok (.lcmp, 1) := by decide +kernel
theorem dL_law_444 : decode cL_law 444 = .ok (.ifCond .eq 5, 3) := by decide +kernel
theorem dL_law_447 : decode cL_law 447 = .ok (.iconst 0, 1) := by decide +kernel
theorem dL_law_448 : decode cL_law 448 = .ok (.ireturn, 1) := by decide +kernel
theorem dL_law_449 : decode cL_law 449 = .ok (.goto 2101, 3) := by decide +kernel
theorem dL_law_452 : decode cL_law 452 = .ok (.aload_n 1, 1) := by decide +kernel
theorem dL_law_453 : decode cL_law 453 = .ok (.aload_n 0, 1) := by decide +kernel
theorem dL_law_454 : decode cL_law 454 = .ok (.iload 5, 2) := by decide +kernel
theorem dL_law_456 : decode cL_law 456 = .ok (.iconst 1, 1) := by decide +kernel
theorem dL_law_457 : decode cL_law 457 = .ok (.iadd, 1) := by decide +kernel
theorem dL_law_458 : decode cL_law 458 = .ok (.iaload, 1) := by decide +kernel
theorem dL_law_459 : decode cL_law 459 = .ok (.aload_n 0, 1) := by decide +kernel
theorem dL_law_460 : decode cL_law 460 = .ok (.iload 5, 2) := by decide +kernel
theorem dL_law_462 : decode cL_law 462 = .ok (.iconst 2, 1) := by decide +kernel
theorem dL_law_463 : decode cL_law 463 = .ok (.iadd, 1) := by decide +kernel
theorem dL_law_464 : decode cL_law 464 = .ok (.iaload, 1) := by decide +kernel
theorem dL_law_465 : decode cL_law 465 = .ok (.aload_n 3, 1) := by decide +kernel
theorem dL_law_466 : decode cL_law 466 = .ok (.invokestatic 155, 3) := by decide +kernel
theorem dL_law_469 : decode cL_law 469 = .ok (.istore 6, 2) := by decide +kernel
theorem dL_law_471 : decode cL_law 471 = .ok (.aload_n 2, 1) := by decide +kernel
theorem dL_law_472 : decode cL_law 472 = .ok (.aload_n 0, 1) := by decide +kernel
theorem dL_law_473 : decode cL_law 473 = .ok (.iload 5, 2) := by decide +kernel
theorem dL_law_475 : decode cL_law 475 = .ok (.iconst 1, 1) := by decide +kernel
theorem dL_law_476 : decode cL_law 476 = .ok (.iadd, 1) := by decide +kernel
theorem dL_law_477 : decode cL_law 477 = .ok (.iaload, 1) := by decide +kernel
theorem dL_law_478 : decode cL_law 478 = .ok (.aload_n 0, 1) := by decide +kernel
theorem dL_law_479 : decode cL_law 479 = .ok (.iload 5, 2) := by decide +kernel
theorem dL_law_481 : decode cL_law 481 = .ok (.iconst 2, 1) := by decide +kernel
theorem dL_law_482 : decode cL_law 482 = .ok (.iadd, 1) := by decide +kernel
theorem dL_law_483 : decode cL_law 483 = .ok (.iaload, 1) := by decide +kernel
theorem dL_law_484 : decode cL_law 484 = .ok (.invokevirtual 158, 3) := by decide +kernel
theorem dL_law_487 : decode cL_law 487 = .ok (.istore 7, 2) := by decide +kernel
theorem dL_law_489 : decode cL_law 489 = .ok (.aload_n 2, 1) := by decide +kernel
theorem dL_law_490 : decode cL_law 490 = .ok (.invokevirtual 132, 3) := by decide +kernel
theorem dL_law_493 : decode cL_law 493 = .ok (.iload 6, 2) := by decide +kernel
theorem dL_law_495 : decode cL_law 495 = .ok (.if_icmp .eq 5, 3) := by decide +kernel
theorem dL_law_498 : decode cL_law 498 = .ok (.iconst 0, 1) := by decide +kernel
theorem dL_law_499 : decode cL_law 499 = .ok (.ireturn, 1) := by decide +kernel
theorem dL_law_500 : decode cL_law 500 = .ok (.iload 6, 2) := by decide +kernel
theorem dL_law_502 : decode cL_law 502 = .ok (.ifCond .ne 15, 3) := by decide +kernel
theorem dL_law_505 : decode cL_law 505 = .ok (.aload_n 3, 1) := by decide +kernel
theorem dL_law_506 : decode cL_law 506 = .ok (.iconst 0, 1) := by decide +kernel
theorem dL_law_507 : decode cL_law 507 = .ok (.laload, 1) := by decide +kernel
theorem dL_law_508 : decode cL_law 508 = .ok (.iload 7, 2) := by decide +kernel
theorem dL_law_510 : decode cL_law 510 = .ok (.i2l, 1) := by decide +kernel
theorem dL_law_511 : decode cL_law 511 = .ok (.lcmp, 1) := by decide +kernel
theorem dL_law_512 : decode cL_law 512 = .ok (.ifCond .eq 5, 3) := by decide +kernel
theorem dL_law_515 : decode cL_law 515 = .ok (.iconst 0, 1) := by decide +kernel
theorem dL_law_516 : decode cL_law 516 = .ok (.ireturn, 1) := by decide +kernel
theorem dL_law_517 : decode cL_law 517 = .ok (.goto 2033, 3) := by decide +kernel
theorem dL_law_520 : decode cL_law 520 = .ok (.aload_n 1, 1) := by decide +kernel
theorem dL_law_521 : decode cL_law 521 = .ok (.aload_n 0, 1) := by decide +kernel
theorem dL_law_522 : decode cL_law 522 = .ok (.iload 5, 2) := by decide +kernel
theorem dL_law_524 : decode cL_law 524 = .ok (.iconst 1, 1) := by decide +kernel
theorem dL_law_525 : decode cL_law 525 = .ok (.iadd, 1) := by decide +kernel
theorem dL_law_526 : decode cL_law 526 = .ok (.iaload, 1) := by decide +kernel
theorem dL_law_527 : decode cL_law 527 = .ok (.aload_n 0, 1) := by decide +kernel
theorem dL_law_528 : decode cL_law 528 = .ok (.iload 5, 2) := by decide +kernel
theorem dL_law_530 : decode cL_law 530 = .ok (.iconst 2, 1) := by decide +kernel
theorem dL_law_531 : decode cL_law 531 = .ok (.iadd, 1) := by decide +kernel
theorem dL_law_532 : decode cL_law 532 = .ok (.iaload, 1) := by decide +kernel
theorem dL_law_533 : decode cL_law 533 = .ok (.aload_n 3, 1) := by decide +kernel
theorem dL_law_534 : decode cL_law 534 = .ok (.invokestatic 159, 3) := by decide +kernel
theorem dL_law_537 : decode cL_law 537 = .ok (.istore 6, 2) := by decide +kernel
theorem dL_law_539 : decode cL_law 539 = .ok (.aload_n 2, 1) := by decide +kernel
theorem dL_law_540 : decode cL_law 540 = .ok (.aload_n 0, 1) := by decide +kernel
theorem dL_law_541 : decode cL_law 541 = .ok (.iload 5, 2) := by decide +kernel
theorem dL_law_543 : decode cL_law 543 = .ok (.iconst 1, 1) := by decide +kernel
theorem dL_law_544 : decode cL_law 544 = .ok (.iadd, 1) := by decide +kernel
theorem dL_law_545 : decode cL_law 545 = .ok (.iaload, 1) := by decide +kernel
theorem dL_law_546 : decode cL_law 546 = .ok (.aload_n 0, 1) := by decide +kernel
theorem dL_law_547 : decode cL_law 547 = .ok (.iload 5, 2) := by decide +kernel
theorem dL_law_549 : decode cL_law 549 = .ok (.iconst 2, 1) := by decide +kernel
theorem dL_law_550 : decode cL_law 550 = .ok (.iadd, 1) := by decide +kernel
theorem dL_law_551 : decode cL_law 551 = .ok (.iaload, 1) := by decide +kernel
theorem dL_law_552 : decode cL_law 552 = .ok (.invokevirtual 161, 3) := by decide +kernel
theorem dL_law_555 : decode cL_law 555 = .ok (.istore 7, 2) := by decide +kernel
theorem dL_law_557 : decode cL_law 557 = .ok (.aload_n 2, 1) := by decide +kernel
theorem dL_law_558 : decode cL_law 558 = .ok (.invokevirtual 132, 3) := by decide +kernel
theorem dL_law_561 : decode cL_law 561 = .ok (.iload 6, 2) := by decide +kernel
theorem dL_law_563 : decode cL_law 563 = .ok (.if_icmp .eq 5, 3) := by decide +kernel
theorem dL_law_566 : decode cL_law 566 = .ok (.iconst 0, 1) := by decide +kernel
theorem dL_law_567 : decode cL_law 567 = .ok (.ireturn, 1) := by decide +kernel
theorem dL_law_568 : decode cL_law 568 = .ok (.iload 6, 2) := by decide +kernel
theorem dL_law_570 : decode cL_law 570 = .ok (.ifCond .ne 15, 3) := by decide +kernel
theorem dL_law_573 : decode cL_law 573 = .ok (.aload_n 3, 1) := by decide +kernel
theorem dL_law_574 : decode cL_law 574 = .ok (.iconst 0, 1) := by decide +kernel
theorem dL_law_575 : decode cL_law 575 = .ok (.laload, 1) := by decide +kernel
theorem dL_law_576 : decode cL_law 576 = .ok (.iload 7, 2) := by decide +kernel
theorem dL_law_578 : decode cL_law 578 = .ok (.i2l, 1) := by decide +kernel
theorem dL_law_579 : decode cL_law 579 = .ok (.lcmp, 1) := by decide +kernel
theorem dL_law_580 : decode cL_law 580 = .ok (.ifCond .eq 5, 3) := by decide +kernel
theorem dL_law_583 : decode cL_law 583 = .ok (.iconst 0, 1) := by decide +kernel
theorem dL_law_584 : decode cL_law 584 = .ok (.ireturn, 1) := by decide +kernel
theorem dL_law_585 : decode cL_law 585 = .ok (.goto 1965, 3) := by decide +kernel
theorem dL_law_588 : decode cL_law 588 = .ok (.aload_n 1, 1) := by decide +kernel
theorem dL_law_589 : decode cL_law 589 = .ok (.aload_n 0, 1) := by decide +kernel
theorem dL_law_590 : decode cL_law 590 = .ok (.iload 5, 2) := by decide +kernel
theorem dL_law_592 : decode cL_law 592 = .ok (.iconst 1, 1) := by decide +kernel
theorem dL_law_593 : decode cL_law 593 = .ok (.iadd, 1) := by decide +kernel
theorem dL_law_594 : decode cL_law 594 = .ok (.iaload, 1) := by decide +kernel
theorem dL_law_595 : decode cL_law 595 = .ok (.aload_n 3, 1) := by decide +kernel
theorem dL_law_596 : decode cL_law 596 = .ok (.invokestatic 162, 3) := by decide +kernel
theorem dL_law_599 : decode cL_law 599 = .ok (.istore 6, 2) := by decide +kernel
theorem dL_law_601 : decode cL_law 601 = .ok (.aload_n 2, 1) := by decide +kernel
theorem dL_law_602 : decode cL_law 602 = .ok (.aload_n 0, 1) := by decide +kernel
theorem dL_law_603 : decode cL_law 603 = .ok (.iload 5, 2) := by decide +kernel
theorem dL_law_605 : decode cL_law 605 = .ok (.iconst 1, 1) := by decide +kernel
theorem dL_law_606 : decode cL_law 606 = .ok (.iadd, 1) := by decide +kernel
theorem dL_law_607 : decode cL_law 607 = .ok (.iaload, 1) := by decide +kernel
theorem dL_law_608 : decode cL_law 608 = .ok (.invokevirtual 164, 3) := by decide +kernel
theorem dL_law_611 : decode cL_law 611 = .ok (.istore 7, 2) := by decide +kernel
theorem dL_law_613 : decode cL_law 613 = .ok (.aload_n 2, 1) := by decide +kernel
theorem dL_law_614 : decode cL_law 614 = .ok (.invokevirtual 132, 3) := by decide +kernel
theorem dL_law_617 : decode cL_law 617 = .ok (.iload 6, 2) := by decide +kernel
theorem dL_law_619 : decode cL_law 619 = .ok (.if_icmp .eq 5, 3) := by decide +kernel
theorem dL_law_622 : decode cL_law 622 = .ok (.iconst 0, 1) := by decide +kernel
theorem dL_law_623 : decode cL_law 623 = .ok (.ireturn, 1) := by decide +kernel
theorem dL_law_624 : decode cL_law 624 = .ok (.iload 6, 2) := by decide +kernel
theorem dL_law_626 : decode cL_law 626 = .ok (.ifCond .ne 15, 3) := by decide +kernel
theorem dL_law_629 : decode cL_law 629 = .ok (.aload_n 3, 1) := by decide +kernel
theorem dL_law_630 : decode cL_law 630 = .ok (.iconst 0, 1) := by decide +kernel
theorem dL_law_631 : decode cL_law 631 = .ok (.laload, 1) := by decide +kernel
theorem dL_law_632 : decode cL_law 632 = .ok (.iload 7, 2) := by decide +kernel
theorem dL_law_634 : decode cL_law 634 = .ok (.i2l, 1) := by decide +kernel
theorem dL_law_635 : decode cL_law 635 = .ok (.lcmp, 1) := by decide +kernel
theorem dL_law_636 : decode cL_law 636 = .ok (.ifCond .eq 5, 3) := by decide +kernel
theorem dL_law_639 : decode cL_law 639 = .ok (.iconst 0, 1) := by decide +kernel
theorem dL_law_640 : decode cL_law 640 = .ok (.ireturn, 1) := by decide +kernel
theorem dL_law_641 : decode cL_law 641 = .ok (.goto 1909, 3) := by decide +kernel
theorem dL_law_644 : decode cL_law 644 = .ok (.aload_n 1, 1) := by decide +kernel
theorem dL_law_645 : decode cL_law 645 = .ok (.aload_n 0, 1) := by decide +kernel
theorem dL_law_646 : decode cL_law 646 = .ok (.iload 5, 2) := by decide +kernel
theorem dL_law_648 : decode cL_law 648 = .ok (.iconst 1, 1) := by decide +kernel
theorem dL_law_649 : decode cL_law 649 = .ok (.iadd, 1) := by decide +kernel
theorem dL_law_650 : decode cL_law 650 = .ok (.iaload, 1) := by decide +kernel
theorem dL_law_651 : decode cL_law 651 = .ok (.aload_n 0, 1) := by decide +kernel
theorem dL_law_652 : decode cL_law 652 = .ok (.iload 5, 2) := by decide +kernel
theorem dL_law_654 : decode cL_law 654 = .ok (.iconst 2, 1) := by decide +kernel
theorem dL_law_655 : decode cL_law 655 = .ok (.iadd, 1) := by decide +kernel
theorem dL_law_656 : decode cL_law 656 = .ok (.iaload, 1) := by decide +kernel
theorem dL_law_657 : decode cL_law 657 = .ok (.aload_n 3, 1) := by decide +kernel
theorem dL_law_658 : decode cL_law 658 = .ok (.invokestatic 165, 3) := by decide +kernel
theorem dL_law_661 : decode cL_law 661 = .ok (.istore 6, 2) := by decide +kernel
theorem dL_law_663 : decode cL_law 663 = .ok (.aload_n 2, 1) := by decide +kernel
theorem dL_law_664 : decode cL_law 664 = .ok (.aload_n 0, 1) := by decide +kernel
theorem dL_law_665 : decode cL_law 665 = .ok (.iload 5, 2) := by decide +kernel
theorem dL_law_667 : decode cL_law 667 = .ok (.iconst 1, 1) := by decide +kernel
theorem dL_law_668 : decode cL_law 668 = .ok (.iadd, 1) := by decide +kernel
theorem dL_law_669 : decode cL_law 669 = .ok (.iaload, 1) := by decide +kernel
theorem dL_law_670 : decode cL_law 670 = .ok (.aload_n 0, 1) := by decide +kernel
theorem dL_law_671 : decode cL_law 671 = .ok (.iload 5, 2) := by decide +kernel
theorem dL_law_673 : decode cL_law 673 = .ok (.iconst 2, 1) := by decide +kernel
theorem dL_law_674 : decode cL_law 674 = .ok (.iadd, 1) := by decide +kernel
theorem dL_law_675 : decode cL_law 675 = .ok (.iaload, 1) := by decide +kernel
theorem dL_law_676 : decode cL_law 676 = .ok (.invokevirtual 167, 3) := by decide +kernel
theorem dL_law_679 : decode cL_law 679 = .ok (.istore 7, 2) := by decide +kernel
theorem dL_law_681 : decode cL_law 681 = .ok (.aload_n 2, 1) := by decide +kernel
theorem dL_law_682 : decode cL_law 682 = .ok (.invokevirtual 132, 3) := by decide +kernel
theorem dL_law_685 : decode cL_law 685 = .ok (.iload 6, 2) := by decide +kernel
theorem dL_law_687 : decode cL_law 687 = .ok (.if_icmp .eq 5, 3) := by decide +kernel
theorem dL_law_690 : decode cL_law 690 = .ok (.iconst 0, 1) := by decide +kernel
theorem dL_law_691 : decode cL_law 691 = .ok (.ireturn, 1) := by decide +kernel
theorem dL_law_692 : decode cL_law 692 = .ok (.iload 6, 2) := by decide +kernel
theorem dL_law_694 : decode cL_law 694 = .ok (.ifCond .ne 15, 3) := by decide +kernel
theorem dL_law_697 : decode cL_law 697 = .ok (.aload_n 3, 1) := by decide +kernel
theorem dL_law_698 : decode cL_law 698 = .ok (.iconst 0, 1) := by decide +kernel
theorem dL_law_699 : decode cL_law 699 = .ok (.laload, 1) := by decide +kernel
theorem dL_law_700 : decode cL_law 700 = .ok (.iload 7, 2) := by decide +kernel
theorem dL_law_702 : decode cL_law 702 = .ok (.i2l, 1) := by decide +kernel
theorem dL_law_703 : decode cL_law 703 = .ok (.lcmp, 1) := by decide +kernel
theorem dL_law_704 : decode cL_law 704 = .ok (.ifCond .eq 5, 3) := by decide +kernel
theorem dL_law_707 : decode cL_law 707 = .ok (.iconst 0, 1) := by decide +kernel
theorem dL_law_708 : decode cL_law 708 = .ok (.ireturn, 1) := by decide +kernel
theorem dL_law_709 : decode cL_law 709 = .ok (.goto 1841, 3) := by decide +kernel
theorem dL_law_712 : decode cL_law 712 = .ok (.aload_n 1, 1) := by decide +kernel
theorem dL_law_713 : decode cL_law 713 = .ok (.aload_n 0, 1) := by decide +kernel
theorem dL_law_714 : decode cL_law 714 = .ok (.iload 5, 2) := by decide +kernel
theorem dL_law_716 : decode cL_law 716 = .ok (.iconst 1, 1) := by decide +kernel
theorem dL_law_717 : decode cL_law 717 = .ok (.iadd, 1) := by decide +kernel
theorem dL_law_718 : decode cL_law 718 = .ok (.iaload, 1) := by decide +kernel
theorem dL_law_719 : decode cL_law 719 = .ok (.aload_n 3, 1) := by decide +kernel
theorem dL_law_720 : decode cL_law 720 = .ok (.invokestatic 168, 3) := by decide +kernel
theorem dL_law_723 : decode cL_law 723 = .ok (.istore 6, 2) := by decide +kernel
theorem dL_law_725 : decode cL_law 725 = .ok (.aload_n 2, 1) := by decide +kernel
theorem dL_law_726 : decode cL_law 726 = .ok (.aload_n 0, 1) := by decide +kernel
theorem dL_law_727 : decode cL_law 727 = .ok (.iload 5, 2) := by decide +kernel
theorem dL_law_729 : decode cL_law 729 = .ok (.iconst 1, 1) := by decide +kernel
theorem dL_law_730 : decode cL_law 730 = .ok (.iadd, 1) := by decide +kernel
theorem dL_law_731 : decode cL_law 731 = .ok (.iaload, 1) := by decide +kernel
theorem dL_law_732 : decode cL_law 732 = .ok (.invokevirtual 170, 3) := by decide +kernel
theorem dL_law_735 : decode cL_law 735 = .ok (.istore 7, 2) := by decide +kernel
theorem dL_law_737 : decode cL_law 737 = .ok (.aload_n 2, 1) := by decide +kernel
theorem dL_law_738 : decode cL_law 738 = .ok (.invokevirtual 132, 3) := by decide +kernel
theorem dL_law_741 : decode cL_law 741 = .ok (.iload 6, 2) := by decide +kernel
theorem dL_law_743 : decode cL_law 743 = .ok (.if_icmp .eq 5, 3) := by decide +kernel
theorem dL_law_746 : decode cL_law 746 = .ok (.iconst 0, 1) := by decide +kernel
theorem dL_law_747 : decode cL_law 747 = .ok (.ireturn, 1) := by decide +kernel
theorem dL_law_748 : decode cL_law 748 = .ok (.iload 6, 2) := by decide +kernel
theorem dL_law_750 : decode cL_law 750 = .ok (.ifCond .ne 15, 3) := by decide +kernel
theorem dL_law_753 : decode cL_law 753 = .ok (.aload_n 3, 1) := by decide +kernel
theorem dL_law_754 : decode cL_law 754 = .ok (.iconst 0, 1) := by decide +kernel
theorem dL_law_755 : decode cL_law 755 = .ok (.laload, 1) := by decide +kernel
theorem dL_law_756 : decode cL_law 756 = .ok (.iload 7, 2) := by decide +kernel
theorem dL_law_758 : decode cL_law 758 = .ok (.i2l, 1) := by decide +kernel
theorem dL_law_759 : decode cL_law 759 = .ok (.lcmp, 1) := by decide +kernel
theorem dL_law_760 : decode cL_law 760 = .ok (.ifCond .eq 5, 3) := by decide +kernel
theorem dL_law_763 : decode cL_law 763 = .ok (.iconst 0, 1) := by decide +kernel
theorem dL_law_764 : decode cL_law 764 = .ok (.ireturn, 1) := by decide +kernel
theorem dL_law_765 : decode cL_law 765 = .ok (.goto 1785, 3) := by decide +kernel
theorem dL_law_768 : decode cL_law 768 = .ok (.aload_n 1, 1) := by decide +kernel
theorem dL_law_769 : decode cL_law 769 = .ok (.aload_n 0, 1) := by decide +kernel
theorem dL_law_770 : decode cL_law 770 = .ok (.iload 5, 2) := by decide +kernel
theorem dL_law_772 : decode cL_law 772 = .ok (.iconst 1, 1) := by decide +kernel
theorem dL_law_773 : decode cL_law 773 = .ok (.iadd, 1) := by decide +kernel
theorem dL_law_774 : decode cL_law 774 = .ok (.iaload, 1) := by decide +kernel
theorem dL_law_775 : decode cL_law 775 = .ok (.aload_n 0, 1) := by decide +kernel
theorem dL_law_776 : decode cL_law 776 = .ok (.iload 5, 2) := by decide +kernel
theorem dL_law_778 : decode cL_law 778 = .ok (.iconst 2, 1) := by decide +kernel
theorem dL_law_779 : decode cL_law 779 = .ok (.iadd, 1) := by decide +kernel
theorem dL_law_780 : decode cL_law 780 = .ok (.iaload, 1) := by decide +kernel
theorem dL_law_781 : decode cL_law 781 = .ok (.aload_n 3, 1) := by decide +kernel
theorem dL_law_782 : decode cL_law 782 = .ok (.invokestatic 171, 3) := by decide +kernel
theorem dL_law_785 : decode cL_law 785 = .ok (.istore 6, 2) := by decide +kernel
theorem dL_law_787 : decode cL_law 787 = .ok (.aload_n 2, 1) := by decide +kernel
theorem dL_law_788 : decode cL_law 788 = .ok (.aload_n 0, 1) := by decide +kernel
theorem dL_law_789 : decode cL_law 789 = .ok (.iload 5, 2) := by decide +kernel
theorem dL_law_791 : decode cL_law 791 = .ok (.iconst 1, 1) := by decide +kernel
theorem dL_law_792 : decode cL_law 792 = .ok (.iadd, 1) := by decide +kernel
theorem dL_law_793 : decode cL_law 793 = .ok (.iaload, 1) := by decide +kernel
theorem dL_law_794 : decode cL_law 794 = .ok (.aload_n 0, 1) := by decide +kernel
theorem dL_law_795 : decode cL_law 795 = .ok (.iload 5, 2) := by decide +kernel
theorem dL_law_797 : decode cL_law 797 = .ok (.iconst 2, 1) := by decide +kernel
theorem dL_law_798 : decode cL_law 798 = .ok (.iadd, 1) := by decide +kernel
theorem dL_law_799 : decode cL_law 799 = .ok (.iaload, 1) := by decide +kernel
theorem dL_law_800 : decode cL_law 800 = .ok (.invokevirtual 173, 3) := by decide +kernel
theorem dL_law_803 : decode cL_law 803 = .ok (.istore 7, 2) := by decide +kernel
theorem dL_law_805 : decode cL_law 805 = .ok (.aload_n 2, 1) := by decide +kernel
theorem dL_law_806 : decode cL_law 806 = .ok (.invokevirtual 132, 3) := by decide +kernel
theorem dL_law_809 : decode cL_law 809 = .ok (.iload 6, 2) := by decide +kernel
theorem dL_law_811 : decode cL_law 811 = .ok (.if_icmp .eq 5, 3) := by decide +kernel
theorem dL_law_814 : decode cL_law 814 = .ok (.iconst 0, 1) := by decide +kernel
theorem dL_law_815 : decode cL_law 815 = .ok (.ireturn, 1) := by decide +kernel
theorem dL_law_816 : decode cL_law 816 = .ok (.iload 6, 2) := by decide +kernel
theorem dL_law_818 : decode cL_law 818 = .ok (.ifCond .ne 15, 3) := by decide +kernel
theorem dL_law_821 : decode cL_law 821 = .ok (.aload_n 3, 1) := by decide +kernel
theorem dL_law_822 : decode cL_law 822 = .ok (.iconst 0, 1) := by decide +kernel
theorem dL_law_823 : decode cL_law 823 = .ok (.laload, 1) := by decide +kernel
theorem dL_law_824 : decode cL_law 824 = .ok (.iload 7, 2) := by decide +kernel
theorem dL_law_826 : decode cL_law 826 = .ok (.i2l, 1) := by decide +kernel
theorem dL_law_827 : decode cL_law 827 = .ok (.lcmp, 1) := by decide +kernel
theorem dL_law_828 : decode cL_law 828 = .ok (.ifCond .eq 5, 3) := by decide +kernel
theorem dL_law_831 : decode cL_law 831 = .ok (.iconst 0, 1) := by decide +kernel
theorem dL_law_832 : decode cL_law 832 = .ok (.ireturn, 1) := by decide +kernel
theorem dL_law_833 : decode cL_law 833 = .ok (.goto 1717, 3) := by decide +kernel
theorem dL_law_836 : decode cL_law 836 = .ok (.aload_n 1, 1) := by decide +kernel
theorem dL_law_837 : decode cL_law 837 = .ok (.aload_n 0, 1) := by decide +kernel
theorem dL_law_838 : decode cL_law 838 = .ok (.iload 5, 2) := by decide +kernel
theorem dL_law_840 : decode cL_law 840 = .ok (.iconst 1, 1) := by decide +kernel
theorem dL_law_841 : decode cL_law 841 = .ok (.iadd, 1) := by decide +kernel
theorem dL_law_842 : decode cL_law 842 = .ok (.iaload, 1) := by decide +kernel
theorem dL_law_843 : decode cL_law 843 = .ok (.aload_n 0, 1) := by decide +kernel
theorem dL_law_844 : decode cL_law 844 = .ok (.iload 5, 2) := by decide +kernel
theorem dL_law_846 : decode cL_law 846 = .ok (.iconst 2, 1) := by decide +kernel
theorem dL_law_847 : decode cL_law 847 = .ok (.iadd, 1) := by decide +kernel
theorem dL_law_848 : decode cL_law 848 = .ok (.iaload, 1) := by decide +kernel
theorem dL_law_849 : decode cL_law 849 = .ok (.aload_n 3, 1) := by decide +kernel
theorem dL_law_850 : decode cL_law 850 = .ok (.invokestatic 174, 3) := by decide +kernel
theorem dL_law_853 : decode cL_law 853 = .ok (.istore 6, 2) := by decide +kernel
theorem dL_law_855 : decode cL_law 855 = .ok (.aload_n 2, 1) := by decide +kernel
theorem dL_law_856 : decode cL_law 856 = .ok (.aload_n 0, 1) := by decide +kernel
theorem dL_law_857 : decode cL_law 857 = .ok (.iload 5, 2) := by decide +kernel
theorem dL_law_859 : decode cL_law 859 = .ok (.iconst 1, 1) := by decide +kernel
theorem dL_law_860 : decode cL_law 860 = .ok (.iadd, 1) := by decide +kernel
theorem dL_law_861 : decode cL_law 861 = .ok (.iaload, 1) := by decide +kernel
theorem dL_law_862 : decode cL_law 862 = .ok (.aload_n 0, 1) := by decide +kernel
theorem dL_law_863 : decode cL_law 863 = .ok (.iload 5, 2) := by decide +kernel
theorem dL_law_865 : decode cL_law 865 = .ok (.iconst 2, 1) := by decide +kernel
theorem dL_law_866 : decode cL_law 866 = .ok (.iadd, 1) := by decide +kernel
theorem dL_law_867 : decode cL_law 867 = .ok (.iaload, 1) := by decide +kernel
theorem dL_law_868 : decode cL_law 868 = .ok (.invokevirtual 176, 3) := by decide +kernel
theorem dL_law_871 : decode cL_law 871 = .ok (.istore 7, 2) := by decide +kernel
theorem dL_law_873 : decode cL_law 873 = .ok (.aload_n 2, 1) := by decide +kernel
theorem dL_law_874 : decode cL_law 874 = .ok (.invokevirtual 132, 3) := by decide +kernel
theorem dL_law_877 : decode cL_law 877 = .ok (.iload 6, 2) := by decide +kernel
theorem dL_law_879 : decode cL_law 879 = .ok (.if_icmp .eq 5, 3) := by decide +kernel
theorem dL_law_882 : decode cL_law 882 = .ok (.iconst 0, 1) := by decide +kernel
theorem dL_law_883 : decode cL_law 883 = .ok (.ireturn, 1) := by decide +kernel
theorem dL_law_884 : decode cL_law 884 = .ok (.iload 6, 2) := by decide +kernel
theorem dL_law_886 : decode cL_law 886 = .ok (.ifCond .ne 15, 3) := by decide +kernel
theorem dL_law_889 : decode cL_law 889 = .ok (.aload_n 3, 1) := by decide +kernel
theorem dL_law_890 : decode cL_law 890 = .ok (.iconst 0, 1) := by decide +kernel
theorem dL_law_891 : decode cL_law 891 = .ok (.laload, 1) := by decide +kernel
theorem dL_law_892 : decode cL_law 892 = .ok (.iload 7, 2) := by decide +kernel
theorem dL_law_894 : decode cL_law 894 = .ok (.i2l, 1) := by decide +kernel
theorem dL_law_895 : decode cL_law 895 = .ok (.lcmp, 1) := by decide +kernel
theorem dL_law_896 : decode cL_law 896 = .ok (.ifCond .eq 5, 3) := by decide +kernel
theorem dL_law_899 : decode cL_law 899 = .ok (.iconst 0, 1) := by decide +kernel
theorem dL_law_900 : decode cL_law 900 = .ok (.ireturn, 1) := by decide +kernel
theorem dL_law_901 : decode cL_law 901 = .ok (.goto 1649, 3) := by decide +kernel
theorem dL_law_904 : decode cL_law 904 = .ok (.aload_n 1, 1) := by decide +kernel
theorem dL_law_905 : decode cL_law 905 = .ok (.aload_n 0, 1) := by decide +kernel
theorem dL_law_906 : decode cL_law 906 = .ok (.iload 5, 2) := by decide +kernel
theorem dL_law_908 : decode cL_law 908 = .ok (.iconst 1, 1) := by decide +kernel
theorem dL_law_909 : decode cL_law 909 = .ok (.iadd, 1) := by decide +kernel
theorem dL_law_910 : decode cL_law 910 = .ok (.iaload, 1) := by decide +kernel
theorem dL_law_911 : decode cL_law 911 = .ok (.aload_n 3, 1) := by decide +kernel
theorem dL_law_912 : decode cL_law 912 = .ok (.invokestatic 177, 3) := by decide +kernel
theorem dL_law_915 : decode cL_law 915 = .ok (.istore 6, 2) := by decide +kernel
theorem dL_law_917 : decode cL_law 917 = .ok (.aload_n 2, 1) := by decide +kernel
theorem dL_law_918 : decode cL_law 918 = .ok (.aload_n 0, 1) := by decide +kernel
theorem dL_law_919 : decode cL_law 919 = .ok (.iload 5, 2) := by decide +kernel
theorem dL_law_921 : decode cL_law 921 = .ok (.iconst 1, 1) := by decide +kernel
theorem dL_law_922 : decode cL_law 922 = .ok (.iadd, 1) := by decide +kernel
theorem dL_law_923 : decode cL_law 923 = .ok (.iaload, 1) := by decide +kernel
theorem dL_law_924 : decode cL_law 924 = .ok (.invokevirtual 179, 3) := by decide +kernel
theorem dL_law_927 : decode cL_law 927 = .ok (.istore 7, 2) := by decide +kernel
theorem dL_law_929 : decode cL_law 929 = .ok (.aload_n 2, 1) := by decide +kernel
theorem dL_law_930 : decode cL_law 930 = .ok (.invokevirtual 132, 3) := by decide +kernel
theorem dL_law_933 : decode cL_law 933 = .ok (.iload 6, 2) := by decide +kernel
theorem dL_law_935 : decode cL_law 935 = .ok (.if_icmp .eq 5, 3) := by decide +kernel
theorem dL_law_938 : decode cL_law 938 = .ok (.iconst 0, 1) := by decide +kernel
theorem dL_law_939 : decode cL_law 939 = .ok (.ireturn, 1) := by decide +kernel
theorem dL_law_940 : decode cL_law 940 = .ok (.iload 6, 2) := by decide +kernel
theorem dL_law_942 : decode cL_law 942 = .ok (.ifCond .ne 15, 3) := by decide +kernel
theorem dL_law_945 : decode cL_law 945 = .ok (.aload_n 3, 1) := by decide +kernel
theorem dL_law_946 : decode cL_law 946 = .ok (.iconst 0, 1) := by decide +kernel
theorem dL_law_947 : decode cL_law 947 = .ok (.laload, 1) := by decide +kernel
theorem dL_law_948 : decode cL_law 948 = .ok (.iload 7, 2) := by decide +kernel
theorem dL_law_950 : decode cL_law 950 = .ok (.i2l, 1) := by decide +kernel
theorem dL_law_951 : decode cL_law 951 = .ok (.lcmp, 1) := by decide +kernel
theorem dL_law_952 : decode cL_law 952 = .ok (.ifCond .eq 5, 3) := by decide +kernel
theorem dL_law_955 : decode cL_law 955 = .ok (.iconst 0, 1) := by decide +kernel
theorem dL_law_956 : decode cL_law 956 = .ok (.ireturn, 1) := by decide +kernel
theorem dL_law_957 : decode cL_law 957 = .ok (.goto 1593, 3) := by decide +kernel
theorem dL_law_960 : decode cL_law 960 = .ok (.aload_n 1, 1) := by decide +kernel
theorem dL_law_961 : decode cL_law 961 = .ok (.aload_n 0, 1) := by decide +kernel
theorem dL_law_962 : decode cL_law 962 = .ok (.iload 5, 2) := by decide +kernel
theorem dL_law_964 : decode cL_law 964 = .ok (.iconst 1, 1) := by decide +kernel
theorem dL_law_965 : decode cL_law 965 = .ok (.iadd, 1) := by decide +kernel
theorem dL_law_966 : decode cL_law 966 = .ok (.iaload, 1) := by decide +kernel
theorem dL_law_967 : decode cL_law 967 = .ok (.ifCond .eq 7, 3) := by decide +kernel
theorem dL_law_970 : decode cL_law 970 = .ok (.iconst 1, 1) := by decide +kernel
theorem dL_law_971 : decode cL_law 971 = .ok (.goto 4, 3) := by decide +kernel
theorem dL_law_974 : decode cL_law 974 = .ok (.iconst 0, 1) := by decide +kernel
theorem dL_law_975 : decode cL_law 975 = .ok (.invokevirtual 180, 3) := by decide +kernel
theorem dL_law_978 : decode cL_law 978 = .ok (.aload_n 2, 1) := by decide +kernel
theorem dL_law_979 : decode cL_law 979 = .ok (.aload_n 0, 1) := by decide +kernel
theorem dL_law_980 : decode cL_law 980 = .ok (.iload 5, 2) := by decide +kernel
theorem dL_law_982 : decode cL_law 982 = .ok (.iconst 1, 1) := by decide +kernel
theorem dL_law_983 : decode cL_law 983 = .ok (.iadd, 1) := by decide +kernel
theorem dL_law_984 : decode cL_law 984 = .ok (.iaload, 1) := by decide +kernel
theorem dL_law_985 : decode cL_law 985 = .ok (.ifCond .eq 7, 3) := by decide +kernel
theorem dL_law_988 : decode cL_law 988 = .ok (.iconst 1, 1) := by decide +kernel
theorem dL_law_989 : decode cL_law 989 = .ok (.goto 4, 3) := by decide +kernel
theorem dL_law_992 : decode cL_law 992 = .ok (.iconst 0, 1) := by decide +kernel
theorem dL_law_993 : decode cL_law 993 = .ok (.invokevirtual 184, 3) := by decide +kernel
theorem dL_law_996 : decode cL_law 996 = .ok (.if_icmp .eq 1554, 3) := by decide +kernel
theorem dL_law_999 : decode cL_law 999 = .ok (.iconst 0, 1) := by decide +kernel
theorem dL_law_1000 : decode cL_law 1000 = .ok (.ireturn, 1) := by decide +kernel
theorem dL_law_1001 : decode cL_law 1001 = .ok (.aload_n 1, 1) := by decide +kernel
theorem dL_law_1002 : decode cL_law 1002 = .ok (.invokevirtual 185, 3) := by decide +kernel
theorem dL_law_1005 : decode cL_law 1005 = .ok (.dstore 6, 2) := by decide +kernel
theorem dL_law_1007 : decode cL_law 1007 = .ok (.aload_n 2, 1) := by decide +kernel
theorem dL_law_1008 : decode cL_law 1008 = .ok (.invokevirtual 189, 3) := by decide +kernel
theorem dL_law_1011 : decode cL_law 1011 = .ok (.dstore 8, 2) := by decide +kernel
theorem dL_law_1013 : decode cL_law 1013 = .ok (.dload 6, 2) := by decide +kernel
theorem dL_law_1015 : decode cL_law 1015 = .ok (.dload 8, 2) := by decide +kernel
theorem dL_law_1017 : decode cL_law 1017 = .ok (.dcmp .l, 1) := by decide +kernel
theorem dL_law_1018 : decode cL_law 1018 = .ok (.ifCond .eq 21, 3) := by decide +kernel
theorem dL_law_1021 : decode cL_law 1021 = .ok (.dload 6, 2) := by decide +kernel
theorem dL_law_1023 : decode cL_law 1023 = .ok (.dload 6, 2) := by decide +kernel
theorem dL_law_1025 : decode cL_law 1025 = .ok (.dcmp .l, 1) := by decide +kernel
theorem dL_law_1026 : decode cL_law 1026 = .ok (.ifCond .eq 11, 3) := by decide +kernel
theorem dL_law_1029 : decode cL_law 1029 = .ok (.dload 8, 2) := by decide +kernel
theorem dL_law_1031 : decode cL_law 1031 = .ok (.dload 8, 2) := by decide +kernel
theorem dL_law_1033 : decode cL_law 1033 = .ok (.dcmp .l, 1) := by decide +kernel
theorem dL_law_1034 : decode cL_law 1034 = .ok (.ifCond .ne 5, 3) := by decide +kernel
theorem dL_law_1037 : decode cL_law 1037 = .ok (.iconst 0, 1) := by decide +kernel
theorem dL_law_1038 : decode cL_law 1038 = .ok (.ireturn, 1) := by decide +kernel
theorem dL_law_1039 : decode cL_law 1039 = .ok (.goto 1511, 3) := by decide +kernel
theorem dL_law_1042 : decode cL_law 1042 = .ok (.aload_n 1, 1) := by decide +kernel
theorem dL_law_1043 : decode cL_law 1043 = .ok (.aload_n 0, 1) := by decide +kernel
theorem dL_law_1044 : decode cL_law 1044 = .ok (.iload 5, 2) := by decide +kernel
theorem dL_law_1046 : decode cL_law 1046 = .ok (.iconst 1, 1) := by decide +kernel
theorem dL_law_1047 : decode cL_law 1047 = .ok (.iadd, 1) := by decide +kernel
theorem dL_law_1048 : decode cL_law 1048 = .ok (.iaload, 1) := by decide +kernel
theorem dL_law_1049 : decode cL_law 1049 = .ok (.aload 4, 2) := by decide +kernel
theorem dL_law_1051 : decode cL_law 1051 = .ok (.invokestatic 190, 3) := by decide +kernel
theorem dL_law_1054 : decode cL_law 1054 = .ok (.istore 6, 2) := by decide +kernel
theorem dL_law_1056 : decode cL_law 1056 = .ok (.aload_n 2, 1) := by decide +kernel
theorem dL_law_1057 : decode cL_law 1057 = .ok (.aload_n 0, 1) := by decide +kernel
theorem dL_law_1058 : decode cL_law 1058 = .ok (.iload 5, 2) := by decide +kernel
theorem dL_law_1060 : decode cL_law 1060 = .ok (.iconst 1, 1) := by decide +kernel
theorem dL_law_1061 : decode cL_law 1061 = .ok (.iadd, 1) := by decide +kernel
theorem dL_law_1062 : decode cL_law 1062 = .ok (.iaload, 1) := by decide +kernel
theorem dL_law_1063 : decode cL_law 1063 = .ok (.invokevirtual 193, 3) := by decide +kernel
theorem dL_law_1066 : decode cL_law 1066 = .ok (.fstore 7, 2) := by decide +kernel
theorem dL_law_1068 : decode cL_law 1068 = .ok (.aload_n 2, 1) := by decide +kernel
theorem dL_law_1069 : decode cL_law 1069 = .ok (.invokevirtual 132, 3) := by decide +kernel
theorem dL_law_1072 : decode cL_law 1072 = .ok (.iload 6, 2) := by decide +kernel
theorem dL_law_1074 : decode cL_law 1074 = .ok (.if_icmp .eq 5, 3) := by decide +kernel
theorem dL_law_1077 : decode cL_law 1077 = .ok (.iconst 0, 1) := by decide +kernel
theorem dL_law_1078 : decode cL_law 1078 = .ok (.ireturn, 1) := by decide +kernel
theorem dL_law_1079 : decode cL_law 1079 = .ok (.iload 6, 2) := by decide +kernel
theorem dL_law_1081 : decode cL_law 1081 = .ok (.ifCond .ne 36, 3) := by decide +kernel
theorem dL_law_1084 : decode cL_law 1084 = .ok (.aload 4, 2) := by decide +kernel
theorem dL_law_1086 : decode cL_law 1086 = .ok (.iconst 0, 1) := by decide +kernel
theorem dL_law_1087 : decode cL_law 1087 = .ok (.daload, 1) := by decide +kernel
theorem dL_law_1088 : decode cL_law 1088 = .ok (.fload 7, 2) := by decide +kernel
theorem dL_law_1090 : decode cL_law 1090 = .ok (.f2d, 1) := by decide +kernel
theorem dL_law_1091 : decode cL_law 1091 = .ok (.dcmp .l, 1) := by decide +kernel
theorem dL_law_1092 : decode cL_law 1092 = .ok (.ifCond .eq 25, 3) := by decide +kernel
theorem dL_law_1095 : decode cL_law 1095 = .ok (.aload 4, 2) := by decide +kernel
theorem dL_law_1097 : decode cL_law 1097 = .ok (.iconst 0, 1) := by decide +kernel
theorem dL_law_1098 : decode cL_law 1098 = .ok (.daload, 1) := by decide +kernel
theorem dL_law_1099 : decode cL_law 1099 = .ok (.aload 4, 2) := by decide +kernel
theorem dL_law_1101 : decode cL_law 1101 = .ok (.iconst 0, 1) := by decide +kernel
theorem dL_law_1102 : decode cL_law 1102 = .ok (.daload, 1) := by decide +kernel
theorem dL_law_1103 : decode cL_law 1103 = .ok (.dcmp .l, 1) := by decide +kernel
theorem dL_law_1104 : decode cL_law 1104 = .ok (.ifCond .eq 11, 3) := by decide +kernel
theorem dL_law_1107 : decode cL_law 1107 = .ok (.fload 7, 2) := by decide +kernel
theorem dL_law_1109 : decode cL_law 1109 = .ok (.fload 7, 2) := by decide +kernel
theorem dL_law_1111 : decode cL_law 1111 = .ok (.fcmp .l, 1) := by decide +kernel
theorem dL_law_1112 : decode cL_law 1112 = .ok (.ifCond .ne 5, 3) := by decide +kernel
theorem dL_law_1115 : decode cL_law 1115 = .ok (.iconst 0, 1) := by decide +kernel
theorem dL_law_1116 : decode cL_law 1116 = .ok (.ireturn, 1) := by decide +kernel
theorem dL_law_1117 : decode cL_law 1117 = .ok (.goto 1433, 3) := by decide +kernel
theorem dL_law_1120 : decode cL_law 1120 = .ok (.aload_n 1, 1) := by decide +kernel
theorem dL_law_1121 : decode cL_law 1121 = .ok (.aload_n 3, 1) := by decide +kernel
theorem dL_law_1122 : decode cL_law 1122 = .ok (.invokestatic 194, 3) := by decide +kernel
theorem dL_law_1125 : decode cL_law 1125 = .ok (.istore 6, 2) := by decide +kernel
theorem dL_law_1127 : decode cL_law 1127 = .ok (.aload_n 2, 1) := by decide +kernel
theorem dL_law_1128 : decode cL_law 1128 = .ok (.invokevirtual 197, 3) := by decide +kernel
theorem dL_law_1131 : decode cL_law 1131 = .ok (.istore 7, 2) := by decide +kernel
theorem dL_law_1133 : decode cL_law 1133 = .ok (.aload_n 2, 1) := by decide +kernel
theorem dL_law_1134 : decode cL_law 1134 = .ok (.invokevirtual 132, 3) := by decide +kernel
theorem dL_law_1137 : decode cL_law 1137 = .ok (.iload 6, 2) := by decide +kernel
theorem dL_law_1139 : decode cL_law 1139 = .ok (.if_icmp .eq 5, 3) := by decide +kernel
theorem dL_law_1142 : decode cL_law 1142 = .ok (.iconst 0, 1) := by decide +kernel
theorem dL_law_1143 : decode cL_law 1143 = .ok (.ireturn, 1) := by decide +kernel
theorem dL_law_1144 : decode cL_law 1144 = .ok (.iload 6, 2) := by decide +kernel
theorem dL_law_1146 : decode cL_law 1146 = .ok (.ifCond .ne 15, 3) := by decide +kernel
theorem dL_law_1149 : decode cL_law 1149 = .ok (.aload_n 3, 1) := by decide +kernel
theorem dL_law_1150 : decode cL_law 1150 = .ok (.iconst 0, 1) := by decide +kernel
theorem dL_law_1151 : decode cL_law 1151 = .ok (.laload, 1) := by decide +kernel
theorem dL_law_1152 : decode cL_law 1152 = .ok (.iload 7, 2) := by decide +kernel
theorem dL_law_1154 : decode cL_law 1154 = .ok (.i2l, 1) := by decide +kernel
theorem dL_law_1155 : decode cL_law 1155 = .ok (.lcmp, 1) := by decide +kernel
theorem dL_law_1156 : decode cL_law 1156 = .ok (.ifCond .eq 5, 3) := by decide +kernel
theorem dL_law_1159 : decode cL_law 1159 = .ok (.iconst 0, 1) := by decide +kernel
theorem dL_law_1160 : decode cL_law 1160 = .ok (.ireturn, 1) := by decide +kernel
theorem dL_law_1161 : decode cL_law 1161 = .ok (.goto 1389, 3) := by decide +kernel
theorem dL_law_1164 : decode cL_law 1164 = .ok (.aload_n 1, 1) := by decide +kernel
theorem dL_law_1165 : decode cL_law 1165 = .ok (.aload_n 0, 1) := by decide +kernel
theorem dL_law_1166 : decode cL_law 1166 = .ok (.iload 5, 2) := by decide +kernel
theorem dL_law_1168 : decode cL_law 1168 = .ok (.iconst 1, 1) := by decide +kernel
theorem dL_law_1169 : decode cL_law 1169 = .ok (.iadd, 1) := by decide +kernel
theorem dL_law_1170 : decode cL_law 1170 = .ok (.iaload, 1) := by decide +kernel
theorem dL_law_1171 : decode cL_law 1171 = .ok (.aload_n 0, 1) := by decide +kernel
theorem dL_law_1172 : decode cL_law 1172 = .ok (.iload 5, 2) := by decide +kernel
theorem dL_law_1174 : decode cL_law 1174 = .ok (.iconst 2, 1) := by decide +kernel
theorem dL_law_1175 : decode cL_law 1175 = .ok (.iadd, 1) := by decide +kernel
theorem dL_law_1176 : decode cL_law 1176 = .ok (.iaload, 1) := by decide +kernel
theorem dL_law_1177 : decode cL_law 1177 = .ok (.aload_n 3, 1) := by decide +kernel
theorem dL_law_1178 : decode cL_law 1178 = .ok (.invokestatic 198, 3) := by decide +kernel
theorem dL_law_1181 : decode cL_law 1181 = .ok (.istore 6, 2) := by decide +kernel
theorem dL_law_1183 : decode cL_law 1183 = .ok (.aload_n 2, 1) := by decide +kernel
theorem dL_law_1184 : decode cL_law 1184 = .ok (.aload_n 0, 1) := by decide +kernel
theorem dL_law_1185 : decode cL_law 1185 = .ok (.iload 5, 2) := by decide +kernel
theorem dL_law_1187 : decode cL_law 1187 = .ok (.iconst 1, 1) := by decide +kernel
theorem dL_law_1188 : decode cL_law 1188 = .ok (.iadd, 1) := by decide +kernel
theorem dL_law_1189 : decode cL_law 1189 = .ok (.iaload, 1) := by decide +kernel
theorem dL_law_1190 : decode cL_law 1190 = .ok (.aload_n 0, 1) := by decide +kernel
theorem dL_law_1191 : decode cL_law 1191 = .ok (.iload 5, 2) := by decide +kernel
theorem dL_law_1193 : decode cL_law 1193 = .ok (.iconst 2, 1) := by decide +kernel
theorem dL_law_1194 : decode cL_law 1194 = .ok (.iadd, 1) := by decide +kernel
theorem dL_law_1195 : decode cL_law 1195 = .ok (.iaload, 1) := by decide +kernel
theorem dL_law_1196 : decode cL_law 1196 = .ok (.invokevirtual 200, 3) := by decide +kernel
theorem dL_law_1199 : decode cL_law 1199 = .ok (.istore 7, 2) := by decide +kernel
theorem dL_law_1201 : decode cL_law 1201 = .ok (.aload_n 2, 1) := by decide +kernel
theorem dL_law_1202 : decode cL_law 1202 = .ok (.invokevirtual 132, 3) := by decide +kernel
theorem dL_law_1205 : decode cL_law 1205 = .ok (.iload 6, 2) := by decide +kernel
theorem dL_law_1207 : decode cL_law 1207 = .ok (.if_icmp .eq 5, 3) := by decide +kernel
theorem dL_law_1210 : decode cL_law 1210 = .ok (.iconst 0, 1) := by decide +kernel
theorem dL_law_1211 : decode cL_law 1211 = .ok (.ireturn, 1) := by decide +kernel
theorem dL_law_1212 : decode cL_law 1212 = .ok (.iload 6, 2) := by decide +kernel
theorem dL_law_1214 : decode cL_law 1214 = .ok (.ifCond .ne 15, 3) := by decide +kernel
theorem dL_law_1217 : decode cL_law 1217 = .ok (.aload_n 3, 1) := by decide +kernel
theorem dL_law_1218 : decode cL_law 1218 = .ok (.iconst 0, 1) := by decide +kernel
theorem dL_law_1219 : decode cL_law 1219 = .ok (.laload, 1) := by decide +kernel
theorem dL_law_1220 : decode cL_law 1220 = .ok (.iload 7, 2) := by decide +kernel
theorem dL_law_1222 : decode cL_law 1222 = .ok (.i2l, 1) := by decide +kernel
theorem dL_law_1223 : decode cL_law 1223 = .ok (.lcmp, 1) := by decide +kernel
theorem dL_law_1224 : decode cL_law 1224 = .ok (.ifCond .eq 5, 3) := by decide +kernel
theorem dL_law_1227 : decode cL_law 1227 = .ok (.iconst 0, 1) := by decide +kernel
theorem dL_law_1228 : decode cL_law 1228 = .ok (.ireturn, 1) := by decide +kernel
theorem dL_law_1229 : decode cL_law 1229 = .ok (.goto 1321, 3) := by decide +kernel
theorem dL_law_1232 : decode cL_law 1232 = .ok (.aload_n 1, 1) := by decide +kernel
theorem dL_law_1233 : decode cL_law 1233 = .ok (.aload_n 0, 1) := by decide +kernel
theorem dL_law_1234 : decode cL_law 1234 = .ok (.iload 5, 2) := by decide +kernel
theorem dL_law_1236 : decode cL_law 1236 = .ok (.iconst 1, 1) := by decide +kernel
theorem dL_law_1237 : decode cL_law 1237 = .ok (.iadd, 1) := by decide +kernel
theorem dL_law_1238 : decode cL_law 1238 = .ok (.iaload, 1) := by decide +kernel
theorem dL_law_1239 : decode cL_law 1239 = .ok (.aload_n 3, 1) := by decide +kernel
theorem dL_law_1240 : decode cL_law 1240 = .ok (.invokestatic 201, 3) := by decide +kernel
theorem dL_law_1243 : decode cL_law 1243 = .ok (.istore 6, 2) := by decide +kernel
theorem dL_law_1245 : decode cL_law 1245 = .ok (.aload_n 2, 1) := by decide +kernel
theorem dL_law_1246 : decode cL_law 1246 = .ok (.aload_n 0, 1) := by decide +kernel
theorem dL_law_1247 : decode cL_law 1247 = .ok (.iload 5, 2) := by decide +kernel
theorem dL_law_1249 : decode cL_law 1249 = .ok (.iconst 1, 1) := by decide +kernel
theorem dL_law_1250 : decode cL_law 1250 = .ok (.iadd, 1) := by decide +kernel
theorem dL_law_1251 : decode cL_law 1251 = .ok (.iaload, 1) := by decide +kernel
theorem dL_law_1252 : decode cL_law 1252 = .ok (.invokevirtual 203, 3) := by decide +kernel
theorem dL_law_1255 : decode cL_law 1255 = .ok (.istore 7, 2) := by decide +kernel
theorem dL_law_1257 : decode cL_law 1257 = .ok (.aload_n 2, 1) := by decide +kernel
theorem dL_law_1258 : decode cL_law 1258 = .ok (.invokevirtual 132, 3) := by decide +kernel
theorem dL_law_1261 : decode cL_law 1261 = .ok (.iload 6, 2) := by decide +kernel
theorem dL_law_1263 : decode cL_law 1263 = .ok (.if_icmp .eq 5, 3) := by decide +kernel
theorem dL_law_1266 : decode cL_law 1266 = .ok (.iconst 0, 1) := by decide +kernel
theorem dL_law_1267 : decode cL_law 1267 = .ok (.ireturn, 1) := by decide +kernel
theorem dL_law_1268 : decode cL_law 1268 = .ok (.iload 6, 2) := by decide +kernel
theorem dL_law_1270 : decode cL_law 1270 = .ok (.ifCond .ne 15, 3) := by decide +kernel
theorem dL_law_1273 : decode cL_law 1273 = .ok (.aload_n 3, 1) := by decide +kernel
theorem dL_law_1274 : decode cL_law 1274 = .ok (.iconst 0, 1) := by decide +kernel
theorem dL_law_1275 : decode cL_law 1275 = .ok (.laload, 1) := by decide +kernel
theorem dL_law_1276 : decode cL_law 1276 = .ok (.iload 7, 2) := by decide +kernel
theorem dL_law_1278 : decode cL_law 1278 = .ok (.i2l, 1) := by decide +kernel
theorem dL_law_1279 : decode cL_law 1279 = .ok (.lcmp, 1) := by decide +kernel
theorem dL_law_1280 : decode cL_law 1280 = .ok (.ifCond .eq 5, 3) := by decide +kernel
theorem dL_law_1283 : decode cL_law 1283 = .ok (.iconst 0, 1) := by decide +kernel
theorem dL_law_1284 : decode cL_law 1284 = .ok (.ireturn, 1) := by decide +kernel
theorem dL_law_1285 : decode cL_law 1285 = .ok (.goto 1265, 3) := by decide +kernel
theorem dL_law_1288 : decode cL_law 1288 = .ok (.aload_n 1, 1) := by decide +kernel
theorem dL_law_1289 : decode cL_law 1289 = .ok (.invokevirtual 204, 3) := by decide +kernel
theorem dL_law_1292 : decode cL_law 1292 = .ok (.aload_n 2, 1) := by decide +kernel
theorem dL_law_1293 : decode cL_law 1293 = .ok (.invokevirtual 207, 3) := by decide +kernel
theorem dL_law_1296 : decode cL_law 1296 = .ok (.if_icmp .eq 1254, 3) := by decide +kernel
theorem dL_law_1299 : decode cL_law 1299 = .ok (.iconst 0, 1) := by decide +kernel
theorem dL_law_1300 : decode cL_law 1300 = .ok (.ireturn, 1) := by decide +kernel
theorem dL_law_1301 : decode cL_law 1301 = .ok (.aload_n 1, 1) := by decide +kernel
theorem dL_law_1302 : decode cL_law 1302 = .ok (.aload_n 0, 1) := by decide +kernel
theorem dL_law_1303 : decode cL_law 1303 = .ok (.iload 5, 2) := by decide +kernel
theorem dL_law_1305 : decode cL_law 1305 = .ok (.iconst 1, 1) := by decide +kernel
theorem dL_law_1306 : decode cL_law 1306 = .ok (.iadd, 1) := by decide +kernel
theorem dL_law_1307 : decode cL_law 1307 = .ok (.iaload, 1) := by decide +kernel
theorem dL_law_1308 : decode cL_law 1308 = .ok (.aload_n 3, 1) := by decide +kernel
theorem dL_law_1309 : decode cL_law 1309 = .ok (.invokestatic 208, 3) := by decide +kernel
theorem dL_law_1312 : decode cL_law 1312 = .ok (.istore 6, 2) := by decide +kernel
theorem dL_law_1314 : decode cL_law 1314 = .ok (.aload_n 2, 1) := by decide +kernel
theorem dL_law_1315 : decode cL_law 1315 = .ok (.aload_n 0, 1) := by decide +kernel
theorem dL_law_1316 : decode cL_law 1316 = .ok (.iload 5, 2) := by decide +kernel
theorem dL_law_1318 : decode cL_law 1318 = .ok (.iconst 1, 1) := by decide +kernel
theorem dL_law_1319 : decode cL_law 1319 = .ok (.iadd, 1) := by decide +kernel
theorem dL_law_1320 : decode cL_law 1320 = .ok (.iaload, 1) := by decide +kernel
theorem dL_law_1321 : decode cL_law 1321 = .ok (.invokevirtual 210, 3) := by decide +kernel
theorem dL_law_1324 : decode cL_law 1324 = .ok (.istore 7, 2) := by decide +kernel
theorem dL_law_1326 : decode cL_law 1326 = .ok (.aload_n 2, 1) := by decide +kernel
theorem dL_law_1327 : decode cL_law 1327 = .ok (.invokevirtual 132, 3) := by decide +kernel
theorem dL_law_1330 : decode cL_law 1330 = .ok (.iload 6, 2) := by decide +kernel
theorem dL_law_1332 : decode cL_law 1332 = .ok (.if_icmp .eq 5, 3) := by decide +kernel
theorem dL_law_1335 : decode cL_law 1335 = .ok (.iconst 0, 1) := by decide +kernel
theorem dL_law_1336 : decode cL_law 1336 = .ok (.ireturn, 1) := by decide +kernel
theorem dL_law_1337 : decode cL_law 1337 = .ok (.iload 6, 2) := by decide +kernel
theorem dL_law_1339 : decode cL_law 1339 = .ok (.ifCond .ne 15, 3) := by decide +kernel
theorem dL_law_1342 : decode cL_law 1342 = .ok (.aload_n 3, 1) := by decide +kernel
theorem dL_law_1343 : decode cL_law 1343 = .ok (.iconst 0, 1) := by decide +kernel
theorem dL_law_1344 : decode cL_law 1344 = .ok (.laload, 1) := by decide +kernel
theorem dL_law_1345 : decode cL_law 1345 = .ok (.iload 7, 2) := by decide +kernel
theorem dL_law_1347 : decode cL_law 1347 = .ok (.i2l, 1) := by decide +kernel
theorem dL_law_1348 : decode cL_law 1348 = .ok (.lcmp, 1) := by decide +kernel
theorem dL_law_1349 : decode cL_law 1349 = .ok (.ifCond .eq 5, 3) := by decide +kernel
theorem dL_law_1352 : decode cL_law 1352 = .ok (.iconst 0, 1) := by decide +kernel
theorem dL_law_1353 : decode cL_law 1353 = .ok (.ireturn, 1) := by decide +kernel
theorem dL_law_1354 : decode cL_law 1354 = .ok (.goto 1196, 3) := by decide +kernel
theorem dL_law_1357 : decode cL_law 1357 = .ok (.aload_n 1, 1) := by decide +kernel
theorem dL_law_1358 : decode cL_law 1358 = .ok (.invokevirtual 211, 3) := by decide +kernel
theorem dL_law_1361 : decode cL_law 1361 = .ok (.aload_n 2, 1) := by decide +kernel
theorem dL_law_1362 : decode cL_law 1362 = .ok (.invokevirtual 214, 3) := by decide +kernel
theorem dL_law_1365 : decode cL_law 1365 = .ok (.if_icmp .eq 1185, 3) := by decide +kernel
theorem dL_law_1368 : decode cL_law 1368 = .ok (.iconst 0, 1) := by decide +kernel
theorem dL_law_1369 : decode cL_law 1369 = .ok (.ireturn, 1) := by decide +kernel
theorem dL_law_1370 : decode cL_law 1370 = .ok (.aload_n 1, 1) := by decide +kernel
theorem dL_law_1371 : decode cL_law 1371 = .ok (.aload_n 0, 1) := by decide +kernel
theorem dL_law_1372 : decode cL_law 1372 = .ok (.iload 5, 2) := by decide +kernel
theorem dL_law_1374 : decode cL_law 1374 = .ok (.iconst 1, 1) := by decide +kernel
theorem dL_law_1375 : decode cL_law 1375 = .ok (.iadd, 1) := by decide +kernel
theorem dL_law_1376 : decode cL_law 1376 = .ok (.iaload, 1) := by decide +kernel
theorem dL_law_1377 : decode cL_law 1377 = .ok (.aload_n 0, 1) := by decide +kernel
theorem dL_law_1378 : decode cL_law 1378 = .ok (.iload 5, 2) := by decide +kernel
theorem dL_law_1380 : decode cL_law 1380 = .ok (.iconst 2, 1) := by decide +kernel
theorem dL_law_1381 : decode cL_law 1381 = .ok (.iadd, 1) := by decide +kernel
theorem dL_law_1382 : decode cL_law 1382 = .ok (.iaload, 1) := by decide +kernel
theorem dL_law_1383 : decode cL_law 1383 = .ok (.aload_n 0, 1) := by decide +kernel
theorem dL_law_1384 : decode cL_law 1384 = .ok (.iload 5, 2) := by decide +kernel
theorem dL_law_1386 : decode cL_law 1386 = .ok (.iconst 3, 1) := by decide +kernel
theorem dL_law_1387 : decode cL_law 1387 = .ok (.iadd, 1) := by decide +kernel
theorem dL_law_1388 : decode cL_law 1388 = .ok (.iaload, 1) := by decide +kernel
theorem dL_law_1389 : decode cL_law 1389 = .ok (.aload_n 3, 1) := by decide +kernel
theorem dL_law_1390 : decode cL_law 1390 = .ok (.invokestatic 215, 3) := by decide +kernel
theorem dL_law_1393 : decode cL_law 1393 = .ok (.istore 6, 2) := by decide +kernel
theorem dL_law_1395 : decode cL_law 1395 = .ok (.aload_n 2, 1) := by decide +kernel
theorem dL_law_1396 : decode cL_law 1396 = .ok (.aload_n 0, 1) := by decide +kernel
theorem dL_law_1397 : decode cL_law 1397 = .ok (.iload 5, 2) := by decide +kernel
theorem dL_law_1399 : decode cL_law 1399 = .ok (.iconst 1, 1) := by decide +kernel
theorem dL_law_1400 : decode cL_law 1400 = .ok (.iadd, 1) := by decide +kernel
theorem dL_law_1401 : decode cL_law 1401 = .ok (.iaload, 1) := by decide +kernel
theorem dL_law_1402 : decode cL_law 1402 = .ok (.aload_n 0, 1) := by decide +kernel
theorem dL_law_1403 : decode cL_law 1403 = .ok (.iload 5, 2) := by decide +kernel
theorem dL_law_1405 : decode cL_law 1405 = .ok (.iconst 2, 1) := by decide +kernel
theorem dL_law_1406 : decode cL_law 1406 = .ok (.iadd, 1) := by decide +kernel
theorem dL_law_1407 : decode cL_law 1407 = .ok (.iaload, 1) := by decide +kernel
theorem dL_law_1408 : decode cL_law 1408 = .ok (.aload_n 0, 1) := by decide +kernel
theorem dL_law_1409 : decode cL_law 1409 = .ok (.iload 5, 2) := by decide +kernel
theorem dL_law_1411 : decode cL_law 1411 = .ok (.iconst 3, 1) := by decide +kernel
theorem dL_law_1412 : decode cL_law 1412 = .ok (.iadd, 1) := by decide +kernel
theorem dL_law_1413 : decode cL_law 1413 = .ok (.iaload, 1) := by decide +kernel
theorem dL_law_1414 : decode cL_law 1414 = .ok (.invokevirtual 218, 3) := by decide +kernel
theorem dL_law_1417 : decode cL_law 1417 = .ok (.istore 7, 2) := by decide +kernel
theorem dL_law_1419 : decode cL_law 1419 = .ok (.aload_n 2, 1) := by decide +kernel
theorem dL_law_1420 : decode cL_law 1420 = .ok (.invokevirtual 132, 3) := by decide +kernel
theorem dL_law_1423 : decode cL_law 1423 = .ok (.iload 6, 2) := by decide +kernel
theorem dL_law_1425 : decode cL_law 1425 = .ok (.if_icmp .eq 5, 3) := by decide +kernel
theorem dL_law_1428 : decode cL_law 1428 = .ok (.iconst 0, 1) := by decide +kernel
theorem dL_law_1429 : decode cL_law 1429 = .ok (.ireturn, 1) := by decide +kernel
theorem dL_law_1430 : decode cL_law 1430 = .ok (.iload 6, 2) := by decide +kernel
theorem dL_law_1432 : decode cL_law 1432 = .ok (.ifCond .ne 15, 3) := by decide +kernel
theorem dL_law_1435 : decode cL_law 1435 = .ok (.aload_n 3, 1) := by decide +kernel
theorem dL_law_1436 : decode cL_law 1436 = .ok (.iconst 0, 1) := by decide +kernel
theorem dL_law_1437 : decode cL_law 1437 = .ok (.laload, 1) := by decide +kernel
theorem dL_law_1438 : decode cL_law 1438 = .ok (.iload 7, 2) := by decide +kernel
theorem dL_law_1440 : decode cL_law 1440 = .ok (.i2l, 1) := by decide +kernel
theorem dL_law_1441 : decode cL_law 1441 = .ok (.lcmp, 1) := by decide +kernel
theorem dL_law_1442 : decode cL_law 1442 = .ok (.ifCond .eq 5, 3) := by decide +kernel
theorem dL_law_1445 : decode cL_law 1445 = .ok (.iconst 0, 1) := by decide +kernel
theorem dL_law_1446 : decode cL_law 1446 = .ok (.ireturn, 1) := by decide +kernel
theorem dL_law_1447 : decode cL_law 1447 = .ok (.goto 1103, 3) := by decide +kernel
theorem dL_law_1450 : decode cL_law 1450 = .ok (.aload_n 1, 1) := by decide +kernel
theorem dL_law_1451 : decode cL_law 1451 = .ok (.aload_n 0, 1) := by decide +kernel
theorem dL_law_1452 : decode cL_law 1452 = .ok (.iload 5, 2) := by decide +kernel
theorem dL_law_1454 : decode cL_law 1454 = .ok (.iconst 1, 1) := by decide +kernel
theorem dL_law_1455 : decode cL_law 1455 = .ok (.iadd, 1) := by decide +kernel
theorem dL_law_1456 : decode cL_law 1456 = .ok (.iaload, 1) := by decide +kernel
theorem dL_law_1457 : decode cL_law 1457 = .ok (.aload_n 0, 1) := by decide +kernel
theorem dL_law_1458 : decode cL_law 1458 = .ok (.iload 5, 2) := by decide +kernel
theorem dL_law_1460 : decode cL_law 1460 = .ok (.iconst 2, 1) := by decide +kernel
theorem dL_law_1461 : decode cL_law 1461 = .ok (.iadd, 1) := by decide +kernel
theorem dL_law_1462 : decode cL_law 1462 = .ok (.iaload, 1) := by decide +kernel
theorem dL_law_1463 : decode cL_law 1463 = .ok (.aload_n 0, 1) := by decide +kernel
theorem dL_law_1464 : decode cL_law 1464 = .ok (.iload 5, 2) := by decide +kernel
theorem dL_law_1466 : decode cL_law 1466 = .ok (.iconst 3, 1) := by decide +kernel
theorem dL_law_1467 : decode cL_law 1467 = .ok (.iadd, 1) := by decide +kernel
theorem dL_law_1468 : decode cL_law 1468 = .ok (.iaload, 1) := by decide +kernel
theorem dL_law_1469 : decode cL_law 1469 = .ok (.aload_n 3, 1) := by decide +kernel
theorem dL_law_1470 : decode cL_law 1470 = .ok (.invokestatic 219, 3) := by decide +kernel
theorem dL_law_1473 : decode cL_law 1473 = .ok (.istore 6, 2) := by decide +kernel
theorem dL_law_1475 : decode cL_law 1475 = .ok (.aload_n 2, 1) := by decide +kernel
theorem dL_law_1476 : decode cL_law 1476 = .ok (.aload_n 0, 1) := by decide +kernel
theorem dL_law_1477 : decode cL_law 1477 = .ok (.iload 5, 2) := by decide +kernel
theorem dL_law_1479 : decode cL_law 1479 = .ok (.iconst 1, 1) := by decide +kernel
theorem dL_law_1480 : decode cL_law 1480 = .ok (.iadd, 1) := by decide +kernel
theorem dL_law_1481 : decode cL_law 1481 = .ok (.iaload, 1) := by decide +kernel
theorem dL_law_1482 : decode cL_law 1482 = .ok (.aload_n 0, 1) := by decide +kernel
theorem dL_law_1483 : decode cL_law 1483 = .ok (.iload 5, 2) := by decide +kernel
theorem dL_law_1485 : decode cL_law 1485 = .ok (.iconst 2, 1) := by decide +kernel
theorem dL_law_1486 : decode cL_law 1486 = .ok (.iadd, 1) := by decide +kernel
theorem dL_law_1487 : decode cL_law 1487 = .ok (.iaload, 1) := by decide +kernel
theorem dL_law_1488 : decode cL_law 1488 = .ok (.aload_n 0, 1) := by decide +kernel
theorem dL_law_1489 : decode cL_law 1489 = .ok (.iload 5, 2) := by decide +kernel
theorem dL_law_1491 : decode cL_law 1491 = .ok (.iconst 3, 1) := by decide +kernel
theorem dL_law_1492 : decode cL_law 1492 = .ok (.iadd, 1) := by decide +kernel
theorem dL_law_1493 : decode cL_law 1493 = .ok (.iaload, 1) := by decide +kernel
theorem dL_law_1494 : decode cL_law 1494 = .ok (.invokevirtual 221, 3) := by decide +kernel
theorem dL_law_1497 : decode cL_law 1497 = .ok (.istore 7, 2) := by decide +kernel
theorem dL_law_1499 : decode cL_law 1499 = .ok (.aload_n 2, 1) := by decide +kernel
theorem dL_law_1500 : decode cL_law 1500 = .ok (.invokevirtual 132, 3) := by decide +kernel
theorem dL_law_1503 : decode cL_law 1503 = .ok (.iload 6, 2) := by decide +kernel
theorem dL_law_1505 : decode cL_law 1505 = .ok (.if_icmp .eq 5, 3) := by decide +kernel
theorem dL_law_1508 : decode cL_law 1508 = .ok (.iconst 0, 1) := by decide +kernel
theorem dL_law_1509 : decode cL_law 1509 = .ok (.ireturn, 1) := by decide +kernel
theorem dL_law_1510 : decode cL_law 1510 = .ok (.iload 6, 2) := by decide +kernel
theorem dL_law_1512 : decode cL_law 1512 = .ok (.ifCond .ne 15, 3) := by decide +kernel
theorem dL_law_1515 : decode cL_law 1515 = .ok (.aload_n 3, 1) := by decide +kernel
theorem dL_law_1516 : decode cL_law 1516 = .ok (.iconst 0, 1) := by decide +kernel
theorem dL_law_1517 : decode cL_law 1517 = .ok (.laload, 1) := by decide +kernel
theorem dL_law_1518 : decode cL_law 1518 = .ok (.iload 7, 2) := by decide +kernel
theorem dL_law_1520 : decode cL_law 1520 = .ok (.i2l, 1) := by decide +kernel
theorem dL_law_1521 : decode cL_law 1521 = .ok (.lcmp, 1) := by decide +kernel
theorem dL_law_1522 : decode cL_law 1522 = .ok (.ifCond .eq 5, 3) := by decide +kernel
theorem dL_law_1525 : decode cL_law 1525 = .ok (.iconst 0, 1) := by decide +kernel
theorem dL_law_1526 : decode cL_law 1526 = .ok (.ireturn, 1) := by decide +kernel
theorem dL_law_1527 : decode cL_law 1527 = .ok (.goto 1023, 3) := by decide +kernel
theorem dL_law_1530 : decode cL_law 1530 = .ok (.aload_n 1, 1) := by decide +kernel
theorem dL_law_1531 : decode cL_law 1531 = .ok (.invokevirtual 222, 3) := by decide +kernel
theorem dL_law_1534 : decode cL_law 1534 = .ok (.aload_n 2, 1) := by decide +kernel
theorem dL_law_1535 : decode cL_law 1535 = .ok (.invokevirtual 225, 3) := by decide +kernel
theorem dL_law_1538 : decode cL_law 1538 = .ok (.if_icmp .eq 1012, 3) := by decide +kernel
theorem dL_law_1541 : decode cL_law 1541 = .ok (.iconst 0, 1) := by decide +kernel
theorem dL_law_1542 : decode cL_law 1542 = .ok (.ireturn, 1) := by decide +kernel
theorem dL_law_1543 : decode cL_law 1543 = .ok (.aload_n 1, 1) := by decide +kernel
theorem dL_law_1544 : decode cL_law 1544 = .ok (.aload_n 0, 1) := by decide +kernel
theorem dL_law_1545 : decode cL_law 1545 = .ok (.iload 5, 2) := by decide +kernel
theorem dL_law_1547 : decode cL_law 1547 = .ok (.iconst 1, 1) := by decide +kernel
theorem dL_law_1548 : decode cL_law 1548 = .ok (.iadd, 1) := by decide +kernel
theorem dL_law_1549 : decode cL_law 1549 = .ok (.iaload, 1) := by decide +kernel
theorem dL_law_1550 : decode cL_law 1550 = .ok (.aload_n 3, 1) := by decide +kernel
theorem dL_law_1551 : decode cL_law 1551 = .ok (.invokestatic 226, 3) := by decide +kernel
theorem dL_law_1554 : decode cL_law 1554 = .ok (.istore 6, 2) := by decide +kernel
theorem dL_law_1556 : decode cL_law 1556 = .ok (.aload_n 2, 1) := by decide +kernel
theorem dL_law_1557 : decode cL_law 1557 = .ok (.aload_n 0, 1) := by decide +kernel
theorem dL_law_1558 : decode cL_law 1558 = .ok (.iload 5, 2) := by decide +kernel
theorem dL_law_1560 : decode cL_law 1560 = .ok (.iconst 1, 1) := by decide +kernel
theorem dL_law_1561 : decode cL_law 1561 = .ok (.iadd, 1) := by decide +kernel
theorem dL_law_1562 : decode cL_law 1562 = .ok (.iaload, 1) := by decide +kernel
theorem dL_law_1563 : decode cL_law 1563 = .ok (.invokevirtual 228, 3) := by decide +kernel
theorem dL_law_1566 : decode cL_law 1566 = .ok (.istore 7, 2) := by decide +kernel
theorem dL_law_1568 : decode cL_law 1568 = .ok (.aload_n 2, 1) := by decide +kernel
theorem dL_law_1569 : decode cL_law 1569 = .ok (.invokevirtual 132, 3) := by decide +kernel
theorem dL_law_1572 : decode cL_law 1572 = .ok (.iload 6, 2) := by decide +kernel
theorem dL_law_1574 : decode cL_law 1574 = .ok (.if_icmp .eq 5, 3) := by decide +kernel
theorem dL_law_1577 : decode cL_law 1577 = .ok (.iconst 0, 1) := by decide +kernel
theorem dL_law_1578 : decode cL_law 1578 = .ok (.ireturn, 1) := by decide +kernel
theorem dL_law_1579 : decode cL_law 1579 = .ok (.iload 6, 2) := by decide +kernel
theorem dL_law_1581 : decode cL_law 1581 = .ok (.ifCond .ne 15, 3) := by decide +kernel
theorem dL_law_1584 : decode cL_law 1584 = .ok (.aload_n 3, 1) := by decide +kernel
theorem dL_law_1585 : decode cL_law 1585 = .ok (.iconst 0, 1) := by decide +kernel
theorem dL_law_1586 : decode cL_law 1586 = .ok (.laload, 1) := by decide +kernel
theorem dL_law_1587 : decode cL_law 1587 = .ok (.iload 7, 2) := by decide +kernel
theorem dL_law_1589 : decode cL_law 1589 = .ok (.i2l, 1) := by decide +kernel
theorem dL_law_1590 : decode cL_law 1590 = .ok (.lcmp, 1) := by decide +kernel
theorem dL_law_1591 : decode cL_law 1591 = .ok (.ifCond .eq 5, 3) := by decide +kernel
theorem dL_law_1594 : decode cL_law 1594 = .ok (.iconst 0, 1) := by decide +kernel
theorem dL_law_1595 : decode cL_law 1595 = .ok (.ireturn, 1) := by decide +kernel
theorem dL_law_1596 : decode cL_law 1596 = .ok (.goto 954, 3) := by decide +kernel
theorem dL_law_1599 : decode cL_law 1599 = .ok (.aload_n 1, 1) := by decide +kernel
theorem dL_law_1600 : decode cL_law 1600 = .ok (.aload_n 0, 1) := by decide +kernel
theorem dL_law_1601 : decode cL_law 1601 = .ok (.iload 5, 2) := by decide +kernel
theorem dL_law_1603 : decode cL_law 1603 = .ok (.iconst 1, 1) := by decide +kernel
theorem dL_law_1604 : decode cL_law 1604 = .ok (.iadd, 1) := by decide +kernel
theorem dL_law_1605 : decode cL_law 1605 = .ok (.iaload, 1) := by decide +kernel
theorem dL_law_1606 : decode cL_law 1606 = .ok (.aload_n 3, 1) := by decide +kernel
theorem dL_law_1607 : decode cL_law 1607 = .ok (.invokestatic 229, 3) := by decide +kernel
theorem dL_law_1610 : decode cL_law 1610 = .ok (.istore 6, 2) := by decide +kernel
theorem dL_law_1612 : decode cL_law 1612 = .ok (.aload_n 2, 1) := by decide +kernel
theorem dL_law_1613 : decode cL_law 1613 = .ok (.aload_n 0, 1) := by decide +kernel
theorem dL_law_1614 : decode cL_law 1614 = .ok (.iload 5, 2) := by decide +kernel
theorem dL_law_1616 : decode cL_law 1616 = .ok (.iconst 1, 1) := by decide +kernel
theorem dL_law_1617 : decode cL_law 1617 = .ok (.iadd, 1) := by decide +kernel
theorem dL_law_1618 : decode cL_law 1618 = .ok (.iaload, 1) := by decide +kernel
theorem dL_law_1619 : decode cL_law 1619 = .ok (.invokevirtual 231, 3) := by decide +kernel
theorem dL_law_1622 : decode cL_law 1622 = .ok (.istore 7, 2) := by decide +kernel
theorem dL_law_1624 : decode cL_law 1624 = .ok (.aload_n 2, 1) := by decide +kernel
theorem dL_law_1625 : decode cL_law 1625 = .ok (.invokevirtual 132, 3) := by decide +kernel
theorem dL_law_1628 : decode cL_law 1628 = .ok (.iload 6, 2) := by decide +kernel
theorem dL_law_1630 : decode cL_law 1630 = .ok (.if_icmp .eq 5, 3) := by decide +kernel
theorem dL_law_1633 : decode cL_law 1633 = .ok (.iconst 0, 1) := by decide +kernel
theorem dL_law_1634 : decode cL_law 1634 = .ok (.ireturn, 1) := by decide +kernel
theorem dL_law_1635 : decode cL_law 1635 = .ok (.iload 6, 2) := by decide +kernel
theorem dL_law_1637 : decode cL_law 1637 = .ok (.ifCond .ne 15, 3) := by decide +kernel
theorem dL_law_1640 : decode cL_law 1640 = .ok (.aload_n 3, 1) := by decide +kernel
theorem dL_law_1641 : decode cL_law 1641 = .ok (.iconst 0, 1) := by decide +kernel
theorem dL_law_1642 : decode cL_law 1642 = .ok (.laload, 1) := by decide +kernel
theorem dL_law_1643 : decode cL_law 1643 = .ok (.iload 7, 2) := by decide +kernel
theorem dL_law_1645 : decode cL_law 1645 = .ok (.i2l, 1) := by decide +kernel
theorem dL_law_1646 : decode cL_law 1646 = .ok (.lcmp, 1) := by decide +kernel
theorem dL_law_1647 : decode cL_law 1647 = .ok (.ifCond .eq 5, 3) := by decide +kernel
theorem dL_law_1650 : decode cL_law 1650 = .ok (.iconst 0, 1) := by decide +kernel
theorem dL_law_1651 : decode cL_law 1651 = .ok (.ireturn, 1) := by decide +kernel
theorem dL_law_1652 : decode cL_law 1652 = .ok (.goto 898, 3) := by decide +kernel
theorem dL_law_1655 : decode cL_law 1655 = .ok (.aload_n 1, 1) := by decide +kernel
theorem dL_law_1656 : decode cL_law 1656 = .ok (.aload_n 0, 1) := by decide +kernel
theorem dL_law_1657 : decode cL_law 1657 = .ok (.iload 5, 2) := by decide +kernel
theorem dL_law_1659 : decode cL_law 1659 = .ok (.iconst 1, 1) := by decide +kernel
theorem dL_law_1660 : decode cL_law 1660 = .ok (.iadd, 1) := by decide +kernel
theorem dL_law_1661 : decode cL_law 1661 = .ok (.iaload, 1) := by decide +kernel
theorem dL_law_1662 : decode cL_law 1662 = .ok (.aload_n 3, 1) := by decide +kernel
theorem dL_law_1663 : decode cL_law 1663 = .ok (.invokestatic 232, 3) := by decide +kernel
theorem dL_law_1666 : decode cL_law 1666 = .ok (.istore 6, 2) := by decide +kernel
theorem dL_law_1668 : decode cL_law 1668 = .ok (.aload_n 2, 1) := by decide +kernel
theorem dL_law_1669 : decode cL_law 1669 = .ok (.aload_n 0, 1) := by decide +kernel
theorem dL_law_1670 : decode cL_law 1670 = .ok (.iload 5, 2) := by decide +kernel
theorem dL_law_1672 : decode cL_law 1672 = .ok (.iconst 1, 1) := by decide +kernel
theorem dL_law_1673 : decode cL_law 1673 = .ok (.iadd, 1) := by decide +kernel
theorem dL_law_1674 : decode cL_law 1674 = .ok (.iaload, 1) := by decide +kernel
theorem dL_law_1675 : decode cL_law 1675 = .ok (.invokevirtual 234, 3) := by decide +kernel
theorem dL_law_1678 : decode cL_law 1678 = .ok (.istore 7, 2) := by decide +kernel
theorem dL_law_1680 : decode cL_law 1680 = .ok (.aload_n 2, 1) := by decide +kernel
theorem dL_law_1681 : decode cL_law 1681 = .ok (.invokevirtual 132, 3) := by decide +kernel
theorem dL_law_1684 : decode cL_law 1684 = .ok (.iload 6, 2) := by decide +kernel
theorem dL_law_1686 : decode cL_law 1686 = .ok (.if_icmp .eq 5, 3) := by decide +kernel
theorem dL_law_1689 : decode cL_law 1689 = .ok (.iconst 0, 1) := by decide +kernel
theorem dL_law_1690 : decode cL_law 1690 = .ok (.ireturn, 1) := by decide +kernel
theorem dL_law_1691 : decode cL_law 1691 = .ok (.iload 6, 2) := by decide +kernel
theorem dL_law_1693 : decode cL_law 1693 = .ok (.ifCond .ne 15, 3) := by decide +kernel
theorem dL_law_1696 : decode cL_law 1696 = .ok (.aload_n 3, 1) := by decide +kernel
theorem dL_law_1697 : decode cL_law 1697 = .ok (.iconst 0, 1) := by decide +kernel
theorem dL_law_1698 : decode cL_law 1698 = .ok (.laload, 1) := by decide +kernel
theorem dL_law_1699 : decode cL_law 1699 = .ok (.iload 7, 2) := by decide +kernel
theorem dL_law_1701 : decode cL_law 1701 = .ok (.i2l, 1) := by decide +kernel
theorem dL_law_1702 : decode cL_law 1702 = .ok (.lcmp, 1) := by decide +kernel
theorem dL_law_1703 : decode cL_law 1703 = .ok (.ifCond .eq 5, 3) := by decide +kernel
theorem dL_law_1706 : decode cL_law 1706 = .ok (.iconst 0, 1) := by decide +kernel
theorem dL_law_1707 : decode cL_law 1707 = .ok (.ireturn, 1) := by decide +kernel
theorem dL_law_1708 : decode cL_law 1708 = .ok (.goto 842, 3) := by decide +kernel
theorem dL_law_1711 : decode cL_law 1711 = .ok (.aload_n 1, 1) := by decide +kernel
theorem dL_law_1712 : decode cL_law 1712 = .ok (.aload_n 0, 1) := by decide +kernel
theorem dL_law_1713 : decode cL_law 1713 = .ok (.iload 5, 2) := by decide +kernel
theorem dL_law_1715 : decode cL_law 1715 = .ok (.iconst 1, 1) := by decide +kernel
theorem dL_law_1716 : decode cL_law 1716 = .ok (.iadd, 1) := by decide +kernel
theorem dL_law_1717 : decode cL_law 1717 = .ok (.iaload, 1) := by decide +kernel
theorem dL_law_1718 : decode cL_law 1718 = .ok (.aload_n 0, 1) := by decide +kernel
theorem dL_law_1719 : decode cL_law 1719 = .ok (.iload 5, 2) := by decide +kernel
theorem dL_law_1721 : decode cL_law 1721 = .ok (.iconst 2, 1) := by decide +kernel
theorem dL_law_1722 : decode cL_law 1722 = .ok (.iadd, 1) := by decide +kernel
theorem dL_law_1723 : decode cL_law 1723 = .ok (.iaload, 1) := by decide +kernel
theorem dL_law_1724 : decode cL_law 1724 = .ok (.aload_n 3, 1) := by decide +kernel
theorem dL_law_1725 : decode cL_law 1725 = .ok (.invokestatic 235, 3) := by decide +kernel
theorem dL_law_1728 : decode cL_law 1728 = .ok (.istore 6, 2) := by decide +kernel
theorem dL_law_1730 : decode cL_law 1730 = .ok (.aload_n 2, 1) := by decide +kernel
theorem dL_law_1731 : decode cL_law 1731 = .ok (.aload_n 0, 1) := by decide +kernel
theorem dL_law_1732 : decode cL_law 1732 = .ok (.iload 5, 2) := by decide +kernel
theorem dL_law_1734 : decode cL_law 1734 = .ok (.iconst 1, 1) := by decide +kernel
theorem dL_law_1735 : decode cL_law 1735 = .ok (.iadd, 1) := by decide +kernel
theorem dL_law_1736 : decode cL_law 1736 = .ok (.iaload, 1) := by decide +kernel
theorem dL_law_1737 : decode cL_law 1737 = .ok (.aload_n 0, 1) := by decide +kernel
theorem dL_law_1738 : decode cL_law 1738 = .ok (.iload 5, 2) := by decide +kernel
theorem dL_law_1740 : decode cL_law 1740 = .ok (.iconst 2, 1) := by decide +kernel
theorem dL_law_1741 : decode cL_law 1741 = .ok (.iadd, 1) := by decide +kernel
theorem dL_law_1742 : decode cL_law 1742 = .ok (.iaload, 1) := by decide +kernel
theorem dL_law_1743 : decode cL_law 1743 = .ok (.invokevirtual 237, 3) := by decide +kernel
theorem dL_law_1746 : decode cL_law 1746 = .ok (.istore 7, 2) := by decide +kernel
theorem dL_law_1748 : decode cL_law 1748 = .ok (.aload_n 2, 1) := by decide +kernel
theorem dL_law_1749 : decode cL_law 1749 = .ok (.invokevirtual 132, 3) := by decide +kernel
theorem dL_law_1752 : decode cL_law 1752 = .ok (.iload 6, 2) := by decide +kernel
theorem dL_law_1754 : decode cL_law 1754 = .ok (.if_icmp .eq 5, 3) := by decide +kernel
theorem dL_law_1757 : decode cL_law 1757 = .ok (.iconst 0, 1) := by decide +kernel
theorem dL_law_1758 : decode cL_law 1758 = .ok (.ireturn, 1) := by decide +kernel
theorem dL_law_1759 : decode cL_law 1759 = .ok (.iload 6, 2) := by decide +kernel
theorem dL_law_1761 : decode cL_law 1761 = .ok (.ifCond .ne 15, 3) := by decide +kernel
theorem dL_law_1764 : decode cL_law 1764 = .ok (.aload_n 3, 1) := by decide +kernel
theorem dL_law_1765 : decode cL_law 1765 = .ok (.iconst 0, 1) := by decide +kernel
theorem dL_law_1766 : decode cL_law 1766 = .ok (.laload, 1) := by decide +kernel
theorem dL_law_1767 : decode cL_law 1767 = .ok (.iload 7, 2) := by decide +kernel
theorem dL_law_1769 : decode cL_law 1769 = .ok (.i2l, 1) := by decide +kernel
theorem dL_law_1770 : decode cL_law 1770 = .ok (.lcmp, 1) := by decide +kernel
theorem dL_law_1771 : decode cL_law 1771 = .ok (.ifCond .eq 5, 3) := by decide +kernel
theorem dL_law_1774 : decode cL_law 1774 = .ok (.iconst 0, 1) := by decide +kernel
theorem dL_law_1775 : decode cL_law 1775 = .ok (.ireturn, 1) := by decide +kernel
theorem dL_law_1776 : decode cL_law 1776 = .ok (.goto 774, 3) := by decide +kernel
theorem dL_law_1779 : decode cL_law 1779 = .ok (.aload_n 1, 1) := by decide +kernel
theorem dL_law_1780 : decode cL_law 1780 = .ok (.invokevirtual 238, 3) := by decide +kernel
theorem dL_law_1783 : decode cL_law 1783 = .ok (.aload_n 2, 1) := by decide +kernel
theorem dL_law_1784 : decode cL_law 1784 = .ok (.invokevirtual 241, 3) := by decide +kernel
theorem dL_law_1787 : decode cL_law 1787 = .ok (.if_icmp .eq 763, 3) := by decide +kernel
theorem dL_law_1790 : decode cL_law 1790 = .ok (.iconst 0, 1) := by decide +kernel
theorem dL_law_1791 : decode cL_law 1791 = .ok (.ireturn, 1) := by decide +kernel
theorem dL_law_1792 : decode cL_law 1792 = .ok (.aload_n 1, 1) := by decide +kernel
theorem dL_law_1793 : decode cL_law 1793 = .ok (.aload_n 0, 1) := by decide +kernel
theorem dL_law_1794 : decode cL_law 1794 = .ok (.iload 5, 2) := by decide +kernel
theorem dL_law_1796 : decode cL_law 1796 = .ok (.iconst 1, 1) := by decide +kernel
theorem dL_law_1797 : decode cL_law 1797 = .ok (.iadd, 1) := by decide +kernel
theorem dL_law_1798 : decode cL_law 1798 = .ok (.iaload, 1) := by decide +kernel
theorem dL_law_1799 : decode cL_law 1799 = .ok (.aload_n 0, 1) := by decide +kernel
theorem dL_law_1800 : decode cL_law 1800 = .ok (.iload 5, 2) := by decide +kernel
theorem dL_law_1802 : decode cL_law 1802 = .ok (.iconst 2, 1) := by decide +kernel
theorem dL_law_1803 : decode cL_law 1803 = .ok (.iadd, 1) := by decide +kernel
theorem dL_law_1804 : decode cL_law 1804 = .ok (.iaload, 1) := by decide +kernel
theorem dL_law_1805 : decode cL_law 1805 = .ok (.aload_n 0, 1) := by decide +kernel
theorem dL_law_1806 : decode cL_law 1806 = .ok (.iload 5, 2) := by decide +kernel
theorem dL_law_1808 : decode cL_law 1808 = .ok (.iconst 3, 1) := by decide +kernel
theorem dL_law_1809 : decode cL_law 1809 = .ok (.iadd, 1) := by decide +kernel
theorem dL_law_1810 : decode cL_law 1810 = .ok (.iaload, 1) := by decide +kernel
theorem dL_law_1811 : decode cL_law 1811 = .ok (.aload_n 3, 1) := by decide +kernel
theorem dL_law_1812 : decode cL_law 1812 = .ok (.invokestatic 242, 3) := by decide +kernel
theorem dL_law_1815 : decode cL_law 1815 = .ok (.istore 6, 2) := by decide +kernel
theorem dL_law_1817 : decode cL_law 1817 = .ok (.aload_n 2, 1) := by decide +kernel
theorem dL_law_1818 : decode cL_law 1818 = .ok (.aload_n 0, 1) := by decide +kernel
theorem dL_law_1819 : decode cL_law 1819 = .ok (.iload 5, 2) := by decide +kernel
theorem dL_law_1821 : decode cL_law 1821 = .ok (.iconst 1, 1) := by decide +kernel
theorem dL_law_1822 : decode cL_law 1822 = .ok (.iadd, 1) := by decide +kernel
theorem dL_law_1823 : decode cL_law 1823 = .ok (.iaload, 1) := by decide +kernel
theorem dL_law_1824 : decode cL_law 1824 = .ok (.aload_n 0, 1) := by decide +kernel
theorem dL_law_1825 : decode cL_law 1825 = .ok (.iload 5, 2) := by decide +kernel
theorem dL_law_1827 : decode cL_law 1827 = .ok (.iconst 2, 1) := by decide +kernel
theorem dL_law_1828 : decode cL_law 1828 = .ok (.iadd, 1) := by decide +kernel
theorem dL_law_1829 : decode cL_law 1829 = .ok (.iaload, 1) := by decide +kernel
theorem dL_law_1830 : decode cL_law 1830 = .ok (.aload_n 0, 1) := by decide +kernel
theorem dL_law_1831 : decode cL_law 1831 = .ok (.iload 5, 2) := by decide +kernel
theorem dL_law_1833 : decode cL_law 1833 = .ok (.iconst 3, 1) := by decide +kernel
theorem dL_law_1834 : decode cL_law 1834 = .ok (.iadd, 1) := by decide +kernel
theorem dL_law_1835 : decode cL_law 1835 = .ok (.iaload, 1) := by decide +kernel
theorem dL_law_1836 : decode cL_law 1836 = .ok (.invokevirtual 244, 3) := by decide +kernel
theorem dL_law_1839 : decode cL_law 1839 = .ok (.istore 7, 2) := by decide +kernel
theorem dL_law_1841 : decode cL_law 1841 = .ok (.aload_n 2, 1) := by decide +kernel
theorem dL_law_1842 : decode cL_law 1842 = .ok (.invokevirtual 132, 3) := by decide +kernel
theorem dL_law_1845 : decode cL_law 1845 = .ok (.iload 6, 2) := by decide +kernel
theorem dL_law_1847 : decode cL_law 1847 = .ok (.if_icmp .eq 5, 3) := by decide +kernel
theorem dL_law_1850 : decode cL_law 1850 = .ok (.iconst 0, 1) := by decide +kernel
theorem dL_law_1851 : decode cL_law 1851 = .ok (.ireturn, 1) := by decide +kernel
theorem dL_law_1852 : decode cL_law 1852 = .ok (.iload 6, 2) := by decide +kernel
theorem dL_law_1854 : decode cL_law 1854 = .ok (.ifCond .ne 15, 3) := by decide +kernel
theorem dL_law_1857 : decode cL_law 1857 = .ok (.aload_n 3, 1) := by decide +kernel
theorem dL_law_1858 : decode cL_law 1858 = .ok (.iconst 0, 1) := by decide +kernel
theorem dL_law_1859 : decode cL_law 1859 = .ok (.laload, 1) := by decide +kernel
theorem dL_law_1860 : decode cL_law 1860 = .ok (.iload 7, 2) := by decide +kernel
theorem dL_law_1862 : decode cL_law 1862 = .ok (.i2l, 1) := by decide +kernel
theorem dL_law_1863 : decode cL_law 1863 = .ok (.lcmp, 1) := by decide +kernel
theorem dL_law_1864 : decode cL_law 1864 = .ok (.ifCond .eq 5, 3) := by decide +kernel
theorem dL_law_1867 : decode cL_law 1867 = .ok (.iconst 0, 1) := by decide +kernel
theorem dL_law_1868 : decode cL_law 1868 = .ok (.ireturn, 1) := by decide +kernel
theorem dL_law_1869 : decode cL_law 1869 = .ok (.goto 681, 3) := by decide +kernel
theorem dL_law_1872 : decode cL_law 1872 = .ok (.aload_n 1, 1) := by decide +kernel
theorem dL_law_1873 : decode cL_law 1873 = .ok (.aload_n 0, 1) := by decide +kernel
theorem dL_law_1874 : decode cL_law 1874 = .ok (.iload 5, 2) := by decide +kernel
theorem dL_law_1876 : decode cL_law 1876 = .ok (.iconst 1, 1) := by decide +kernel
theorem dL_law_1877 : decode cL_law 1877 = .ok (.iadd, 1) := by decide +kernel
theorem dL_law_1878 : decode cL_law 1878 = .ok (.iaload, 1) := by decide +kernel
theorem dL_law_1879 : decode cL_law 1879 = .ok (.aload_n 3, 1) := by decide +kernel
theorem dL_law_1880 : decode cL_law 1880 = .ok (.invokestatic 245, 3) := by decide +kernel
theorem dL_law_1883 : decode cL_law 1883 = .ok (.istore 6, 2) := by decide +kernel
theorem dL_law_1885 : decode cL_law 1885 = .ok (.aload_n 2, 1) := by decide +kernel
theorem dL_law_1886 : decode cL_law 1886 = .ok (.aload_n 0, 1) := by decide +kernel
theorem dL_law_1887 : decode cL_law 1887 = .ok (.iload 5, 2) := by decide +kernel
theorem dL_law_1889 : decode cL_law 1889 = .ok (.iconst 1, 1) := by decide +kernel
theorem dL_law_1890 : decode cL_law 1890 = .ok (.iadd, 1) := by decide +kernel
theorem dL_law_1891 : decode cL_law 1891 = .ok (.iaload, 1) := by decide +kernel
theorem dL_law_1892 : decode cL_law 1892 = .ok (.invokevirtual 247, 3) := by decide +kernel
theorem dL_law_1895 : decode cL_law 1895 = .ok (.istore 7, 2) := by decide +kernel
theorem dL_law_1897 : decode cL_law 1897 = .ok (.aload_n 2, 1) := by decide +kernel
theorem dL_law_1898 : decode cL_law 1898 = .ok (.invokevirtual 132, 3) := by decide +kernel
theorem dL_law_1901 : decode cL_law 1901 = .ok (.iload 6, 2) := by decide +kernel
theorem dL_law_1903 : decode cL_law 1903 = .ok (.if_icmp .eq 5, 3) := by decide +kernel
theorem dL_law_1906 : decode cL_law 1906 = .ok (.iconst 0, 1) := by decide +kernel
theorem dL_law_1907 : decode cL_law 1907 = .ok (.ireturn, 1) := by decide +kernel
theorem dL_law_1908 : decode cL_law 1908 = .ok (.iload 6, 2) := by decide +kernel
theorem dL_law_1910 : decode cL_law 1910 = .ok (.ifCond .ne 15, 3) := by decide +kernel
theorem dL_law_1913 : decode cL_law 1913 = .ok (.aload_n 3, 1) := by decide +kernel
theorem dL_law_1914 : decode cL_law 1914 = .ok (.iconst 0, 1) := by decide +kernel
theorem dL_law_1915 : decode cL_law 1915 = .ok (.laload, 1) := by decide +kernel
theorem dL_law_1916 : decode cL_law 1916 = .ok (.iload 7, 2) := by decide +kernel
theorem dL_law_1918 : decode cL_law 1918 = .ok (.i2l, 1) := by decide +kernel
theorem dL_law_1919 : decode cL_law 1919 = .ok (.lcmp, 1) := by decide +kernel
theorem dL_law_1920 : decode cL_law 1920 = .ok (.ifCond .eq 5, 3) := by decide +kernel
theorem dL_law_1923 : decode cL_law 1923 = .ok (.iconst 0, 1) := by decide +kernel
theorem dL_law_1924 : decode cL_law 1924 = .ok (.ireturn, 1) := by decide +kernel
theorem dL_law_1925 : decode cL_law 1925 = .ok (.goto 625, 3) := by decide +kernel
theorem dL_law_1928 : decode cL_law 1928 = .ok (.aload_n 1, 1) := by decide +kernel
theorem dL_law_1929 : decode cL_law 1929 = .ok (.aload_n 0, 1) := by decide +kernel
theorem dL_law_1930 : decode cL_law 1930 = .ok (.iload 5, 2) := by decide +kernel
theorem dL_law_1932 : decode cL_law 1932 = .ok (.iconst 1, 1) := by decide +kernel
theorem dL_law_1933 : decode cL_law 1933 = .ok (.iadd, 1) := by decide +kernel
theorem dL_law_1934 : decode cL_law 1934 = .ok (.iaload, 1) := by decide +kernel
theorem dL_law_1935 : decode cL_law 1935 = .ok (.aload_n 3, 1) := by decide +kernel
theorem dL_law_1936 : decode cL_law 1936 = .ok (.invokestatic 248, 3) := by decide +kernel
theorem dL_law_1939 : decode cL_law 1939 = .ok (.istore 6, 2) := by decide +kernel
theorem dL_law_1941 : decode cL_law 1941 = .ok (.aload_n 2, 1) := by decide +kernel
theorem dL_law_1942 : decode cL_law 1942 = .ok (.aload_n 0, 1) := by decide +kernel
theorem dL_law_1943 : decode cL_law 1943 = .ok (.iload 5, 2) := by decide +kernel
theorem dL_law_1945 : decode cL_law 1945 = .ok (.iconst 1, 1) := by decide +kernel
theorem dL_law_1946 : decode cL_law 1946 = .ok (.iadd, 1) := by decide +kernel
theorem dL_law_1947 : decode cL_law 1947 = .ok (.iaload, 1) := by decide +kernel
theorem dL_law_1948 : decode cL_law 1948 = .ok (.invokevirtual 250, 3) := by decide +kernel
theorem dL_law_1951 : decode cL_law 1951 = .ok (.istore 7, 2) := by decide +kernel
theorem dL_law_1953 : decode cL_law 1953 = .ok (.aload_n 2, 1) := by decide +kernel
theorem dL_law_1954 : decode cL_law 1954 = .ok (.invokevirtual 132, 3) := by decide +kernel
theorem dL_law_1957 : decode cL_law 1957 = .ok (.iload 6, 2) := by decide +kernel
theorem dL_law_1959 : decode cL_law 1959 = .ok (.if_icmp .eq 5, 3) := by decide +kernel
theorem dL_law_1962 : decode cL_law 1962 = .ok (.iconst 0, 1) := by decide +kernel
theorem dL_law_1963 : decode cL_law 1963 = .ok (.ireturn, 1) := by decide +kernel
theorem dL_law_1964 : decode cL_law 1964 = .ok (.iload 6, 2) := by decide +kernel
theorem dL_law_1966 : decode cL_law 1966 = .ok (.ifCond .ne 15, 3) := by decide +kernel
theorem dL_law_1969 : decode cL_law 1969 = .ok (.aload_n 3, 1) := by decide +kernel
theorem dL_law_1970 : decode cL_law 1970 = .ok (.iconst 0, 1) := by decide +kernel
theorem dL_law_1971 : decode cL_law 1971 = .ok (.laload, 1) := by decide +kernel
theorem dL_law_1972 : decode cL_law 1972 = .ok (.iload 7, 2) := by decide +kernel
theorem dL_law_1974 : decode cL_law 1974 = .ok (.i2l, 1) := by decide +kernel
theorem dL_law_1975 : decode cL_law 1975 = .ok (.lcmp, 1) := by decide +kernel
theorem dL_law_1976 : decode cL_law 1976 = .ok (.ifCond .eq 5, 3) := by decide +kernel
theorem dL_law_1979 : decode cL_law 1979 = .ok (.iconst 0, 1) := by decide +kernel
theorem dL_law_1980 : decode cL_law 1980 = .ok (.ireturn, 1) := by decide +kernel
theorem dL_law_1981 : decode cL_law 1981 = .ok (.goto 569, 3) := by decide +kernel
theorem dL_law_1984 : decode cL_law 1984 = .ok (.aload_n 1, 1) := by decide +kernel
theorem dL_law_1985 : decode cL_law 1985 = .ok (.aload_n 0, 1) := by decide +kernel
theorem dL_law_1986 : decode cL_law 1986 = .ok (.iload 5, 2) := by decide +kernel
theorem dL_law_1988 : decode cL_law 1988 = .ok (.iconst 1, 1) := by decide +kernel
theorem dL_law_1989 : decode cL_law 1989 = .ok (.iadd, 1) := by decide +kernel
theorem dL_law_1990 : decode cL_law 1990 = .ok (.iaload, 1) := by decide +kernel
theorem dL_law_1991 : decode cL_law 1991 = .ok (.aload_n 3, 1) := by decide +kernel
theorem dL_law_1992 : decode cL_law 1992 = .ok (.invokestatic 251, 3) := by decide +kernel
theorem dL_law_1995 : decode cL_law 1995 = .ok (.istore 6, 2) := by decide +kernel
theorem dL_law_1997 : decode cL_law 1997 = .ok (.aload_n 2, 1) := by decide +kernel
theorem dL_law_1998 : decode cL_law 1998 = .ok (.aload_n 0, 1) := by decide +kernel
theorem dL_law_1999 : decode cL_law 1999 = .ok (.iload 5, 2) := by decide +kernel
theorem dL_law_2001 : decode cL_law 2001 = .ok (.iconst 1, 1) := by decide +kernel
theorem dL_law_2002 : decode cL_law 2002 = .ok (.iadd, 1) := by decide +kernel
theorem dL_law_2003 : decode cL_law 2003 = .ok (.iaload, 1) := by decide +kernel
theorem dL_law_2004 : decode cL_law 2004 = .ok (.invokevirtual 253, 3) := by decide +kernel
theorem dL_law_2007 : decode cL_law 2007 = .ok (.istore 7, 2) := by decide +kernel
theorem dL_law_2009 : decode cL_law 2009 = .ok (.aload_n 2, 1) := by decide +kernel
theorem dL_law_2010 : decode cL_law 2010 = .ok (.invokevirtual 132, 3) := by decide +kernel
theorem dL_law_2013 : decode cL_law 2013 = .ok (.iload 6, 2) := by decide +kernel
theorem dL_law_2015 : decode cL_law 2015 = .ok (.if_icmp .eq 5, 3) := by decide +kernel
theorem dL_law_2018 : decode cL_law 2018 = .ok (.iconst 0, 1) := by decide +kernel
theorem dL_law_2019 : decode cL_law 2019 = .ok (.ireturn, 1) := by decide +kernel
theorem dL_law_2020 : decode cL_law 2020 = .ok (.iload 6, 2) := by decide +kernel
theorem dL_law_2022 : decode cL_law 2022 = .ok (.ifCond .ne 15, 3) := by decide +kernel
theorem dL_law_2025 : decode cL_law 2025 = .ok (.aload_n 3, 1) := by decide +kernel
theorem dL_law_2026 : decode cL_law 2026 = .ok (.iconst 0, 1) := by decide +kernel
theorem dL_law_2027 : decode cL_law 2027 = .ok (.laload, 1) := by decide +kernel
theorem dL_law_2028 : decode cL_law 2028 = .ok (.iload 7, 2) := by decide +kernel
theorem dL_law_2030 : decode cL_law 2030 = .ok (.i2l, 1) := by decide +kernel
theorem dL_law_2031 : decode cL_law 2031 = .ok (.lcmp, 1) := by decide +kernel
theorem dL_law_2032 : decode cL_law 2032 = .ok (.ifCond .eq 5, 3) := by decide +kernel
theorem dL_law_2035 : decode cL_law 2035 = .ok (.iconst 0, 1) := by decide +kernel
theorem dL_law_2036 : decode cL_law 2036 = .ok (.ireturn, 1) := by decide +kernel
theorem dL_law_2037 : decode cL_law 2037 = .ok (.goto 513, 3) := by decide +kernel
theorem dL_law_2040 : decode cL_law 2040 = .ok (.aload_n 1, 1) := by decide +kernel
theorem dL_law_2041 : decode cL_law 2041 = .ok (.aload_n 0, 1) := by decide +kernel
theorem dL_law_2042 : decode cL_law 2042 = .ok (.iload 5, 2) := by decide +kernel
theorem dL_law_2044 : decode cL_law 2044 = .ok (.iconst 1, 1) := by decide +kernel
theorem dL_law_2045 : decode cL_law 2045 = .ok (.iadd, 1) := by decide +kernel
theorem dL_law_2046 : decode cL_law 2046 = .ok (.iaload, 1) := by decide +kernel
theorem dL_law_2047 : decode cL_law 2047 = .ok (.aload_n 3, 1) := by decide +kernel
theorem dL_law_2048 : decode cL_law 2048 = .ok (.invokestatic 254, 3) := by decide +kernel
theorem dL_law_2051 : decode cL_law 2051 = .ok (.istore 6, 2) := by decide +kernel
theorem dL_law_2053 : decode cL_law 2053 = .ok (.aload_n 2, 1) := by decide +kernel
theorem dL_law_2054 : decode cL_law 2054 = .ok (.aload_n 0, 1) := by decide +kernel
theorem dL_law_2055 : decode cL_law 2055 = .ok (.iload 5, 2) := by decide +kernel
theorem dL_law_2057 : decode cL_law 2057 = .ok (.iconst 1, 1) := by decide +kernel
theorem dL_law_2058 : decode cL_law 2058 = .ok (.iadd, 1) := by decide +kernel
theorem dL_law_2059 : decode cL_law 2059 = .ok (.iaload, 1) := by decide +kernel
theorem dL_law_2060 : decode cL_law 2060 = .ok (.invokevirtual 256, 3) := by decide +kernel
theorem dL_law_2063 : decode cL_law 2063 = .ok (.istore 7, 2) := by decide +kernel
theorem dL_law_2065 : decode cL_law 2065 = .ok (.aload_n 2, 1) := by decide +kernel
theorem dL_law_2066 : decode cL_law 2066 = .ok (.invokevirtual 132, 3) := by decide +kernel
theorem dL_law_2069 : decode cL_law 2069 = .ok (.iload 6, 2) := by decide +kernel
theorem dL_law_2071 : decode cL_law 2071 = .ok (.if_icmp .eq 5, 3) := by decide +kernel
theorem dL_law_2074 : decode cL_law 2074 = .ok (.iconst 0, 1) := by decide +kernel
theorem dL_law_2075 : decode cL_law 2075 = .ok (.ireturn, 1) := by decide +kernel
theorem dL_law_2076 : decode cL_law 2076 = .ok (.iload 6, 2) := by decide +kernel
theorem dL_law_2078 : decode cL_law 2078 = .ok (.ifCond .ne 15, 3) := by decide +kernel
theorem dL_law_2081 : decode cL_law 2081 = .ok (.aload_n 3, 1) := by decide +kernel
theorem dL_law_2082 : decode cL_law 2082 = .ok (.iconst 0, 1) := by decide +kernel
theorem dL_law_2083 : decode cL_law 2083 = .ok (.laload, 1) := by decide +kernel
theorem dL_law_2084 : decode cL_law 2084 = .ok (.iload 7, 2) := by decide +kernel
theorem dL_law_2086 : decode cL_law 2086 = .ok (.i2l, 1) := by decide +kernel
theorem dL_law_2087 : decode cL_law 2087 = .ok (.lcmp, 1) := by decide +kernel
theorem dL_law_2088 : decode cL_law 2088 = .ok (.ifCond .eq 5, 3) := by decide +kernel
theorem dL_law_2091 : decode cL_law 2091 = .ok (.iconst 0, 1) := by decide +kernel
theorem dL_law_2092 : decode cL_law 2092 = .ok (.ireturn, 1) := by decide +kernel
theorem dL_law_2093 : decode cL_law 2093 = .ok (.goto 457, 3) := by decide +kernel
theorem dL_law_2096 : decode cL_law 2096 = .ok (.aload_n 1, 1) := by decide +kernel
theorem dL_law_2097 : decode cL_law 2097 = .ok (.aload_n 0, 1) := by decide +kernel
theorem dL_law_2098 : decode cL_law 2098 = .ok (.iload 5, 2) := by decide +kernel
theorem dL_law_2100 : decode cL_law 2100 = .ok (.iconst 1, 1) := by decide +kernel
theorem dL_law_2101 : decode cL_law 2101 = .ok (.iadd, 1) := by decide +kernel
theorem dL_law_2102 : decode cL_law 2102 = .ok (.iaload, 1) := by decide +kernel
theorem dL_law_2103 : decode cL_law 2103 = .ok (.aload_n 0, 1) := by decide +kernel
theorem dL_law_2104 : decode cL_law 2104 = .ok (.iload 5, 2) := by decide +kernel
theorem dL_law_2106 : decode cL_law 2106 = .ok (.iconst 2, 1) := by decide +kernel
theorem dL_law_2107 : decode cL_law 2107 = .ok (.iadd, 1) := by decide +kernel
theorem dL_law_2108 : decode cL_law 2108 = .ok (.iaload, 1) := by decide +kernel
theorem dL_law_2109 : decode cL_law 2109 = .ok (.aload_n 3, 1) := by decide +kernel
theorem dL_law_2110 : decode cL_law 2110 = .ok (.invokestatic 257, 3) := by decide +kernel
theorem dL_law_2113 : decode cL_law 2113 = .ok (.istore 6, 2) := by decide +kernel
theorem dL_law_2115 : decode cL_law 2115 = .ok (.aload_n 2, 1) := by decide +kernel
theorem dL_law_2116 : decode cL_law 2116 = .ok (.aload_n 0, 1) := by decide +kernel
theorem dL_law_2117 : decode cL_law 2117 = .ok (.iload 5, 2) := by decide +kernel
theorem dL_law_2119 : decode cL_law 2119 = .ok (.iconst 1, 1) := by decide +kernel
theorem dL_law_2120 : decode cL_law 2120 = .ok (.iadd, 1) := by decide +kernel
theorem dL_law_2121 : decode cL_law 2121 = .ok (.iaload, 1) := by decide +kernel
theorem dL_law_2122 : decode cL_law 2122 = .ok (.aload_n 0, 1) := by decide +kernel
theorem dL_law_2123 : decode cL_law 2123 = .ok (.iload 5, 2) := by decide +kernel
theorem dL_law_2125 : decode cL_law 2125 = .ok (.iconst 2, 1) := by decide +kernel
theorem dL_law_2126 : decode cL_law 2126 = .ok (.iadd, 1) := by decide +kernel
theorem dL_law_2127 : decode cL_law 2127 = .ok (.iaload, 1) := by decide +kernel
theorem dL_law_2128 : decode cL_law 2128 = .ok (.invokevirtual 259, 3) := by decide +kernel
theorem dL_law_2131 : decode cL_law 2131 = .ok (.istore 7, 2) := by decide +kernel
theorem dL_law_2133 : decode cL_law 2133 = .ok (.aload_n 2, 1) := by decide +kernel
theorem dL_law_2134 : decode cL_law 2134 = .ok (.invokevirtual 132, 3) := by decide +kernel
theorem dL_law_2137 : decode cL_law 2137 = .ok (.iload 6, 2) := by decide +kernel
theorem dL_law_2139 : decode cL_law 2139 = .ok (.if_icmp .eq 5, 3) := by decide +kernel
theorem dL_law_2142 : decode cL_law 2142 = .ok (.iconst 0, 1) := by decide +kernel
theorem dL_law_2143 : decode cL_law 2143 = .ok (.ireturn, 1) := by decide +kernel
theorem dL_law_2144 : decode cL_law 2144 = .ok (.iload 6, 2) := by decide +kernel
theorem dL_law_2146 : decode cL_law 2146 = .ok (.ifCond .ne 15, 3) := by decide +kernel
theorem dL_law_2149 : decode cL_law 2149 = .ok (.aload_n 3, 1) := by decide +kernel
theorem dL_law_2150 : decode cL_law 2150 = .ok (.iconst 0, 1) := by decide +kernel
theorem dL_law_2151 : decode cL_law 2151 = .ok (.laload, 1) := by decide +kernel
theorem dL_law_2152 : decode cL_law 2152 = .ok (.iload 7, 2) := by decide +kernel
theorem dL_law_2154 : decode cL_law 2154 = .ok (.i2l, 1) := by decide +kernel
theorem dL_law_2155 : decode cL_law 2155 = .ok (.lcmp, 1) := by decide +kernel
theorem dL_law_2156 : decode cL_law 2156 = .ok (.ifCond .eq 5, 3) := by decide +kernel
theorem dL_law_2159 : decode cL_law 2159 = .ok (.iconst 0, 1) := by decide +kernel
theorem dL_law_2160 : decode cL_law 2160 = .ok (.ireturn, 1) := by decide +kernel
theorem dL_law_2161 : decode cL_law 2161 = .ok (.goto 389, 3) := by decide +kernel
theorem dL_law_2164 : decode cL_law 2164 = .ok (.aload_n 1, 1) := by decide +kernel
theorem dL_law_2165 : decode cL_law 2165 = .ok (.aload_n 0, 1) := by decide +kernel
theorem dL_law_2166 : decode cL_law 2166 = .ok (.iload 5, 2) := by decide +kernel
theorem dL_law_2168 : decode cL_law 2168 = .ok (.iconst 1, 1) := by decide +kernel
theorem dL_law_2169 : decode cL_law 2169 = .ok (.iadd, 1) := by decide +kernel
theorem dL_law_2170 : decode cL_law 2170 = .ok (.iaload, 1) := by decide +kernel
theorem dL_law_2171 : decode cL_law 2171 = .ok (.aload_n 0, 1) := by decide +kernel
theorem dL_law_2172 : decode cL_law 2172 = .ok (.iload 5, 2) := by decide +kernel
theorem dL_law_2174 : decode cL_law 2174 = .ok (.iconst 2, 1) := by decide +kernel
theorem dL_law_2175 : decode cL_law 2175 = .ok (.iadd, 1) := by decide +kernel
theorem dL_law_2176 : decode cL_law 2176 = .ok (.iaload, 1) := by decide +kernel
theorem dL_law_2177 : decode cL_law 2177 = .ok (.aload_n 3, 1) := by decide +kernel
theorem dL_law_2178 : decode cL_law 2178 = .ok (.invokestatic 260, 3) := by decide +kernel
theorem dL_law_2181 : decode cL_law 2181 = .ok (.istore 6, 2) := by decide +kernel
theorem dL_law_2183 : decode cL_law 2183 = .ok (.aload_n 2, 1) := by decide +kernel
theorem dL_law_2184 : decode cL_law 2184 = .ok (.aload_n 0, 1) := by decide +kernel
theorem dL_law_2185 : decode cL_law 2185 = .ok (.iload 5, 2) := by decide +kernel
theorem dL_law_2187 : decode cL_law 2187 = .ok (.iconst 1, 1) := by decide +kernel
theorem dL_law_2188 : decode cL_law 2188 = .ok (.iadd, 1) := by decide +kernel
theorem dL_law_2189 : decode cL_law 2189 = .ok (.iaload, 1) := by decide +kernel
theorem dL_law_2190 : decode cL_law 2190 = .ok (.aload_n 0, 1) := by decide +kernel
theorem dL_law_2191 : decode cL_law 2191 = .ok (.iload 5, 2) := by decide +kernel
theorem dL_law_2193 : decode cL_law 2193 = .ok (.iconst 2, 1) := by decide +kernel
theorem dL_law_2194 : decode cL_law 2194 = .ok (.iadd, 1) := by decide +kernel
theorem dL_law_2195 : decode cL_law 2195 = .ok (.iaload, 1) := by decide +kernel
theorem dL_law_2196 : decode cL_law 2196 = .ok (.invokevirtual 262, 3) := by decide +kernel
theorem dL_law_2199 : decode cL_law 2199 = .ok (.istore 7, 2) := by decide +kernel
theorem dL_law_2201 : decode cL_law 2201 = .ok (.aload_n 2, 1) := by decide +kernel
theorem dL_law_2202 : decode cL_law 2202 = .ok (.invokevirtual 132, 3) := by decide +kernel
theorem dL_law_2205 : decode cL_law 2205 = .ok (.iload 6, 2) := by decide +kernel
theorem dL_law_2207 : decode cL_law 2207 = .ok (.if_icmp .eq 5, 3) := by decide +kernel
theorem dL_law_2210 : decode cL_law 2210 = .ok (.iconst 0, 1) := by decide +kernel
theorem dL_law_2211 : decode cL_law 2211 = .ok (.ireturn, 1) := by decide +kernel
theorem dL_law_2212 : decode cL_law 2212 = .ok (.iload 6, 2) := by decide +kernel
theorem dL_law_2214 : decode cL_law 2214 = .ok (.ifCond .ne 15, 3) := by decide +kernel
theorem dL_law_2217 : decode cL_law 2217 = .ok (.aload_n 3, 1) := by decide +kernel
theorem dL_law_2218 : decode cL_law 2218 = .ok (.iconst 0, 1) := by decide +kernel
theorem dL_law_2219 : decode cL_law 2219 = .ok (.laload, 1) := by decide +kernel
theorem dL_law_2220 : decode cL_law 2220 = .ok (.iload 7, 2) := by decide +kernel
theorem dL_law_2222 : decode cL_law 2222 = .ok (.i2l, 1) := by decide +kernel
theorem dL_law_2223 : decode cL_law 2223 = .ok (.lcmp, 1) := by decide +kernel
theorem dL_law_2224 : decode cL_law 2224 = .ok (.ifCond .eq 5, 3) := by decide +kernel
theorem dL_law_2227 : decode cL_law 2227 = .ok (.iconst 0, 1) := by decide +kernel
theorem dL_law_2228 : decode cL_law 2228 = .ok (.ireturn, 1) := by decide +kernel
theorem dL_law_2229 : decode cL_law 2229 = .ok (.goto 321, 3) := by decide +kernel
theorem dL_law_2232 : decode cL_law 2232 = .ok (.aload_n 1, 1) := by decide +kernel
theorem dL_law_2233 : decode cL_law 2233 = .ok (.aload_n 0, 1) := by decide +kernel
theorem dL_law_2234 : decode cL_law 2234 = .ok (.iload 5, 2) := by decide +kernel
theorem dL_law_2236 : decode cL_law 2236 = .ok (.iconst 1, 1) := by decide +kernel
theorem dL_law_2237 : decode cL_law 2237 = .ok (.iadd, 1) := by decide +kernel
theorem dL_law_2238 : decode cL_law 2238 = .ok (.iaload, 1) := by decide +kernel
theorem dL_law_2239 : decode cL_law 2239 = .ok (.aload_n 0, 1) := by decide +kernel
theorem dL_law_2240 : decode cL_law 2240 = .ok (.iload 5, 2) := by decide +kernel
theorem dL_law_2242 : decode cL_law 2242 = .ok (.iconst 2, 1) := by decide +kernel
theorem dL_law_2243 : decode cL_law 2243 = .ok (.iadd, 1) := by decide +kernel
theorem dL_law_2244 : decode cL_law 2244 = .ok (.iaload, 1) := by decide +kernel
theorem dL_law_2245 : decode cL_law 2245 = .ok (.aload_n 0, 1) := by decide +kernel
theorem dL_law_2246 : decode cL_law 2246 = .ok (.iload 5, 2) := by decide +kernel
theorem dL_law_2248 : decode cL_law 2248 = .ok (.iconst 3, 1) := by decide +kernel
theorem dL_law_2249 : decode cL_law 2249 = .ok (.iadd, 1) := by decide +kernel
theorem dL_law_2250 : decode cL_law 2250 = .ok (.iaload, 1) := by decide +kernel
theorem dL_law_2251 : decode cL_law 2251 = .ok (.aload_n 3, 1) := by decide +kernel
theorem dL_law_2252 : decode cL_law 2252 = .ok (.invokestatic 263, 3) := by decide +kernel
theorem dL_law_2255 : decode cL_law 2255 = .ok (.istore 6, 2) := by decide +kernel
theorem dL_law_2257 : decode cL_law 2257 = .ok (.aload_n 2, 1) := by decide +kernel
theorem dL_law_2258 : decode cL_law 2258 = .ok (.aload_n 0, 1) := by decide +kernel
theorem dL_law_2259 : decode cL_law 2259 = .ok (.iload 5, 2) := by decide +kernel
theorem dL_law_2261 : decode cL_law 2261 = .ok (.iconst 1, 1) := by decide +kernel
theorem dL_law_2262 : decode cL_law 2262 = .ok (.iadd, 1) := by decide +kernel
theorem dL_law_2263 : decode cL_law 2263 = .ok (.iaload, 1) := by decide +kernel
theorem dL_law_2264 : decode cL_law 2264 = .ok (.aload_n 0, 1) := by decide +kernel
theorem dL_law_2265 : decode cL_law 2265 = .ok (.iload 5, 2) := by decide +kernel
theorem dL_law_2267 : decode cL_law 2267 = .ok (.iconst 2, 1) := by decide +kernel
theorem dL_law_2268 : decode cL_law 2268 = .ok (.iadd, 1) := by decide +kernel
theorem dL_law_2269 : decode cL_law 2269 = .ok (.iaload, 1) := by decide +kernel
theorem dL_law_2270 : decode cL_law 2270 = .ok (.aload_n 0, 1) := by decide +kernel
theorem dL_law_2271 : decode cL_law 2271 = .ok (.iload 5, 2) := by decide +kernel
theorem dL_law_2273 : decode cL_law 2273 = .ok (.iconst 3, 1) := by decide +kernel
theorem dL_law_2274 : decode cL_law 2274 = .ok (.iadd, 1) := by decide +kernel
theorem dL_law_2275 : decode cL_law 2275 = .ok (.iaload, 1) := by decide +kernel
theorem dL_law_2276 : decode cL_law 2276 = .ok (.invokevirtual 265, 3) := by decide +kernel
theorem dL_law_2279 : decode cL_law 2279 = .ok (.istore 7, 2) := by decide +kernel
theorem dL_law_2281 : decode cL_law 2281 = .ok (.aload_n 2, 1) := by decide +kernel
theorem dL_law_2282 : decode cL_law 2282 = .ok (.invokevirtual 132, 3) := by decide +kernel
theorem dL_law_2285 : decode cL_law 2285 = .ok (.iload 6, 2) := by decide +kernel
theorem dL_law_2287 : decode cL_law 2287 = .ok (.if_icmp .eq 5, 3) := by decide +kernel
theorem dL_law_2290 : decode cL_law 2290 = .ok (.iconst 0, 1) := by decide +kernel
theorem dL_law_2291 : decode cL_law 2291 = .ok (.ireturn, 1) := by decide +kernel
theorem dL_law_2292 : decode cL_law 2292 = .ok (.iload 6, 2) := by decide +kernel
theorem dL_law_2294 : decode cL_law 2294 = .ok (.ifCond .ne 15, 3) := by decide +kernel
theorem dL_law_2297 : decode cL_law 2297 = .ok (.aload_n 3, 1) := by decide +kernel
theorem dL_law_2298 : decode cL_law 2298 = .ok (.iconst 0, 1) := by decide +kernel
theorem dL_law_2299 : decode cL_law 2299 = .ok (.laload, 1) := by decide +kernel
theorem dL_law_2300 : decode cL_law 2300 = .ok (.iload 7, 2) := by decide +kernel
theorem dL_law_2302 : decode cL_law 2302 = .ok (.i2l, 1) := by decide +kernel
theorem dL_law_2303 : decode cL_law 2303 = .ok (.lcmp, 1) := by decide +kernel
theorem dL_law_2304 : decode cL_law 2304 = .ok (.ifCond .eq 5, 3) := by decide +kernel
theorem dL_law_2307 : decode cL_law 2307 = .ok (.iconst 0, 1) := by decide +kernel
theorem dL_law_2308 : decode cL_law 2308 = .ok (.ireturn, 1) := by decide +kernel
theorem dL_law_2309 : decode cL_law 2309 = .ok (.goto 241, 3) := by decide +kernel
theorem dL_law_2312 : decode cL_law 2312 = .ok (.aload_n 1, 1) := by decide +kernel
theorem dL_law_2313 : decode cL_law 2313 = .ok (.invokevirtual 266, 3) := by decide +kernel
theorem dL_law_2316 : decode cL_law 2316 = .ok (.aload_n 2, 1) := by decide +kernel
theorem dL_law_2317 : decode cL_law 2317 = .ok (.invokevirtual 269, 3) := by decide +kernel
theorem dL_law_2320 : decode cL_law 2320 = .ok (.if_icmp .eq 230, 3) := by decide +kernel
theorem dL_law_2323 : decode cL_law 2323 = .ok (.iconst 0, 1) := by decide +kernel
theorem dL_law_2324 : decode cL_law 2324 = .ok (.ireturn, 1) := by decide +kernel
theorem dL_law_2325 : decode cL_law 2325 = .ok (.aload_n 1, 1) := by decide +kernel
theorem dL_law_2326 : decode cL_law 2326 = .ok (.invokevirtual 270, 3) := by decide +kernel
theorem dL_law_2329 : decode cL_law 2329 = .ok (.aload_n 2, 1) := by decide +kernel
theorem dL_law_2330 : decode cL_law 2330 = .ok (.invokevirtual 273, 3) := by decide +kernel
theorem dL_law_2333 : decode cL_law 2333 = .ok (.if_icmp .eq 217, 3) := by decide +kernel
theorem dL_law_2336 : decode cL_law 2336 = .ok (.iconst 0, 1) := by decide +kernel
theorem dL_law_2337 : decode cL_law 2337 = .ok (.ireturn, 1) := by decide +kernel
theorem dL_law_2338 : decode cL_law 2338 = .ok (.aload_n 1, 1) := by decide +kernel
theorem dL_law_2339 : decode cL_law 2339 = .ok (.aload_n 0, 1) := by decide +kernel
theorem dL_law_2340 : decode cL_law 2340 = .ok (.iload 5, 2) := by decide +kernel
theorem dL_law_2342 : decode cL_law 2342 = .ok (.iconst 1, 1) := by decide +kernel
theorem dL_law_2343 : decode cL_law 2343 = .ok (.iadd, 1) := by decide +kernel
theorem dL_law_2344 : decode cL_law 2344 = .ok (.iaload, 1) := by decide +kernel
theorem dL_law_2345 : decode cL_law 2345 = .ok (.aload_n 3, 1) := by decide +kernel
theorem dL_law_2346 : decode cL_law 2346 = .ok (.invokestatic 274, 3) := by decide +kernel
theorem dL_law_2349 : decode cL_law 2349 = .ok (.istore 6, 2) := by decide +kernel
theorem dL_law_2351 : decode cL_law 2351 = .ok (.aload_n 2, 1) := by decide +kernel
theorem dL_law_2352 : decode cL_law 2352 = .ok (.aload_n 0, 1) := by decide +kernel
theorem dL_law_2353 : decode cL_law 2353 = .ok (.iload 5, 2) := by decide +kernel
theorem dL_law_2355 : decode cL_law 2355 = .ok (.iconst 1, 1) := by decide +kernel
theorem dL_law_2356 : decode cL_law 2356 = .ok (.iadd, 1) := by decide +kernel
theorem dL_law_2357 : decode cL_law 2357 = .ok (.iaload, 1) := by decide +kernel
theorem dL_law_2358 : decode cL_law 2358 = .ok (.invokevirtual 276, 3) := by decide +kernel
theorem dL_law_2361 : decode cL_law 2361 = .ok (.istore 7, 2) := by decide +kernel
theorem dL_law_2363 : decode cL_law 2363 = .ok (.aload_n 2, 1) := by decide +kernel
theorem dL_law_2364 : decode cL_law 2364 = .ok (.invokevirtual 132, 3) := by decide +kernel
theorem dL_law_2367 : decode cL_law 2367 = .ok (.iload 6, 2) := by decide +kernel
theorem dL_law_2369 : decode cL_law 2369 = .ok (.if_icmp .eq 5, 3) := by decide +kernel
theorem dL_law_2372 : decode cL_law 2372 = .ok (.iconst 0, 1) := by decide +kernel
theorem dL_law_2373 : decode cL_law 2373 = .ok (.ireturn, 1) := by decide +kernel
theorem dL_law_2374 : decode cL_law 2374 = .ok (.iload 6, 2) := by decide +kernel
theorem dL_law_2376 : decode cL_law 2376 = .ok (.ifCond .ne 15, 3) := by decide +kernel
theorem dL_law_2379 : decode cL_law 2379 = .ok (.aload_n 3, 1) := by decide +kernel
theorem dL_law_2380 : decode cL_law 2380 = .ok (.iconst 0, 1) := by decide +kernel
theorem dL_law_2381 : decode cL_law 2381 = .ok (.laload, 1) := by decide +kernel
theorem dL_law_2382 : decode cL_law 2382 = .ok (.iload 7, 2) := by decide +kernel
theorem dL_law_2384 : decode cL_law 2384 = .ok (.i2l, 1) := by decide +kernel
theorem dL_law_2385 : decode cL_law 2385 = .ok (.lcmp, 1) := by decide +kernel
theorem dL_law_2386 : decode cL_law 2386 = .ok (.ifCond .eq 5, 3) := by decide +kernel
theorem dL_law_2389 : decode cL_law 2389 = .ok (.iconst 0, 1) := by decide +kernel
theorem dL_law_2390 : decode cL_law 2390 = .ok (.ireturn, 1) := by decide +kernel
theorem dL_law_2391 : decode cL_law 2391 = .ok (.goto 159, 3) := by decide +kernel
theorem dL_law_2394 : decode cL_law 2394 = .ok (.aload_n 1, 1) := by decide +kernel
theorem dL_law_2395 : decode cL_law 2395 = .ok (.aload_n 3, 1) := by decide +kernel
theorem dL_law_2396 : decode cL_law 2396 = .ok (.invokestatic 277, 3) := by decide +kernel
theorem dL_law_2399 : decode cL_law 2399 = .ok (.istore 6, 2) := by decide +kernel
theorem dL_law_2401 : decode cL_law 2401 = .ok (.aload_n 2, 1) := by decide +kernel
theorem dL_law_2402 : decode cL_law 2402 = .ok (.invokevirtual 279, 3) := by decide +kernel
theorem dL_law_2405 : decode cL_law 2405 = .ok (.istore 7, 2) := by decide +kernel
theorem dL_law_2407 : decode cL_law 2407 = .ok (.aload_n 2, 1) := by decide +kernel
theorem dL_law_2408 : decode cL_law 2408 = .ok (.invokevirtual 132, 3) := by decide +kernel
theorem dL_law_2411 : decode cL_law 2411 = .ok (.iload 6, 2) := by decide +kernel
theorem dL_law_2413 : decode cL_law 2413 = .ok (.if_icmp .eq 5, 3) := by decide +kernel
theorem dL_law_2416 : decode cL_law 2416 = .ok (.iconst 0, 1) := by decide +kernel
theorem dL_law_2417 : decode cL_law 2417 = .ok (.ireturn, 1) := by decide +kernel
theorem dL_law_2418 : decode cL_law 2418 = .ok (.iload 6, 2) := by decide +kernel
theorem dL_law_2420 : decode cL_law 2420 = .ok (.ifCond .ne 15, 3) := by decide +kernel
theorem dL_law_2423 : decode cL_law 2423 = .ok (.aload_n 3, 1) := by decide +kernel
theorem dL_law_2424 : decode cL_law 2424 = .ok (.iconst 0, 1) := by decide +kernel
theorem dL_law_2425 : decode cL_law 2425 = .ok (.laload, 1) := by decide +kernel
theorem dL_law_2426 : decode cL_law 2426 = .ok (.iload 7, 2) := by decide +kernel
theorem dL_law_2428 : decode cL_law 2428 = .ok (.i2l, 1) := by decide +kernel
theorem dL_law_2429 : decode cL_law 2429 = .ok (.lcmp, 1) := by decide +kernel
theorem dL_law_2430 : decode cL_law 2430 = .ok (.ifCond .eq 5, 3) := by decide +kernel
theorem dL_law_2433 : decode cL_law 2433 = .ok (.iconst 0, 1) := by decide +kernel
theorem dL_law_2434 : decode cL_law 2434 = .ok (.ireturn, 1) := by decide +kernel
theorem dL_law_2435 : decode cL_law 2435 = .ok (.goto 115, 3) := by decide +kernel
theorem dL_law_2438 : decode cL_law 2438 = .ok (.aload_n 1, 1) := by decide +kernel
theorem dL_law_2439 : decode cL_law 2439 = .ok (.aload_n 0, 1) := by decide +kernel
theorem dL_law_2440 : decode cL_law 2440 = .ok (.iload 5, 2) := by decide +kernel
theorem dL_law_2442 : decode cL_law 2442 = .ok (.iconst 1, 1) := by decide +kernel
theorem dL_law_2443 : decode cL_law 2443 = .ok (.iadd, 1) := by decide +kernel
theorem dL_law_2444 : decode cL_law 2444 = .ok (.iaload, 1) := by decide +kernel
theorem dL_law_2445 : decode cL_law 2445 = .ok (.aload_n 3, 1) := by decide +kernel
theorem dL_law_2446 : decode cL_law 2446 = .ok (.invokestatic 280, 3) := by decide +kernel
theorem dL_law_2449 : decode cL_law 2449 = .ok (.istore 6, 2) := by decide +kernel
theorem dL_law_2451 : decode cL_law 2451 = .ok (.aload_n 2, 1) := by decide +kernel
theorem dL_law_2452 : decode cL_law 2452 = .ok (.aload_n 0, 1) := by decide +kernel
theorem dL_law_2453 : decode cL_law 2453 = .ok (.iload 5, 2) := by decide +kernel
theorem dL_law_2455 : decode cL_law 2455 = .ok (.iconst 1, 1) := by decide +kernel
theorem dL_law_2456 : decode cL_law 2456 = .ok (.iadd, 1) := by decide +kernel
theorem dL_law_2457 : decode cL_law 2457 = .ok (.iaload, 1) := by decide +kernel
theorem dL_law_2458 : decode cL_law 2458 = .ok (.invokevirtual 282, 3) := by decide +kernel
theorem dL_law_2461 : decode cL_law 2461 = .ok (.istore 7, 2) := by decide +kernel
theorem dL_law_2463 : decode cL_law 2463 = .ok (.aload_n 2, 1) := by decide +kernel
theorem dL_law_2464 : decode cL_law 2464 = .ok (.invokevirtual 132, 3) := by decide +kernel
theorem dL_law_2467 : decode cL_law 2467 = .ok (.iload 6, 2) := by decide +kernel
theorem dL_law_2469 : decode cL_law 2469 = .ok (.if_icmp .eq 5, 3) := by decide +kernel
theorem dL_law_2472 : decode cL_law 2472 = .ok (.iconst 0, 1) := by decide +kernel
theorem dL_law_2473 : decode cL_law 2473 = .ok (.ireturn, 1) := by decide +kernel
theorem dL_law_2474 : decode cL_law 2474 = .ok (.iload 6, 2) := by decide +kernel
theorem dL_law_2476 : decode cL_law 2476 = .ok (.ifCond .ne 15, 3) := by decide +kernel
theorem dL_law_2479 : decode cL_law 2479 = .ok (.aload_n 3, 1) := by decide +kernel
theorem dL_law_2480 : decode cL_law 2480 = .ok (.iconst 0, 1) := by decide +kernel
theorem dL_law_2481 : decode cL_law 2481 = .ok (.laload, 1) := by decide +kernel
theorem dL_law_2482 : decode cL_law 2482 = .ok (.iload 7, 2) := by decide +kernel
theorem dL_law_2484 : decode cL_law 2484 = .ok (.i2l, 1) := by decide +kernel
theorem dL_law_2485 : decode cL_law 2485 = .ok (.lcmp, 1) := by decide +kernel
theorem dL_law_2486 : decode cL_law 2486 = .ok (.ifCond .eq 5, 3) := by decide +kernel
theorem dL_law_2489 : decode cL_law 2489 = .ok (.iconst 0, 1) := by decide +kernel
theorem dL_law_2490 : decode cL_law 2490 = .ok (.ireturn, 1) := by decide +kernel
theorem dL_law_2491 : decode cL_law 2491 = .ok (.goto 59, 3) := by decide +kernel
theorem dL_law_2494 : decode cL_law 2494 = .ok (.aload_n 1, 1) := by decide +kernel
theorem dL_law_2495 : decode cL_law 2495 = .ok (.aload_n 0, 1) := by decide +kernel
theorem dL_law_2496 : decode cL_law 2496 = .ok (.iload 5, 2) := by decide +kernel
theorem dL_law_2498 : decode cL_law 2498 = .ok (.iconst 1, 1) := by decide +kernel
theorem dL_law_2499 : decode cL_law 2499 = .ok (.iadd, 1) := by decide +kernel
theorem dL_law_2500 : decode cL_law 2500 = .ok (.iaload, 1) := by decide +kernel
theorem dL_law_2501 : decode cL_law 2501 = .ok (.aload_n 3, 1) := by decide +kernel
theorem dL_law_2502 : decode cL_law 2502 = .ok (.invokestatic 283, 3) := by decide +kernel
theorem dL_law_2505 : decode cL_law 2505 = .ok (.istore 6, 2) := by decide +kernel
theorem dL_law_2507 : decode cL_law 2507 = .ok (.aload_n 2, 1) := by decide +kernel
theorem dL_law_2508 : decode cL_law 2508 = .ok (.aload_n 0, 1) := by decide +kernel
theorem dL_law_2509 : decode cL_law 2509 = .ok (.iload 5, 2) := by decide +kernel
theorem dL_law_2511 : decode cL_law 2511 = .ok (.iconst 1, 1) := by decide +kernel
theorem dL_law_2512 : decode cL_law 2512 = .ok (.iadd, 1) := by decide +kernel
theorem dL_law_2513 : decode cL_law 2513 = .ok (.iaload, 1) := by decide +kernel
theorem dL_law_2514 : decode cL_law 2514 = .ok (.invokevirtual 285, 3) := by decide +kernel
theorem dL_law_2517 : decode cL_law 2517 = .ok (.istore 7, 2) := by decide +kernel
theorem dL_law_2519 : decode cL_law 2519 = .ok (.aload_n 2, 1) := by decide +kernel
theorem dL_law_2520 : decode cL_law 2520 = .ok (.invokevirtual 132, 3) := by decide +kernel
theorem dL_law_2523 : decode cL_law 2523 = .ok (.iload 6, 2) := by decide +kernel
theorem dL_law_2525 : decode cL_law 2525 = .ok (.if_icmp .eq 5, 3) := by decide +kernel
theorem dL_law_2528 : decode cL_law 2528 = .ok (.iconst 0, 1) := by decide +kernel
theorem dL_law_2529 : decode cL_law 2529 = .ok (.ireturn, 1) := by decide +kernel
theorem dL_law_2530 : decode cL_law 2530 = .ok (.iload 6, 2) := by decide +kernel
theorem dL_law_2532 : decode cL_law 2532 = .ok (.ifCond .ne 15, 3) := by decide +kernel
theorem dL_law_2535 : decode cL_law 2535 = .ok (.aload_n 3, 1) := by decide +kernel
theorem dL_law_2536 : decode cL_law 2536 = .ok (.iconst 0, 1) := by decide +kernel
theorem dL_law_2537 : decode cL_law 2537 = .ok (.laload, 1) := by decide +kernel
theorem dL_law_2538 : decode cL_law 2538 = .ok (.iload 7, 2) := by decide +kernel
theorem dL_law_2540 : decode cL_law 2540 = .ok (.i2l, 1) := by decide +kernel
theorem dL_law_2541 : decode cL_law 2541 = .ok (.lcmp, 1) := by decide +kernel
theorem dL_law_2542 : decode cL_law 2542 = .ok (.ifCond .eq 5, 3) := by decide +kernel
theorem dL_law_2545 : decode cL_law 2545 = .ok (.iconst 0, 1) := by decide +kernel
theorem dL_law_2546 : decode cL_law 2546 = .ok (.ireturn, 1) := by decide +kernel
theorem dL_law_2547 : decode cL_law 2547 = .ok (.goto 3, 3) := by decide +kernel
theorem dL_law_2550 : decode cL_law 2550 = .ok (.iinc 5 6, 3) := by decide +kernel
theorem dL_law_2553 : decode cL_law 2553 = .ok (.goto (-2525), 3) := by decide +kernel
theorem dL_law_2556 : decode cL_law 2556 = .ok (.iconst 1, 1) := by decide +kernel
theorem dL_law_2557 : decode cL_law 2557 = .ok (.ireturn, 1) := by decide +kernel
