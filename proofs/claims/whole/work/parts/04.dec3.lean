theorem dX8_drifts_96 : decode cX8_drifts 96 = .ok (.istore 5, 2) := by decide +kernel
theorem dX8_drifts_98 : decode cX8_drifts 98 = .ok (.iload 7, 2) := by decide +kernel
theorem dX8_drifts_100 : decode cX8_drifts 100 = .ok (.istore 6, 2) := by decide +kernel
theorem dX8_drifts_102 : decode cX8_drifts 102 = .ok (.iinc 6 1, 3) := by decide +kernel
theorem dX8_drifts_105 : decode cX8_drifts 105 = .ok (.goto (-99), 3) := by decide +kernel
theorem dX8_drifts_108 : decode cX8_drifts 108 = .ok (.iload 5, 2) := by decide +kernel
theorem dX8_drifts_110 : decode cX8_drifts 110 = .ok (.ireturn, 1) := by decide +kernel
theorem dX8_noStorm_0 : decode cX8_noStorm 0 = .ok (.aload_n 0, 1) := by decide +kernel
theorem dX8_noStorm_1 : decode cX8_noStorm 1 = .ok (.iload_n 2, 1) := by decide +kernel
theorem dX8_noStorm_2 : decode cX8_noStorm 2 = .ok (.invokevirtual 255, 3) := by decide +kernel
theorem dX8_noStorm_5 : decode cX8_noStorm 5 = .ok (.ifCond .ne 39, 3) := by decide +kernel
theorem dX8_noStorm_8 : decode cX8_noStorm 8 = .ok (.aload_n 0, 1) := by decide +kernel
theorem dX8_noStorm_9 : decode cX8_noStorm 9 = .ok (.iload_n 3, 1) := by decide +kernel
theorem dX8_noStorm_10 : decode cX8_noStorm 10 = .ok (.invokevirtual 255, 3) := by decide +kernel
theorem dX8_noStorm_13 : decode cX8_noStorm 13 = .ok (.ifCond .ne 31, 3) := by decide +kernel
theorem dX8_noStorm_16 : decode cX8_noStorm 16 = .ok (.aload_n 0, 1) := by decide +kernel
theorem dX8_noStorm_17 : decode cX8_noStorm 17 = .ok (.iload_n 1, 1) := by decide +kernel
theorem dX8_noStorm_18 : decode cX8_noStorm 18 = .ok (.iconst 1, 1) := by decide +kernel
theorem dX8_noStorm_19 : decode cX8_noStorm 19 = .ok (.bipush 99, 2) := by decide +kernel
theorem dX8_noStorm_21 : decode cX8_noStorm 21 = .ok (.invokestatic 60, 3) := by decide +kernel
theorem dX8_noStorm_24 : decode cX8_noStorm 24 = .ok (.ifCond .eq 8, 3) := by decide +kernel
theorem dX8_noStorm_27 : decode cX8_noStorm 27 = .ok (.iload_n 3, 1) := by decide +kernel
theorem dX8_noStorm_28 : decode cX8_noStorm 28 = .ok (.iload_n 2, 1) := by decide +kernel
theorem dX8_noStorm_29 : decode cX8_noStorm 29 = .ok (.if_icmp .ge 7, 3) := by decide +kernel
theorem dX8_noStorm_32 : decode cX8_noStorm 32 = .ok (.iconst 1, 1) := by decide +kernel
theorem dX8_noStorm_33 : decode cX8_noStorm 33 = .ok (.goto 4, 3) := by decide +kernel
theorem dX8_noStorm_36 : decode cX8_noStorm 36 = .ok (.iconst 0, 1) := by decide +kernel
theorem dX8_noStorm_37 : decode cX8_noStorm 37 = .ok (.iconst 2, 1) := by decide +kernel
theorem dX8_noStorm_38 : decode cX8_noStorm 38 = .ok (.invokevirtual 64, 3) := by decide +kernel
theorem dX8_noStorm_41 : decode cX8_noStorm 41 = .ok (.ifCond .eq 7, 3) := by decide +kernel
theorem dX8_noStorm_44 : decode cX8_noStorm 44 = .ok (.iconst 1, 1) := by decide +kernel
theorem dX8_noStorm_45 : decode cX8_noStorm 45 = .ok (.goto 4, 3) := by decide +kernel
theorem dX8_noStorm_48 : decode cX8_noStorm 48 = .ok (.iconst 0, 1) := by decide +kernel
theorem dX8_noStorm_49 : decode cX8_noStorm 49 = .ok (.ireturn, 1) := by decide +kernel
theorem dX8_wouldBreak_0 : decode cX8_wouldBreak 0 = .ok (.aload_n 0, 1) := by decide +kernel
theorem dX8_wouldBreak_1 : decode cX8_wouldBreak 1 = .ok (.iconst 0, 1) := by decide +kernel
theorem dX8_wouldBreak_2 : decode cX8_wouldBreak 2 = .ok (.putfield 57, 3) := by decide +kernel
theorem dX8_wouldBreak_5 : decode cX8_wouldBreak 5 = .ok (.aload_n 0, 1) := by decide +kernel
theorem dX8_wouldBreak_6 : decode cX8_wouldBreak 6 = .ok (.iload_n 1, 1) := by decide +kernel
theorem dX8_wouldBreak_7 : decode cX8_wouldBreak 7 = .ok (.iload_n 2, 1) := by decide +kernel
theorem dX8_wouldBreak_8 : decode cX8_wouldBreak 8 = .ok (.iload_n 3, 1) := by decide +kernel
theorem dX8_wouldBreak_9 : decode cX8_wouldBreak 9 = .ok (.invokevirtual 276, 3) := by decide +kernel
theorem dX8_wouldBreak_12 : decode cX8_wouldBreak 12 = .ok (.ifCond .eq 7, 3) := by decide +kernel
theorem dX8_wouldBreak_15 : decode cX8_wouldBreak 15 = .ok (.iconst 0, 1) := by decide +kernel
theorem dX8_wouldBreak_16 : decode cX8_wouldBreak 16 = .ok (.goto 10, 3) := by decide +kernel
theorem dX8_wouldBreak_19 : decode cX8_wouldBreak 19 = .ok (.aload_n 0, 1) := by decide +kernel
theorem dX8_wouldBreak_20 : decode cX8_wouldBreak 20 = .ok (.iload_n 1, 1) := by decide +kernel
theorem dX8_wouldBreak_21 : decode cX8_wouldBreak 21 = .ok (.iload_n 2, 1) := by decide +kernel
theorem dX8_wouldBreak_22 : decode cX8_wouldBreak 22 = .ok (.iload_n 3, 1) := by decide +kernel
theorem dX8_wouldBreak_23 : decode cX8_wouldBreak 23 = .ok (.invokevirtual 279, 3) := by decide +kernel
theorem dX8_wouldBreak_26 : decode cX8_wouldBreak 26 = .ok (.ireturn, 1) := by decide +kernel
theorem dX8_wouldDrift_0 : decode cX8_wouldDrift 0 = .ok (.aload_n 0, 1) := by decide +kernel
theorem dX8_wouldDrift_1 : decode cX8_wouldDrift 1 = .ok (.iconst 0, 1) := by decide +kernel
theorem dX8_wouldDrift_2 : decode cX8_wouldDrift 2 = .ok (.putfield 57, 3) := by decide +kernel
theorem dX8_wouldDrift_5 : decode cX8_wouldDrift 5 = .ok (.aload_n 0, 1) := by decide +kernel
theorem dX8_wouldDrift_6 : decode cX8_wouldDrift 6 = .ok (.iload_n 1, 1) := by decide +kernel
theorem dX8_wouldDrift_7 : decode cX8_wouldDrift 7 = .ok (.iload_n 2, 1) := by decide +kernel
theorem dX8_wouldDrift_8 : decode cX8_wouldDrift 8 = .ok (.iload_n 3, 1) := by decide +kernel
theorem dX8_wouldDrift_9 : decode cX8_wouldDrift 9 = .ok (.invokevirtual 276, 3) := by decide +kernel
theorem dX8_wouldDrift_12 : decode cX8_wouldDrift 12 = .ok (.ifCond .eq 7, 3) := by decide +kernel
theorem dX8_wouldDrift_15 : decode cX8_wouldDrift 15 = .ok (.iconst 0, 1) := by decide +kernel
theorem dX8_wouldDrift_16 : decode cX8_wouldDrift 16 = .ok (.goto 22, 3) := by decide +kernel
theorem dX8_wouldDrift_19 : decode cX8_wouldDrift 19 = .ok (.aload_n 0, 1) := by decide +kernel
theorem dX8_wouldDrift_20 : decode cX8_wouldDrift 20 = .ok (.iload_n 1, 1) := by decide +kernel
theorem dX8_wouldDrift_21 : decode cX8_wouldDrift 21 = .ok (.iload_n 2, 1) := by decide +kernel
theorem dX8_wouldDrift_22 : decode cX8_wouldDrift 22 = .ok (.iload_n 3, 1) := by decide +kernel
theorem dX8_wouldDrift_23 : decode cX8_wouldDrift 23 = .ok (.aload_n 0, 1) := by decide +kernel
theorem dX8_wouldDrift_24 : decode cX8_wouldDrift 24 = .ok (.invokevirtual 249, 3) := by decide +kernel
theorem dX8_wouldDrift_27 : decode cX8_wouldDrift 27 = .ok (.aload_n 0, 1) := by decide +kernel
theorem dX8_wouldDrift_28 : decode cX8_wouldDrift 28 = .ok (.iload_n 1, 1) := by decide +kernel
theorem dX8_wouldDrift_29 : decode cX8_wouldDrift 29 = .ok (.iload_n 2, 1) := by decide +kernel
theorem dX8_wouldDrift_30 : decode cX8_wouldDrift 30 = .ok (.iload_n 3, 1) := by decide +kernel
theorem dX8_wouldDrift_31 : decode cX8_wouldDrift 31 = .ok (.invokevirtual 279, 3) := by decide +kernel
theorem dX8_wouldDrift_34 : decode cX8_wouldDrift 34 = .ok (.ior, 1) := by decide +kernel
theorem dX8_wouldDrift_35 : decode cX8_wouldDrift 35 = .ok (.invokevirtual 283, 3) := by decide +kernel
theorem dX8_wouldDrift_38 : decode cX8_wouldDrift 38 = .ok (.ireturn, 1) := by decide +kernel
theorem dX8_leastStorm_0 : decode cX8_leastStorm 0 = .ok (.aload_n 0, 1) := by decide +kernel
theorem dX8_leastStorm_1 : decode cX8_leastStorm 1 = .ok (.iconst 0, 1) := by decide +kernel
theorem dX8_leastStorm_2 : decode cX8_leastStorm 2 = .ok (.putfield 57, 3) := by decide +kernel
theorem dX8_leastStorm_5 : decode cX8_leastStorm 5 = .ok (.aload_n 0, 1) := by decide +kernel
theorem dX8_leastStorm_6 : decode cX8_leastStorm 6 = .ok (.getfield 7, 3) := by decide +kernel
theorem dX8_leastStorm_9 : decode cX8_leastStorm 9 = .ok (.iconst 0, 1) := by decide +kernel
theorem dX8_leastStorm_10 : decode cX8_leastStorm 10 = .ok (.iaload, 1) := by decide +kernel
theorem dX8_leastStorm_11 : decode cX8_leastStorm 11 = .ok (.iconst 1, 1) := by decide +kernel
theorem dX8_leastStorm_12 : decode cX8_leastStorm 12 = .ok (.isub, 1) := by decide +kernel
theorem dX8_leastStorm_13 : decode cX8_leastStorm 13 = .ok (.istore_n 1, 1) := by decide +kernel
theorem dX8_leastStorm_14 : decode cX8_leastStorm 14 = .ok (.iconst 1, 1) := by decide +kernel
theorem dX8_leastStorm_15 : decode cX8_leastStorm 15 = .ok (.istore_n 2, 1) := by decide +kernel
theorem dX8_leastStorm_16 : decode cX8_leastStorm 16 = .ok (.iload_n 2, 1) := by decide +kernel
theorem dX8_leastStorm_17 : decode cX8_leastStorm 17 = .ok (.bipush 100, 2) := by decide +kernel
theorem dX8_leastStorm_19 : decode cX8_leastStorm 19 = .ok (.if_icmp .ge 33, 3) := by decide +kernel
theorem dX8_leastStorm_22 : decode cX8_leastStorm 22 = .ok (.aload_n 0, 1) := by decide +kernel
theorem dX8_leastStorm_23 : decode cX8_leastStorm 23 = .ok (.iload_n 2, 1) := by decide +kernel
theorem dX8_leastStorm_24 : decode cX8_leastStorm 24 = .ok (.iconst 0, 1) := by decide +kernel
theorem dX8_leastStorm_25 : decode cX8_leastStorm 25 = .ok (.iload_n 1, 1) := by decide +kernel
theorem dX8_leastStorm_26 : decode cX8_leastStorm 26 = .ok (.aload_n 0, 1) := by decide +kernel
theorem dX8_leastStorm_27 : decode cX8_leastStorm 27 = .ok (.invokevirtual 249, 3) := by decide +kernel
theorem dX8_leastStorm_30 : decode cX8_leastStorm 30 = .ok (.aload_n 0, 1) := by decide +kernel
theorem dX8_leastStorm_31 : decode cX8_leastStorm 31 = .ok (.iload_n 2, 1) := by decide +kernel
theorem dX8_leastStorm_32 : decode cX8_leastStorm 32 = .ok (.iconst 0, 1) := by decide +kernel
theorem dX8_leastStorm_33 : decode cX8_leastStorm 33 = .ok (.iload_n 1, 1) := by decide +kernel
theorem dX8_leastStorm_34 : decode cX8_leastStorm 34 = .ok (.invokevirtual 279, 3) := by decide +kernel
theorem dX8_leastStorm_37 : decode cX8_leastStorm 37 = .ok (.ior, 1) := by decide +kernel
theorem dX8_leastStorm_38 : decode cX8_leastStorm 38 = .ok (.invokevirtual 283, 3) := by decide +kernel
theorem dX8_leastStorm_41 : decode cX8_leastStorm 41 = .ok (.ifCond .eq 5, 3) := by decide +kernel
theorem dX8_leastStorm_44 : decode cX8_leastStorm 44 = .ok (.iload_n 2, 1) := by decide +kernel
theorem dX8_leastStorm_45 : decode cX8_leastStorm 45 = .ok (.ireturn, 1) := by decide +kernel
theorem dX8_leastStorm_46 : decode cX8_leastStorm 46 = .ok (.iinc 2 1, 3) := by decide +kernel
theorem dX8_leastStorm_49 : decode cX8_leastStorm 49 = .ok (.goto (-33), 3) := by decide +kernel
theorem dX8_leastStorm_52 : decode cX8_leastStorm 52 = .ok (.iconst (-1), 1) := by decide +kernel
theorem dX8_leastStorm_53 : decode cX8_leastStorm 53 = .ok (.ireturn, 1) := by decide +kernel
theorem dX8_lacking_0 : decode cX8_lacking 0 = .ok (.iconst 0, 1) := by decide +kernel
theorem dX8_lacking_1 : decode cX8_lacking 1 = .ok (.istore_n 3, 1) := by decide +kernel
theorem dX8_lacking_2 : decode cX8_lacking 2 = .ok (.iconst 0, 1) := by decide +kernel
theorem dX8_lacking_3 : decode cX8_lacking 3 = .ok (.istore 4, 2) := by decide +kernel
theorem dX8_lacking_5 : decode cX8_lacking 5 = .ok (.iload 4, 2) := by decide +kernel
theorem dX8_lacking_7 : decode cX8_lacking 7 = .ok (.aload_n 0, 1) := by decide +kernel
theorem dX8_lacking_8 : decode cX8_lacking 8 = .ok (.getfield 7, 3) := by decide +kernel
theorem dX8_lacking_11 : decode cX8_lacking 11 = .ok (.iconst 0, 1) := by decide +kernel
theorem dX8_lacking_12 : decode cX8_lacking 12 = .ok (.iaload, 1) := by decide +kernel
theorem dX8_lacking_13 : decode cX8_lacking 13 = .ok (.if_icmp .ge 47, 3) := by decide +kernel
theorem dX8_lacking_16 : decode cX8_lacking 16 = .ok (.aload_n 0, 1) := by decide +kernel
theorem dX8_lacking_17 : decode cX8_lacking 17 = .ok (.iload 4, 2) := by decide +kernel
theorem dX8_lacking_19 : decode cX8_lacking 19 = .ok (.iload_n 2, 1) := by decide +kernel
theorem dX8_lacking_20 : decode cX8_lacking 20 = .ok (.invokevirtual 267, 3) := by decide +kernel
theorem dX8_lacking_23 : decode cX8_lacking 23 = .ok (.istore 5, 2) := by decide +kernel
theorem dX8_lacking_25 : decode cX8_lacking 25 = .ok (.iload_n 3, 1) := by decide +kernel
theorem dX8_lacking_26 : decode cX8_lacking 26 = .ok (.iconst 0, 1) := by decide +kernel
theorem dX8_lacking_27 : decode cX8_lacking 27 = .ok (.iload_n 1, 1) := by decide +kernel
theorem dX8_lacking_28 : decode cX8_lacking 28 = .ok (.iload 5, 2) := by decide +kernel
theorem dX8_lacking_30 : decode cX8_lacking 30 = .ok (.iload 4, 2) := by decide +kernel
theorem dX8_lacking_32 : decode cX8_lacking 32 = .ok (.isub, 1) := by decide +kernel
theorem dX8_lacking_33 : decode cX8_lacking 33 = .ok (.iconst 1, 1) := by decide +kernel
theorem dX8_lacking_34 : decode cX8_lacking 34 = .ok (.iadd, 1) := by decide +kernel
theorem dX8_lacking_35 : decode cX8_lacking 35 = .ok (.imul, 1) := by decide +kernel
theorem dX8_lacking_36 : decode cX8_lacking 36 = .ok (.aload_n 0, 1) := by decide +kernel
theorem dX8_lacking_37 : decode cX8_lacking 37 = .ok (.iload 4, 2) := by decide +kernel
theorem dX8_lacking_39 : decode cX8_lacking 39 = .ok (.iload 5, 2) := by decide +kernel
theorem dX8_lacking_41 : decode cX8_lacking 41 = .ok (.invokevirtual 273, 3) := by decide +kernel
theorem dX8_lacking_44 : decode cX8_lacking 44 = .ok (.isub, 1) := by decide +kernel
theorem dX8_lacking_45 : decode cX8_lacking 45 = .ok (.invokestatic 287, 3) := by decide +kernel
theorem dX8_lacking_48 : decode cX8_lacking 48 = .ok (.iadd, 1) := by decide +kernel
theorem dX8_lacking_49 : decode cX8_lacking 49 = .ok (.istore_n 3, 1) := by decide +kernel
theorem dX8_lacking_50 : decode cX8_lacking 50 = .ok (.iload 5, 2) := by decide +kernel
theorem dX8_lacking_52 : decode cX8_lacking 52 = .ok (.istore 4, 2) := by decide +kernel
theorem dX8_lacking_54 : decode cX8_lacking 54 = .ok (.iinc 4 1, 3) := by decide +kernel
theorem dX8_lacking_57 : decode cX8_lacking 57 = .ok (.goto (-52), 3) := by decide +kernel
theorem dX8_lacking_60 : decode cX8_lacking 60 = .ok (.iload_n 3, 1) := by decide +kernel
theorem dX8_lacking_61 : decode cX8_lacking 61 = .ok (.ireturn, 1) := by decide +kernel
theorem dX8_noForce_0 : decode cX8_noForce 0 = .ok (.aload_n 0, 1) := by decide +kernel
theorem dX8_noForce_1 : decode cX8_noForce 1 = .ok (.iconst 0, 1) := by decide +kernel
theorem dX8_noForce_2 : decode cX8_noForce 2 = .ok (.putfield 57, 3) := by decide +kernel
theorem dX8_noForce_5 : decode cX8_noForce 5 = .ok (.aload_n 0, 1) := by decide +kernel
theorem dX8_noForce_6 : decode cX8_noForce 6 = .ok (.iload_n 1, 1) := by decide +kernel
theorem dX8_noForce_7 : decode cX8_noForce 7 = .ok (.iconst 1, 1) := by decide +kernel
theorem dX8_noForce_8 : decode cX8_noForce 8 = .ok (.bipush 99, 2) := by decide +kernel
theorem dX8_noForce_10 : decode cX8_noForce 10 = .ok (.invokestatic 60, 3) := by decide +kernel
theorem dX8_noForce_13 : decode cX8_noForce 13 = .ok (.ifCond .ne 7, 3) := by decide +kernel
theorem dX8_noForce_16 : decode cX8_noForce 16 = .ok (.iconst 1, 1) := by decide +kernel
theorem dX8_noForce_17 : decode cX8_noForce 17 = .ok (.goto 4, 3) := by decide +kernel
theorem dX8_noForce_20 : decode cX8_noForce 20 = .ok (.iconst 0, 1) := by decide +kernel
theorem dX8_noForce_21 : decode cX8_noForce 21 = .ok (.iconst 1, 1) := by decide +kernel
theorem dX8_noForce_22 : decode cX8_noForce 22 = .ok (.invokevirtual 64, 3) := by decide +kernel
theorem dX8_noForce_25 : decode cX8_noForce 25 = .ok (.ireturn, 1) := by decide +kernel
theorem dX8_lacks_0 : decode cX8_lacks 0 = .ok (.aload_n 0, 1) := by decide +kernel
theorem dX8_lacks_1 : decode cX8_lacks 1 = .ok (.iload_n 1, 1) := by decide +kernel
theorem dX8_lacks_2 : decode cX8_lacks 2 = .ok (.invokevirtual 292, 3) := by decide +kernel
theorem dX8_lacks_5 : decode cX8_lacks 5 = .ok (.ifCond .eq 7, 3) := by decide +kernel
theorem dX8_lacks_8 : decode cX8_lacks 8 = .ok (.iconst 0, 1) := by decide +kernel
theorem dX8_lacks_9 : decode cX8_lacks 9 = .ok (.goto 12, 3) := by decide +kernel
theorem dX8_lacks_12 : decode cX8_lacks 12 = .ok (.aload_n 0, 1) := by decide +kernel
theorem dX8_lacks_13 : decode cX8_lacks 13 = .ok (.iload_n 1, 1) := by decide +kernel
theorem dX8_lacks_14 : decode cX8_lacks 14 = .ok (.aload_n 0, 1) := by decide +kernel
theorem dX8_lacks_15 : decode cX8_lacks 15 = .ok (.invokevirtual 249, 3) := by decide +kernel
theorem dX8_lacks_18 : decode cX8_lacks 18 = .ok (.invokevirtual 295, 3) := by decide +kernel
theorem dX8_lacks_21 : decode cX8_lacks 21 = .ok (.ireturn, 1) := by decide +kernel
theorem dX8_lengths_0 : decode cX8_lengths 0 = .ok (.iconst 0, 1) := by decide +kernel
theorem dX8_lengths_1 : decode cX8_lengths 1 = .ok (.istore_n 2, 1) := by decide +kernel
theorem dX8_lengths_2 : decode cX8_lengths 2 = .ok (.iconst 0, 1) := by decide +kernel
theorem dX8_lengths_3 : decode cX8_lengths 3 = .ok (.istore_n 3, 1) := by decide +kernel
theorem dX8_lengths_4 : decode cX8_lengths 4 = .ok (.iload_n 3, 1) := by decide +kernel
theorem dX8_lengths_5 : decode cX8_lengths 5 = .ok (.bipush 9, 2) := by decide +kernel
theorem dX8_lengths_7 : decode cX8_lengths 7 = .ok (.if_icmp .ge 29, 3) := by decide +kernel
theorem dX8_lengths_10 : decode cX8_lengths 10 = .ok (.iload_n 2, 1) := by decide +kernel
theorem dX8_lengths_11 : decode cX8_lengths 11 = .ok (.iload_n 1, 1) := by decide +kernel
theorem dX8_lengths_12 : decode cX8_lengths 12 = .ok (.iload_n 3, 1) := by decide +kernel
theorem dX8_lengths_13 : decode cX8_lengths 13 = .ok (.invokestatic 176, 3) := by decide +kernel
theorem dX8_lengths_16 : decode cX8_lengths 16 = .ok (.ifCond .eq 11, 3) := by decide +kernel
theorem dX8_lengths_19 : decode cX8_lengths 19 = .ok (.aload_n 0, 1) := by decide +kernel
theorem dX8_lengths_20 : decode cX8_lengths 20 = .ok (.iload_n 3, 1) := by decide +kernel
theorem dX8_lengths_21 : decode cX8_lengths 21 = .ok (.invokevirtual 261, 3) := by decide +kernel
theorem dX8_lengths_24 : decode cX8_lengths 24 = .ok (.goto 4, 3) := by decide +kernel
theorem dX8_lengths_27 : decode cX8_lengths 27 = .ok (.iconst 0, 1) := by decide +kernel
theorem dX8_lengths_28 : decode cX8_lengths 28 = .ok (.iadd, 1) := by decide +kernel
theorem dX8_lengths_29 : decode cX8_lengths 29 = .ok (.istore_n 2, 1) := by decide +kernel
theorem dX8_lengths_30 : decode cX8_lengths 30 = .ok (.iinc 3 1, 3) := by decide +kernel
theorem dX8_lengths_33 : decode cX8_lengths 33 = .ok (.goto (-29), 3) := by decide +kernel
theorem dX8_lengths_36 : decode cX8_lengths 36 = .ok (.iload_n 2, 1) := by decide +kernel
theorem dX8_lengths_37 : decode cX8_lengths 37 = .ok (.ireturn, 1) := by decide +kernel
theorem dX8_planOf_0 : decode cX8_planOf 0 = .ok (.aload_n 0, 1) := by decide +kernel
theorem dX8_planOf_1 : decode cX8_planOf 1 = .ok (.invokevirtual 249, 3) := by decide +kernel
theorem dX8_planOf_4 : decode cX8_planOf 4 = .ok (.istore_n 2, 1) := by decide +kernel
theorem dX8_planOf_5 : decode cX8_planOf 5 = .ok (.iconst (-1), 1) := by decide +kernel
theorem dX8_planOf_6 : decode cX8_planOf 6 = .ok (.istore_n 3, 1) := by decide +kernel
theorem dX8_planOf_7 : decode cX8_planOf 7 = .ok (.iconst 0, 1) := by decide +kernel
theorem dX8_planOf_8 : decode cX8_planOf 8 = .ok (.istore 4, 2) := by decide +kernel
theorem dX8_planOf_10 : decode cX8_planOf 10 = .ok (.iload 4, 2) := by decide +kernel
theorem dX8_planOf_12 : decode cX8_planOf 12 = .ok (.sipush 512, 3) := by decide +kernel
theorem dX8_planOf_15 : decode cX8_planOf 15 = .ok (.if_icmp .ge 114, 3) := by decide +kernel
theorem dX8_planOf_18 : decode cX8_planOf 18 = .ok (.iload 4, 2) := by decide +kernel
theorem dX8_planOf_20 : decode cX8_planOf 20 = .ok (.iload_n 2, 1) := by decide +kernel
theorem dX8_planOf_21 : decode cX8_planOf 21 = .ok (.iconst (-1), 1) := by decide +kernel
theorem dX8_planOf_22 : decode cX8_planOf 22 = .ok (.ixor, 1) := by decide +kernel
theorem dX8_planOf_23 : decode cX8_planOf 23 = .ok (.iand, 1) := by decide +kernel
theorem dX8_planOf_24 : decode cX8_planOf 24 = .ok (.ifCond .ne 99, 3) := by decide +kernel
theorem dX8_planOf_27 : decode cX8_planOf 27 = .ok (.aload_n 0, 1) := by decide +kernel
theorem dX8_planOf_28 : decode cX8_planOf 28 = .ok (.iload 4, 2) := by decide +kernel
theorem dX8_planOf_30 : decode cX8_planOf 30 = .ok (.invokevirtual 298, 3) := by decide +kernel
theorem dX8_planOf_33 : decode cX8_planOf 33 = .ok (.aload_n 0, 1) := by decide +kernel
theorem dX8_planOf_34 : decode cX8_planOf 34 = .ok (.getfield 7, 3) := by decide +kernel
theorem dX8_planOf_37 : decode cX8_planOf 37 = .ok (.iconst 4, 1) := by decide +kernel
theorem dX8_planOf_38 : decode cX8_planOf 38 = .ok (.iaload, 1) := by decide +kernel
theorem dX8_planOf_39 : decode cX8_planOf 39 = .ok (.if_icmp .gt 84, 3) := by decide +kernel
theorem dX8_planOf_42 : decode cX8_planOf 42 = .ok (.aload_n 0, 1) := by decide +kernel
theorem dX8_planOf_43 : decode cX8_planOf 43 = .ok (.iload_n 1, 1) := by decide +kernel
theorem dX8_planOf_44 : decode cX8_planOf 44 = .ok (.iload_n 2, 1) := by decide +kernel
theorem dX8_planOf_45 : decode cX8_planOf 45 = .ok (.iload 4, 2) := by decide +kernel
theorem dX8_planOf_47 : decode cX8_planOf 47 = .ok (.iconst (-1), 1) := by decide +kernel
theorem dX8_planOf_48 : decode cX8_planOf 48 = .ok (.ixor, 1) := by decide +kernel
theorem dX8_planOf_49 : decode cX8_planOf 49 = .ok (.iand, 1) := by decide +kernel
theorem dX8_planOf_50 : decode cX8_planOf 50 = .ok (.invokevirtual 295, 3) := by decide +kernel
theorem dX8_planOf_53 : decode cX8_planOf 53 = .ok (.ifCond .le 6, 3) := by decide +kernel
theorem dX8_planOf_56 : decode cX8_planOf 56 = .ok (.goto 67, 3) := by decide +kernel
theorem dX8_planOf_59 : decode cX8_planOf 59 = .ok (.iload_n 3, 1) := by decide +kernel
theorem dX8_planOf_60 : decode cX8_planOf 60 = .ok (.iconst (-1), 1) := by decide +kernel
theorem dX8_planOf_61 : decode cX8_planOf 61 = .ok (.if_icmp .eq 43, 3) := by decide +kernel
theorem dX8_planOf_64 : decode cX8_planOf 64 = .ok (.aload_n 0, 1) := by decide +kernel
theorem dX8_planOf_65 : decode cX8_planOf 65 = .ok (.iload 4, 2) := by decide +kernel
theorem dX8_planOf_67 : decode cX8_planOf 67 = .ok (.invokevirtual 298, 3) := by decide +kernel
theorem dX8_planOf_70 : decode cX8_planOf 70 = .ok (.aload_n 0, 1) := by decide +kernel
theorem dX8_planOf_71 : decode cX8_planOf 71 = .ok (.iload_n 3, 1) := by decide +kernel
theorem dX8_planOf_72 : decode cX8_planOf 72 = .ok (.invokevirtual 298, 3) := by decide +kernel
theorem dX8_planOf_75 : decode cX8_planOf 75 = .ok (.if_icmp .lt 29, 3) := by decide +kernel
theorem dX8_planOf_78 : decode cX8_planOf 78 = .ok (.aload_n 0, 1) := by decide +kernel
theorem dX8_planOf_79 : decode cX8_planOf 79 = .ok (.iload 4, 2) := by decide +kernel
theorem dX8_planOf_81 : decode cX8_planOf 81 = .ok (.invokevirtual 298, 3) := by decide +kernel
theorem dX8_planOf_84 : decode cX8_planOf 84 = .ok (.aload_n 0, 1) := by decide +kernel
theorem dX8_planOf_85 : decode cX8_planOf 85 = .ok (.iload_n 3, 1) := by decide +kernel
theorem dX8_planOf_86 : decode cX8_planOf 86 = .ok (.invokevirtual 298, 3) := by decide +kernel
theorem dX8_planOf_89 : decode cX8_planOf 89 = .ok (.if_icmp .ne 19, 3) := by decide +kernel
theorem dX8_planOf_92 : decode cX8_planOf 92 = .ok (.iload 4, 2) := by decide +kernel
theorem dX8_planOf_94 : decode cX8_planOf 94 = .ok (.invokestatic 243, 3) := by decide +kernel
theorem dX8_planOf_97 : decode cX8_planOf 97 = .ok (.iload_n 3, 1) := by decide +kernel
theorem dX8_planOf_98 : decode cX8_planOf 98 = .ok (.invokestatic 243, 3) := by decide +kernel
theorem dX8_planOf_101 : decode cX8_planOf 101 = .ok (.if_icmp .ge 7, 3) := by decide +kernel
theorem dX8_planOf_104 : decode cX8_planOf 104 = .ok (.iconst 1, 1) := by decide +kernel
theorem dX8_planOf_105 : decode cX8_planOf 105 = .ok (.goto 4, 3) := by decide +kernel
theorem dX8_planOf_108 : decode cX8_planOf 108 = .ok (.iconst 0, 1) := by decide +kernel
theorem dX8_planOf_109 : decode cX8_planOf 109 = .ok (.istore 5, 2) := by decide +kernel
theorem dX8_planOf_111 : decode cX8_planOf 111 = .ok (.iload 5, 2) := by decide +kernel
theorem dX8_planOf_113 : decode cX8_planOf 113 = .ok (.ifCond .eq 8, 3) := by decide +kernel
theorem dX8_planOf_116 : decode cX8_planOf 116 = .ok (.iload 4, 2) := by decide +kernel
theorem dX8_planOf_118 : decode cX8_planOf 118 = .ok (.goto 4, 3) := by decide +kernel
theorem dX8_planOf_121 : decode cX8_planOf 121 = .ok (.iload_n 3, 1) := by decide +kernel
theorem dX8_planOf_122 : decode cX8_planOf 122 = .ok (.istore_n 3, 1) := by decide +kernel
theorem dX8_planOf_123 : decode cX8_planOf 123 = .ok (.iinc 4 1, 3) := by decide +kernel
theorem dX8_planOf_126 : decode cX8_planOf 126 = .ok (.goto (-116), 3) := by decide +kernel
theorem dX8_planOf_129 : decode cX8_planOf 129 = .ok (.iload_n 3, 1) := by decide +kernel
theorem dX8_planOf_130 : decode cX8_planOf 130 = .ok (.ireturn, 1) := by decide +kernel
theorem dX8_plan_0 : decode cX8_plan 0 = .ok (.aload_n 0, 1) := by decide +kernel
theorem dX8_plan_1 : decode cX8_plan 1 = .ok (.iload_n 1, 1) := by decide +kernel
theorem dX8_plan_2 : decode cX8_plan 2 = .ok (.invokevirtual 292, 3) := by decide +kernel
theorem dX8_plan_5 : decode cX8_plan 5 = .ok (.ifCond .eq 7, 3) := by decide +kernel
theorem dX8_plan_8 : decode cX8_plan 8 = .ok (.iconst 0, 1) := by decide +kernel
theorem dX8_plan_9 : decode cX8_plan 9 = .ok (.goto 8, 3) := by decide +kernel
theorem dX8_plan_12 : decode cX8_plan 12 = .ok (.aload_n 0, 1) := by decide +kernel
theorem dX8_plan_13 : decode cX8_plan 13 = .ok (.iload_n 1, 1) := by decide +kernel
theorem dX8_plan_14 : decode cX8_plan 14 = .ok (.invokevirtual 301, 3) := by decide +kernel
theorem dX8_plan_17 : decode cX8_plan 17 = .ok (.ireturn, 1) := by decide +kernel
theorem dX8_planLength_0 : decode cX8_planLength 0 = .ok (.aload_n 0, 1) := by decide +kernel
theorem dX8_planLength_1 : decode cX8_planLength 1 = .ok (.iload_n 1, 1) := by decide +kernel
theorem dX8_planLength_2 : decode cX8_planLength 2 = .ok (.invokevirtual 292, 3) := by decide +kernel
theorem dX8_planLength_5 : decode cX8_planLength 5 = .ok (.ifCond .eq 5, 3) := by decide +kernel
theorem dX8_planLength_8 : decode cX8_planLength 8 = .ok (.iconst 0, 1) := by decide +kernel
theorem dX8_planLength_9 : decode cX8_planLength 9 = .ok (.ireturn, 1) := by decide +kernel
theorem dX8_planLength_10 : decode cX8_planLength 10 = .ok (.aload_n 0, 1) := by decide +kernel
theorem dX8_planLength_11 : decode cX8_planLength 11 = .ok (.iload_n 1, 1) := by decide +kernel
theorem dX8_planLength_12 : decode cX8_planLength 12 = .ok (.invokevirtual 301, 3) := by decide +kernel
theorem dX8_planLength_15 : decode cX8_planLength 15 = .ok (.istore_n 2, 1) := by decide +kernel
theorem dX8_planLength_16 : decode cX8_planLength 16 = .ok (.iload_n 2, 1) := by decide +kernel
theorem dX8_planLength_17 : decode cX8_planLength 17 = .ok (.iconst (-1), 1) := by decide +kernel
theorem dX8_planLength_18 : decode cX8_planLength 18 = .ok (.if_icmp .ne 7, 3) := by decide +kernel
theorem dX8_planLength_21 : decode cX8_planLength 21 = .ok (.iconst (-1), 1) := by decide +kernel
theorem dX8_planLength_22 : decode cX8_planLength 22 = .ok (.goto 8, 3) := by decide +kernel
theorem dX8_planLength_25 : decode cX8_planLength 25 = .ok (.aload_n 0, 1) := by decide +kernel
theorem dX8_planLength_26 : decode cX8_planLength 26 = .ok (.iload_n 2, 1) := by decide +kernel
theorem dX8_planLength_27 : decode cX8_planLength 27 = .ok (.invokevirtual 298, 3) := by decide +kernel
theorem dX8_planLength_30 : decode cX8_planLength 30 = .ok (.ireturn, 1) := by decide +kernel
theorem dX8_keeps_0 : decode cX8_keeps 0 = .ok (.aload_n 0, 1) := by decide +kernel
theorem dX8_keeps_1 : decode cX8_keeps 1 = .ok (.getfield 173, 3) := by decide +kernel
theorem dX8_keeps_4 : decode cX8_keeps 4 = .ok (.bipush 8, 2) := by decide +kernel
theorem dX8_keeps_6 : decode cX8_keeps 6 = .ok (.if_icmp .ne 52, 3) := by decide +kernel
theorem dX8_keeps_9 : decode cX8_keeps 9 = .ok (.aload_n 0, 1) := by decide +kernel
theorem dX8_keeps_10 : decode cX8_keeps 10 = .ok (.dup, 1) := by decide +kernel
theorem dX8_keeps_11 : decode cX8_keeps 11 = .ok (.getfield 173, 3) := by decide +kernel
theorem dX8_keeps_14 : decode cX8_keeps 14 = .ok (.iconst 1, 1) := by decide +kernel
theorem dX8_keeps_15 : decode cX8_keeps 15 = .ok (.isub, 1) := by decide +kernel
theorem dX8_keeps_16 : decode cX8_keeps 16 = .ok (.putfield 173, 3) := by decide +kernel
theorem dX8_keeps_19 : decode cX8_keeps 19 = .ok (.iconst 0, 1) := by decide +kernel
theorem dX8_keeps_20 : decode cX8_keeps 20 = .ok (.istore_n 1, 1) := by decide +kernel
theorem dX8_keeps_21 : decode cX8_keeps 21 = .ok (.iload_n 1, 1) := by decide +kernel
theorem dX8_keeps_22 : decode cX8_keeps 22 = .ok (.aload_n 0, 1) := by decide +kernel
theorem dX8_keeps_23 : decode cX8_keeps 23 = .ok (.getfield 173, 3) := by decide +kernel
theorem dX8_keeps_26 : decode cX8_keeps 26 = .ok (.if_icmp .ge 32, 3) := by decide +kernel
theorem dX8_keeps_29 : decode cX8_keeps 29 = .ok (.aload_n 0, 1) := by decide +kernel
theorem dX8_keeps_30 : decode cX8_keeps 30 = .ok (.getfield 19, 3) := by decide +kernel
theorem dX8_keeps_33 : decode cX8_keeps 33 = .ok (.sipush 574, 3) := by decide +kernel
theorem dX8_keeps_36 : decode cX8_keeps 36 = .ok (.iload_n 1, 1) := by decide +kernel
theorem dX8_keeps_37 : decode cX8_keeps 37 = .ok (.iconst 1, 1) := by decide +kernel
theorem dX8_keeps_38 : decode cX8_keeps 38 = .ok (.iadd, 1) := by decide +kernel
theorem dX8_keeps_39 : decode cX8_keeps 39 = .ok (.imul, 1) := by decide +kernel
theorem dX8_keeps_40 : decode cX8_keeps 40 = .ok (.aload_n 0, 1) := by decide +kernel
theorem dX8_keeps_41 : decode cX8_keeps 41 = .ok (.getfield 19, 3) := by decide +kernel
theorem dX8_keeps_44 : decode cX8_keeps 44 = .ok (.sipush 574, 3) := by decide +kernel
theorem dX8_keeps_47 : decode cX8_keeps 47 = .ok (.iload_n 1, 1) := by decide +kernel
theorem dX8_keeps_48 : decode cX8_keeps 48 = .ok (.imul, 1) := by decide +kernel
theorem dX8_keeps_49 : decode cX8_keeps 49 = .ok (.invokestatic 169, 3) := by decide +kernel
theorem dX8_keeps_52 : decode cX8_keeps 52 = .ok (.iinc 1 1, 3) := by decide +kernel
theorem dX8_keeps_55 : decode cX8_keeps 55 = .ok (.goto (-34), 3) := by decide +kernel
theorem dX8_keeps_58 : decode cX8_keeps 58 = .ok (.aload_n 0, 1) := by decide +kernel
theorem dX8_keeps_59 : decode cX8_keeps 59 = .ok (.getfield 7, 3) := by decide +kernel
theorem dX8_keeps_62 : decode cX8_keeps 62 = .ok (.iconst 0, 1) := by decide +kernel
theorem dX8_keeps_63 : decode cX8_keeps 63 = .ok (.aload_n 0, 1) := by decide +kernel
theorem dX8_keeps_64 : decode cX8_keeps 64 = .ok (.getfield 19, 3) := by decide +kernel
theorem dX8_keeps_67 : decode cX8_keeps 67 = .ok (.sipush 574, 3) := by decide +kernel
theorem dX8_keeps_70 : decode cX8_keeps 70 = .ok (.aload_n 0, 1) := by decide +kernel
theorem dX8_keeps_71 : decode cX8_keeps 71 = .ok (.getfield 173, 3) := by decide +kernel
theorem dX8_keeps_74 : decode cX8_keeps 74 = .ok (.imul, 1) := by decide +kernel
theorem dX8_keeps_75 : decode cX8_keeps 75 = .ok (.invokestatic 169, 3) := by decide +kernel
theorem dX8_keeps_78 : decode cX8_keeps 78 = .ok (.aload_n 0, 1) := by decide +kernel
theorem dX8_keeps_79 : decode cX8_keeps 79 = .ok (.dup, 1) := by decide +kernel
theorem dX8_keeps_80 : decode cX8_keeps 80 = .ok (.getfield 173, 3) := by decide +kernel
theorem dX8_keeps_83 : decode cX8_keeps 83 = .ok (.iconst 1, 1) := by decide +kernel
theorem dX8_keeps_84 : decode cX8_keeps 84 = .ok (.iadd, 1) := by decide +kernel
theorem dX8_keeps_85 : decode cX8_keeps 85 = .ok (.putfield 173, 3) := by decide +kernel
theorem dX8_keeps_88 : decode cX8_keeps 88 = .ok (.aload_n 0, 1) := by decide +kernel
theorem dX8_keeps_89 : decode cX8_keeps 89 = .ok (.getfield 29, 3) := by decide +kernel
theorem dX8_keeps_92 : decode cX8_keeps 92 = .ok (.iconst 0, 1) := by decide +kernel
theorem dX8_keeps_93 : decode cX8_keeps 93 = .ok (.dup2, 1) := by decide +kernel
theorem dX8_keeps_94 : decode cX8_keeps 94 = .ok (.iaload, 1) := by decide +kernel
theorem dX8_keeps_95 : decode cX8_keeps 95 = .ok (.iconst 1, 1) := by decide +kernel
theorem dX8_keeps_96 : decode cX8_keeps 96 = .ok (.iadd, 1) := by decide +kernel
theorem dX8_keeps_97 : decode cX8_keeps 97 = .ok (.iastore, 1) := by decide +kernel
theorem dX8_keeps_98 : decode cX8_keeps 98 = .ok (.return_, 1) := by decide +kernel
theorem dX8_refused_0 : decode cX8_refused 0 = .ok (.aload_n 0, 1) := by decide +kernel
theorem dX8_refused_1 : decode cX8_refused 1 = .ok (.getfield 29, 3) := by decide +kernel
theorem dX8_refused_4 : decode cX8_refused 4 = .ok (.iload_n 1, 1) := by decide +kernel
theorem dX8_refused_5 : decode cX8_refused 5 = .ok (.dup2, 1) := by decide +kernel
theorem dX8_refused_6 : decode cX8_refused 6 = .ok (.iaload, 1) := by decide +kernel
theorem dX8_refused_7 : decode cX8_refused 7 = .ok (.iconst 1, 1) := by decide +kernel
theorem dX8_refused_8 : decode cX8_refused 8 = .ok (.iadd, 1) := by decide +kernel
theorem dX8_refused_9 : decode cX8_refused 9 = .ok (.iastore, 1) := by decide +kernel
theorem dX8_refused_10 : decode cX8_refused 10 = .ok (.iload_n 1, 1) := by decide +kernel
theorem dX8_refused_11 : decode cX8_refused 11 = .ok (.ineg, 1) := by decide +kernel
theorem dX8_refused_12 : decode cX8_refused 12 = .ok (.ireturn, 1) := by decide +kernel
theorem dX8_reports_0 : decode cX8_reports 0 = .ok (.aload_n 0, 1) := by decide +kernel
theorem dX8_reports_1 : decode cX8_reports 1 = .ok (.invokevirtual 304, 3) := by decide +kernel
theorem dX8_reports_4 : decode cX8_reports 4 = .ok (.aload_n 0, 1) := by decide +kernel
theorem dX8_reports_5 : decode cX8_reports 5 = .ok (.getfield 7, 3) := by decide +kernel
theorem dX8_reports_8 : decode cX8_reports 8 = .ok (.bipush 92, 2) := by decide +kernel
theorem dX8_reports_10 : decode cX8_reports 10 = .ok (.iload_n 1, 1) := by decide +kernel
theorem dX8_reports_11 : decode cX8_reports 11 = .ok (.iadd, 1) := by decide +kernel
theorem dX8_reports_12 : decode cX8_reports 12 = .ok (.iconst 1, 1) := by decide +kernel
theorem dX8_reports_13 : decode cX8_reports 13 = .ok (.iastore, 1) := by decide +kernel
theorem dX8_reports_14 : decode cX8_reports 14 = .ok (.aload_n 0, 1) := by decide +kernel
theorem dX8_reports_15 : decode cX8_reports 15 = .ok (.getfield 7, 3) := by decide +kernel
theorem dX8_reports_18 : decode cX8_reports 18 = .ok (.bipush 102, 2) := by decide +kernel
theorem dX8_reports_20 : decode cX8_reports 20 = .ok (.iload_n 1, 1) := by decide +kernel
theorem dX8_reports_21 : decode cX8_reports 21 = .ok (.iadd, 1) := by decide +kernel
theorem dX8_reports_22 : decode cX8_reports 22 = .ok (.iload_n 2, 1) := by decide +kernel
theorem dX8_reports_23 : decode cX8_reports 23 = .ok (.iastore, 1) := by decide +kernel
theorem dX8_reports_24 : decode cX8_reports 24 = .ok (.aload_n 0, 1) := by decide +kernel
theorem dX8_reports_25 : decode cX8_reports 25 = .ok (.iconst (-1), 1) := by decide +kernel
theorem dX8_reports_26 : decode cX8_reports 26 = .ok (.invokevirtual 225, 3) := by decide +kernel
theorem dX8_reports_29 : decode cX8_reports 29 = .ok (.invokestatic 243, 3) := by decide +kernel
theorem dX8_reports_32 : decode cX8_reports 32 = .ok (.ireturn, 1) := by decide +kernel
theorem dX8_report_0 : decode cX8_report 0 = .ok (.aload_n 0, 1) := by decide +kernel
theorem dX8_report_1 : decode cX8_report 1 = .ok (.iconst 0, 1) := by decide +kernel
theorem dX8_report_2 : decode cX8_report 2 = .ok (.putfield 57, 3) := by decide +kernel
theorem dX8_report_5 : decode cX8_report 5 = .ok (.aload_n 0, 1) := by decide +kernel
theorem dX8_report_6 : decode cX8_report 6 = .ok (.iload_n 1, 1) := by decide +kernel
theorem dX8_report_7 : decode cX8_report 7 = .ok (.invokevirtual 255, 3) := by decide +kernel
theorem dX8_report_10 : decode cX8_report 10 = .ok (.ifCond .ne 29, 3) := by decide +kernel
theorem dX8_report_13 : decode cX8_report 13 = .ok (.aload_n 0, 1) := by decide +kernel
theorem dX8_report_14 : decode cX8_report 14 = .ok (.iload_n 2, 1) := by decide +kernel
theorem dX8_report_15 : decode cX8_report 15 = .ok (.sipush (-9999), 3) := by decide +kernel
theorem dX8_report_18 : decode cX8_report 18 = .ok (.sipush 9999, 3) := by decide +kernel
theorem dX8_report_21 : decode cX8_report 21 = .ok (.invokestatic 60, 3) := by decide +kernel
theorem dX8_report_24 : decode cX8_report 24 = .ok (.ifCond .ne 7, 3) := by decide +kernel
theorem dX8_report_27 : decode cX8_report 27 = .ok (.iconst 1, 1) := by decide +kernel
theorem dX8_report_28 : decode cX8_report 28 = .ok (.goto 4, 3) := by decide +kernel
theorem dX8_report_31 : decode cX8_report 31 = .ok (.iconst 0, 1) := by decide +kernel
theorem dX8_report_32 : decode cX8_report 32 = .ok (.iconst 2, 1) := by decide +kernel
theorem dX8_report_33 : decode cX8_report 33 = .ok (.invokevirtual 64, 3) := by decide +kernel
theorem dX8_report_36 : decode cX8_report 36 = .ok (.ifCond .eq 7, 3) := by decide +kernel
theorem dX8_report_39 : decode cX8_report 39 = .ok (.iconst 0, 1) := by decide +kernel
theorem dX8_report_40 : decode cX8_report 40 = .ok (.goto 9, 3) := by decide +kernel
theorem dX8_report_43 : decode cX8_report 43 = .ok (.aload_n 0, 1) := by decide +kernel
theorem dX8_report_44 : decode cX8_report 44 = .ok (.iload_n 1, 1) := by decide +kernel
theorem dX8_report_45 : decode cX8_report 45 = .ok (.iload_n 2, 1) := by decide +kernel
theorem dX8_report_46 : decode cX8_report 46 = .ok (.invokevirtual 307, 3) := by decide +kernel
theorem dX8_report_49 : decode cX8_report 49 = .ok (.ireturn, 1) := by decide +kernel
theorem dX8_endsHour_0 : decode cX8_endsHour 0 = .ok (.aload_n 0, 1) := by decide +kernel
theorem dX8_endsHour_1 : decode cX8_endsHour 1 = .ok (.invokevirtual 304, 3) := by decide +kernel
theorem dX8_endsHour_4 : decode cX8_endsHour 4 = .ok (.aload_n 0, 1) := by decide +kernel
theorem dX8_endsHour_5 : decode cX8_endsHour 5 = .ok (.invokevirtual 310, 3) := by decide +kernel
theorem dX8_endsHour_8 : decode cX8_endsHour 8 = .ok (.ireturn, 1) := by decide +kernel
theorem dX8_endHour_0 : decode cX8_endHour 0 = .ok (.aload_n 0, 1) := by decide +kernel
theorem dX8_endHour_1 : decode cX8_endHour 1 = .ok (.iconst 0, 1) := by decide +kernel
theorem dX8_endHour_2 : decode cX8_endHour 2 = .ok (.putfield 57, 3) := by decide +kernel
theorem dX8_endHour_5 : decode cX8_endHour 5 = .ok (.aload_n 0, 1) := by decide +kernel
theorem dX8_endHour_6 : decode cX8_endHour 6 = .ok (.invokevirtual 313, 3) := by decide +kernel
theorem dX8_endHour_9 : decode cX8_endHour 9 = .ok (.ireturn, 1) := by decide +kernel
theorem dX8_storms_0 : decode cX8_storms 0 = .ok (.aload_n 0, 1) := by decide +kernel
theorem dX8_storms_1 : decode cX8_storms 1 = .ok (.invokevirtual 304, 3) := by decide +kernel
theorem dX8_storms_4 : decode cX8_storms 4 = .ok (.aload_n 0, 1) := by decide +kernel
theorem dX8_storms_5 : decode cX8_storms 5 = .ok (.iload_n 1, 1) := by decide +kernel
theorem dX8_storms_6 : decode cX8_storms 6 = .ok (.iload_n 2, 1) := by decide +kernel
theorem dX8_storms_7 : decode cX8_storms 7 = .ok (.iload_n 3, 1) := by decide +kernel
theorem dX8_storms_8 : decode cX8_storms 8 = .ok (.invokevirtual 279, 3) := by decide +kernel
theorem dX8_storms_11 : decode cX8_storms 11 = .ok (.istore 4, 2) := by decide +kernel
theorem dX8_storms_13 : decode cX8_storms 13 = .ok (.iload_n 2, 1) := by decide +kernel
theorem dX8_storms_14 : decode cX8_storms 14 = .ok (.istore 5, 2) := by decide +kernel
theorem dX8_storms_16 : decode cX8_storms 16 = .ok (.iload 5, 2) := by decide +kernel
theorem dX8_storms_18 : decode cX8_storms 18 = .ok (.iload_n 3, 1) := by decide +kernel
theorem dX8_storms_19 : decode cX8_storms 19 = .ok (.if_icmp .ge 77, 3) := by decide +kernel
theorem dX8_storms_22 : decode cX8_storms 22 = .ok (.aload_n 0, 1) := by decide +kernel
theorem dX8_storms_23 : decode cX8_storms 23 = .ok (.getfield 7, 3) := by decide +kernel
theorem dX8_storms_26 : decode cX8_storms 26 = .ok (.bipush 122, 2) := by decide +kernel
theorem dX8_storms_28 : decode cX8_storms 28 = .ok (.iload 5, 2) := by decide +kernel
theorem dX8_storms_30 : decode cX8_storms 30 = .ok (.iadd, 1) := by decide +kernel
theorem dX8_storms_31 : decode cX8_storms 31 = .ok (.dup2, 1) := by decide +kernel
theorem dX8_storms_32 : decode cX8_storms 32 = .ok (.iaload, 1) := by decide +kernel
theorem dX8_storms_33 : decode cX8_storms 33 = .ok (.aload_n 0, 1) := by decide +kernel
theorem dX8_storms_34 : decode cX8_storms 34 = .ok (.getfield 7, 3) := by decide +kernel
theorem dX8_storms_37 : decode cX8_storms 37 = .ok (.sipush 132, 3) := by decide +kernel
theorem dX8_storms_40 : decode cX8_storms 40 = .ok (.iload 5, 2) := by decide +kernel
theorem dX8_storms_42 : decode cX8_storms 42 = .ok (.iadd, 1) := by decide +kernel
theorem dX8_storms_43 : decode cX8_storms 43 = .ok (.iaload, 1) := by decide +kernel
theorem dX8_storms_44 : decode cX8_storms 44 = .ok (.ifCond .ne 7, 3) := by decide +kernel
theorem dX8_storms_47 : decode cX8_storms 47 = .ok (.iload_n 1, 1) := by decide +kernel
theorem dX8_storms_48 : decode cX8_storms 48 = .ok (.goto 4, 3) := by decide +kernel
theorem dX8_storms_51 : decode cX8_storms 51 = .ok (.iconst 0, 1) := by decide +kernel
theorem dX8_storms_52 : decode cX8_storms 52 = .ok (.iadd, 1) := by decide +kernel
theorem dX8_storms_53 : decode cX8_storms 53 = .ok (.iastore, 1) := by decide +kernel
theorem dX8_storms_54 : decode cX8_storms 54 = .ok (.aload_n 0, 1) := by decide +kernel
theorem dX8_storms_55 : decode cX8_storms 55 = .ok (.getfield 7, 3) := by decide +kernel
theorem dX8_storms_58 : decode cX8_storms 58 = .ok (.sipush 132, 3) := by decide +kernel
theorem dX8_storms_61 : decode cX8_storms 61 = .ok (.iload 5, 2) := by decide +kernel
theorem dX8_storms_63 : decode cX8_storms 63 = .ok (.iadd, 1) := by decide +kernel
theorem dX8_storms_64 : decode cX8_storms 64 = .ok (.iload 4, 2) := by decide +kernel
theorem dX8_storms_66 : decode cX8_storms 66 = .ok (.iload 5, 2) := by decide +kernel
theorem dX8_storms_68 : decode cX8_storms 68 = .ok (.invokestatic 176, 3) := by decide +kernel
theorem dX8_storms_71 : decode cX8_storms 71 = .ok (.ifCond .eq 7, 3) := by decide +kernel
theorem dX8_storms_74 : decode cX8_storms 74 = .ok (.iconst 1, 1) := by decide +kernel
theorem dX8_storms_75 : decode cX8_storms 75 = .ok (.goto 14, 3) := by decide +kernel
theorem dX8_storms_78 : decode cX8_storms 78 = .ok (.aload_n 0, 1) := by decide +kernel
theorem dX8_storms_79 : decode cX8_storms 79 = .ok (.getfield 7, 3) := by decide +kernel
theorem dX8_storms_82 : decode cX8_storms 82 = .ok (.sipush 132, 3) := by decide +kernel
theorem dX8_storms_85 : decode cX8_storms 85 = .ok (.iload 5, 2) := by decide +kernel
theorem dX8_storms_87 : decode cX8_storms 87 = .ok (.iadd, 1) := by decide +kernel
theorem dX8_storms_88 : decode cX8_storms 88 = .ok (.iaload, 1) := by decide +kernel
theorem dX8_storms_89 : decode cX8_storms 89 = .ok (.iastore, 1) := by decide +kernel
theorem dX8_storms_90 : decode cX8_storms 90 = .ok (.iinc 5 1, 3) := by decide +kernel
theorem dX8_storms_93 : decode cX8_storms 93 = .ok (.goto (-77), 3) := by decide +kernel
theorem dX8_storms_96 : decode cX8_storms 96 = .ok (.aload_n 0, 1) := by decide +kernel
theorem dX8_storms_97 : decode cX8_storms 97 = .ok (.iload_n 1, 1) := by decide +kernel
theorem dX8_storms_98 : decode cX8_storms 98 = .ok (.iload_n 2, 1) := by decide +kernel
theorem dX8_storms_99 : decode cX8_storms 99 = .ok (.iload_n 3, 1) := by decide +kernel
theorem dX8_storms_100 : decode cX8_storms 100 = .ok (.aload_n 0, 1) := by decide +kernel
theorem dX8_storms_101 : decode cX8_storms 101 = .ok (.invokevirtual 249, 3) := by decide +kernel
theorem dX8_storms_104 : decode cX8_storms 104 = .ok (.invokevirtual 283, 3) := by decide +kernel
theorem dX8_storms_107 : decode cX8_storms 107 = .ok (.istore 5, 2) := by decide +kernel
theorem dX8_storms_109 : decode cX8_storms 109 = .ok (.iconst 0, 1) := by decide +kernel
theorem dX8_storms_110 : decode cX8_storms 110 = .ok (.istore 6, 2) := by decide +kernel
theorem dX8_storms_112 : decode cX8_storms 112 = .ok (.iload 6, 2) := by decide +kernel
theorem dX8_storms_114 : decode cX8_storms 114 = .ok (.aload_n 0, 1) := by decide +kernel
theorem dX8_storms_115 : decode cX8_storms 115 = .ok (.getfield 7, 3) := by decide +kernel
theorem dX8_storms_118 : decode cX8_storms 118 = .ok (.iconst 0, 1) := by decide +kernel
theorem dX8_storms_119 : decode cX8_storms 119 = .ok (.iaload, 1) := by decide +kernel
theorem dX8_storms_120 : decode cX8_storms 120 = .ok (.if_icmp .ge 39, 3) := by decide +kernel
theorem dX8_storms_123 : decode cX8_storms 123 = .ok (.iload 5, 2) := by decide +kernel
theorem dX8_storms_125 : decode cX8_storms 125 = .ok (.iload 6, 2) := by decide +kernel
theorem dX8_storms_127 : decode cX8_storms 127 = .ok (.invokestatic 176, 3) := by decide +kernel
theorem dX8_storms_130 : decode cX8_storms 130 = .ok (.ifCond .eq 23, 3) := by decide +kernel
theorem dX8_storms_133 : decode cX8_storms 133 = .ok (.aload_n 0, 1) := by decide +kernel
theorem dX8_storms_134 : decode cX8_storms 134 = .ok (.getfield 7, 3) := by decide +kernel
theorem dX8_storms_137 : decode cX8_storms 137 = .ok (.bipush 52, 2) := by decide +kernel
theorem dX8_storms_139 : decode cX8_storms 139 = .ok (.iload 6, 2) := by decide +kernel
theorem dX8_storms_141 : decode cX8_storms 141 = .ok (.iadd, 1) := by decide +kernel
theorem dX8_storms_142 : decode cX8_storms 142 = .ok (.iaload, 1) := by decide +kernel
theorem dX8_storms_143 : decode cX8_storms 143 = .ok (.iconst 2, 1) := by decide +kernel
theorem dX8_storms_144 : decode cX8_storms 144 = .ok (.if_icmp .eq 9, 3) := by decide +kernel
theorem dX8_storms_147 : decode cX8_storms 147 = .ok (.aload_n 0, 1) := by decide +kernel
theorem dX8_storms_148 : decode cX8_storms 148 = .ok (.iload 6, 2) := by decide +kernel
theorem dX8_storms_150 : decode cX8_storms 150 = .ok (.invokevirtual 316, 3) := by decide +kernel
theorem dX8_storms_153 : decode cX8_storms 153 = .ok (.iinc 6 1, 3) := by decide +kernel
theorem dX8_storms_156 : decode cX8_storms 156 = .ok (.goto (-44), 3) := by decide +kernel
theorem dX8_storms_159 : decode cX8_storms 159 = .ok (.aload_n 0, 1) := by decide +kernel
theorem dX8_storms_160 : decode cX8_storms 160 = .ok (.getfield 7, 3) := by decide +kernel
theorem dX8_storms_163 : decode cX8_storms 163 = .ok (.bipush 7, 2) := by decide +kernel
theorem dX8_storms_165 : decode cX8_storms 165 = .ok (.dup2, 1) := by decide +kernel
theorem dX8_storms_166 : decode cX8_storms 166 = .ok (.iaload, 1) := by decide +kernel
theorem dX8_storms_167 : decode cX8_storms 167 = .ok (.iconst 1, 1) := by decide +kernel
theorem dX8_storms_168 : decode cX8_storms 168 = .ok (.iadd, 1) := by decide +kernel
theorem dX8_storms_169 : decode cX8_storms 169 = .ok (.iastore, 1) := by decide +kernel
theorem dX8_storms_170 : decode cX8_storms 170 = .ok (.iload 5, 2) := by decide +kernel
theorem dX8_storms_172 : decode cX8_storms 172 = .ok (.ireturn, 1) := by decide +kernel
theorem dX8_suspects_0 : decode cX8_suspects 0 = .ok (.aload_n 0, 1) := by decide +kernel
theorem dX8_suspects_1 : decode cX8_suspects 1 = .ok (.getfield 7, 3) := by decide +kernel
theorem dX8_suspects_4 : decode cX8_suspects 4 = .ok (.bipush 52, 2) := by decide +kernel
theorem dX8_suspects_6 : decode cX8_suspects 6 = .ok (.iload_n 1, 1) := by decide +kernel
theorem dX8_suspects_7 : decode cX8_suspects 7 = .ok (.iadd, 1) := by decide +kernel
theorem dX8_suspects_8 : decode cX8_suspects 8 = .ok (.iconst 1, 1) := by decide +kernel
theorem dX8_suspects_9 : decode cX8_suspects 9 = .ok (.iastore, 1) := by decide +kernel
theorem dX8_suspects_10 : decode cX8_suspects 10 = .ok (.aload_n 0, 1) := by decide +kernel
theorem dX8_suspects_11 : decode cX8_suspects 11 = .ok (.getfield 7, 3) := by decide +kernel
theorem dX8_suspects_14 : decode cX8_suspects 14 = .ok (.bipush 62, 2) := by decide +kernel
theorem dX8_suspects_16 : decode cX8_suspects 16 = .ok (.iload_n 1, 1) := by decide +kernel
theorem dX8_suspects_17 : decode cX8_suspects 17 = .ok (.iadd, 1) := by decide +kernel
theorem dX8_suspects_18 : decode cX8_suspects 18 = .ok (.iconst 0, 1) := by decide +kernel
theorem dX8_suspects_19 : decode cX8_suspects 19 = .ok (.iastore, 1) := by decide +kernel
theorem dX8_suspects_20 : decode cX8_suspects 20 = .ok (.aload_n 0, 1) := by decide +kernel
theorem dX8_suspects_21 : decode cX8_suspects 21 = .ok (.getfield 7, 3) := by decide +kernel
theorem dX8_suspects_24 : decode cX8_suspects 24 = .ok (.bipush 72, 2) := by decide +kernel
theorem dX8_suspects_26 : decode cX8_suspects 26 = .ok (.iload_n 1, 1) := by decide +kernel
theorem dX8_suspects_27 : decode cX8_suspects 27 = .ok (.iadd, 1) := by decide +kernel
theorem dX8_suspects_28 : decode cX8_suspects 28 = .ok (.iconst 0, 1) := by decide +kernel
theorem dX8_suspects_29 : decode cX8_suspects 29 = .ok (.iastore, 1) := by decide +kernel
theorem dX8_suspects_30 : decode cX8_suspects 30 = .ok (.aload_n 0, 1) := by decide +kernel
theorem dX8_suspects_31 : decode cX8_suspects 31 = .ok (.getfield 7, 3) := by decide +kernel
theorem dX8_suspects_34 : decode cX8_suspects 34 = .ok (.bipush 82, 2) := by decide +kernel
theorem dX8_suspects_36 : decode cX8_suspects 36 = .ok (.iload_n 1, 1) := by decide +kernel
theorem dX8_suspects_37 : decode cX8_suspects 37 = .ok (.iadd, 1) := by decide +kernel
theorem dX8_suspects_38 : decode cX8_suspects 38 = .ok (.iconst (-1), 1) := by decide +kernel
theorem dX8_suspects_39 : decode cX8_suspects 39 = .ok (.iastore, 1) := by decide +kernel
theorem dX8_suspects_40 : decode cX8_suspects 40 = .ok (.return_, 1) := by decide +kernel
theorem dX8_storm_0 : decode cX8_storm 0 = .ok (.aload_n 0, 1) := by decide +kernel
theorem dX8_storm_1 : decode cX8_storm 1 = .ok (.iconst 0, 1) := by decide +kernel
theorem dX8_storm_2 : decode cX8_storm 2 = .ok (.putfield 57, 3) := by decide +kernel
theorem dX8_storm_5 : decode cX8_storm 5 = .ok (.aload_n 0, 1) := by decide +kernel
theorem dX8_storm_6 : decode cX8_storm 6 = .ok (.iload_n 1, 1) := by decide +kernel
theorem dX8_storm_7 : decode cX8_storm 7 = .ok (.iload_n 2, 1) := by decide +kernel
theorem dX8_storm_8 : decode cX8_storm 8 = .ok (.iload_n 3, 1) := by decide +kernel
theorem dX8_storm_9 : decode cX8_storm 9 = .ok (.invokevirtual 276, 3) := by decide +kernel
theorem dX8_storm_12 : decode cX8_storm 12 = .ok (.ifCond .eq 7, 3) := by decide +kernel
theorem dX8_storm_15 : decode cX8_storm 15 = .ok (.iconst 0, 1) := by decide +kernel
theorem dX8_storm_16 : decode cX8_storm 16 = .ok (.goto 10, 3) := by decide +kernel
theorem dX8_storm_19 : decode cX8_storm 19 = .ok (.aload_n 0, 1) := by decide +kernel
theorem dX8_storm_20 : decode cX8_storm 20 = .ok (.iload_n 1, 1) := by decide +kernel
theorem dX8_storm_21 : decode cX8_storm 21 = .ok (.iload_n 2, 1) := by decide +kernel
theorem dX8_storm_22 : decode cX8_storm 22 = .ok (.iload_n 3, 1) := by decide +kernel
theorem dX8_storm_23 : decode cX8_storm 23 = .ok (.invokevirtual 319, 3) := by decide +kernel
theorem dX8_storm_26 : decode cX8_storm 26 = .ok (.ireturn, 1) := by decide +kernel
theorem dX8_renews_0 : decode cX8_renews 0 = .ok (.aload_n 0, 1) := by decide +kernel
theorem dX8_renews_1 : decode cX8_renews 1 = .ok (.getfield 7, 3) := by decide +kernel
theorem dX8_renews_4 : decode cX8_renews 4 = .ok (.iconst 4, 1) := by decide +kernel
theorem dX8_renews_5 : decode cX8_renews 5 = .ok (.dup2, 1) := by decide +kernel
theorem dX8_renews_6 : decode cX8_renews 6 = .ok (.iaload, 1) := by decide +kernel
theorem dX8_renews_7 : decode cX8_renews 7 = .ok (.aload_n 0, 1) := by decide +kernel
theorem dX8_renews_8 : decode cX8_renews 8 = .ok (.iload_n 1, 1) := by decide +kernel
theorem dX8_renews_9 : decode cX8_renews 9 = .ok (.invokevirtual 261, 3) := by decide +kernel
theorem dX8_renews_12 : decode cX8_renews 12 = .ok (.isub, 1) := by decide +kernel
theorem dX8_renews_13 : decode cX8_renews 13 = .ok (.iastore, 1) := by decide +kernel
theorem dX8_renews_14 : decode cX8_renews 14 = .ok (.aload_n 0, 1) := by decide +kernel
theorem dX8_renews_15 : decode cX8_renews 15 = .ok (.getfield 7, 3) := by decide +kernel
theorem dX8_renews_18 : decode cX8_renews 18 = .ok (.bipush 10, 2) := by decide +kernel
theorem dX8_renews_20 : decode cX8_renews 20 = .ok (.dup2, 1) := by decide +kernel
theorem dX8_renews_21 : decode cX8_renews 21 = .ok (.iaload, 1) := by decide +kernel
theorem dX8_renews_22 : decode cX8_renews 22 = .ok (.aload_n 0, 1) := by decide +kernel
theorem dX8_renews_23 : decode cX8_renews 23 = .ok (.iload_n 1, 1) := by decide +kernel
theorem dX8_renews_24 : decode cX8_renews 24 = .ok (.invokevirtual 261, 3) := by decide +kernel
theorem dX8_renews_27 : decode cX8_renews 27 = .ok (.iadd, 1) := by decide +kernel
theorem dX8_renews_28 : decode cX8_renews 28 = .ok (.iastore, 1) := by decide +kernel
theorem dX8_renews_29 : decode cX8_renews 29 = .ok (.aload_n 0, 1) := by decide +kernel
theorem dX8_renews_30 : decode cX8_renews 30 = .ok (.getfield 7, 3) := by decide +kernel
theorem dX8_renews_33 : decode cX8_renews 33 = .ok (.sipush 132, 3) := by decide +kernel
theorem dX8_renews_36 : decode cX8_renews 36 = .ok (.iload_n 1, 1) := by decide +kernel
theorem dX8_renews_37 : decode cX8_renews 37 = .ok (.iadd, 1) := by decide +kernel
theorem dX8_renews_38 : decode cX8_renews 38 = .ok (.iconst 0, 1) := by decide +kernel
theorem dX8_renews_39 : decode cX8_renews 39 = .ok (.iastore, 1) := by decide +kernel
theorem dX8_renews_40 : decode cX8_renews 40 = .ok (.aload_n 0, 1) := by decide +kernel
theorem dX8_renews_41 : decode cX8_renews 41 = .ok (.getfield 7, 3) := by decide +kernel
theorem dX8_renews_44 : decode cX8_renews 44 = .ok (.bipush 122, 2) := by decide +kernel
theorem dX8_renews_46 : decode cX8_renews 46 = .ok (.iload_n 1, 1) := by decide +kernel
theorem dX8_renews_47 : decode cX8_renews 47 = .ok (.iadd, 1) := by decide +kernel
theorem dX8_renews_48 : decode cX8_renews 48 = .ok (.iconst 0, 1) := by decide +kernel
theorem dX8_renews_49 : decode cX8_renews 49 = .ok (.iastore, 1) := by decide +kernel
theorem dX8_renews_50 : decode cX8_renews 50 = .ok (.return_, 1) := by decide +kernel
theorem dX8_remakes_0 : decode cX8_remakes 0 = .ok (.aload_n 0, 1) := by decide +kernel
theorem dX8_remakes_1 : decode cX8_remakes 1 = .ok (.getfield 7, 3) := by decide +kernel
theorem dX8_remakes_4 : decode cX8_remakes 4 = .ok (.sipush 132, 3) := by decide +kernel
theorem dX8_remakes_7 : decode cX8_remakes 7 = .ok (.iload_n 1, 1) := by decide +kernel
theorem dX8_remakes_8 : decode cX8_remakes 8 = .ok (.iadd, 1) := by decide +kernel
theorem dX8_remakes_9 : decode cX8_remakes 9 = .ok (.iaload, 1) := by decide +kernel
theorem dX8_remakes_10 : decode cX8_remakes 10 = .ok (.ifCond .ne 21, 3) := by decide +kernel
theorem dX8_remakes_13 : decode cX8_remakes 13 = .ok (.aload_n 0, 1) := by decide +kernel
theorem dX8_remakes_14 : decode cX8_remakes 14 = .ok (.getfield 7, 3) := by decide +kernel
theorem dX8_remakes_17 : decode cX8_remakes 17 = .ok (.bipush 122, 2) := by decide +kernel
theorem dX8_remakes_19 : decode cX8_remakes 19 = .ok (.iload_n 1, 1) := by decide +kernel
theorem dX8_remakes_20 : decode cX8_remakes 20 = .ok (.iadd, 1) := by decide +kernel
theorem dX8_remakes_21 : decode cX8_remakes 21 = .ok (.iaload, 1) := by decide +kernel
theorem dX8_remakes_22 : decode cX8_remakes 22 = .ok (.ifCond .ne 9, 3) := by decide +kernel
theorem dX8_remakes_25 : decode cX8_remakes 25 = .ok (.aload_n 0, 1) := by decide +kernel
theorem dX8_remakes_26 : decode cX8_remakes 26 = .ok (.iconst 1, 1) := by decide +kernel
theorem dX8_remakes_27 : decode cX8_remakes 27 = .ok (.invokevirtual 322, 3) := by decide +kernel
theorem dX8_remakes_30 : decode cX8_remakes 30 = .ok (.ireturn, 1) := by decide +kernel
theorem dX8_remakes_31 : decode cX8_remakes 31 = .ok (.aload_n 0, 1) := by decide +kernel
theorem dX8_remakes_32 : decode cX8_remakes 32 = .ok (.iload_n 1, 1) := by decide +kernel
theorem dX8_remakes_33 : decode cX8_remakes 33 = .ok (.invokevirtual 261, 3) := by decide +kernel
theorem dX8_remakes_36 : decode cX8_remakes 36 = .ok (.aload_n 0, 1) := by decide +kernel
theorem dX8_remakes_37 : decode cX8_remakes 37 = .ok (.getfield 7, 3) := by decide +kernel
theorem dX8_remakes_40 : decode cX8_remakes 40 = .ok (.iconst 4, 1) := by decide +kernel
theorem dX8_remakes_41 : decode cX8_remakes 41 = .ok (.iaload, 1) := by decide +kernel
theorem dX8_remakes_42 : decode cX8_remakes 42 = .ok (.if_icmp .le 9, 3) := by decide +kernel
theorem dX8_remakes_45 : decode cX8_remakes 45 = .ok (.aload_n 0, 1) := by decide +kernel
theorem dX8_remakes_46 : decode cX8_remakes 46 = .ok (.iconst 2, 1) := by decide +kernel
theorem dX8_remakes_47 : decode cX8_remakes 47 = .ok (.invokevirtual 322, 3) := by decide +kernel
theorem dX8_remakes_50 : decode cX8_remakes 50 = .ok (.ireturn, 1) := by decide +kernel
theorem dX8_remakes_51 : decode cX8_remakes 51 = .ok (.aload_n 0, 1) := by decide +kernel
theorem dX8_remakes_52 : decode cX8_remakes 52 = .ok (.invokevirtual 304, 3) := by decide +kernel
theorem dX8_remakes_55 : decode cX8_remakes 55 = .ok (.aload_n 0, 1) := by decide +kernel
theorem dX8_remakes_56 : decode cX8_remakes 56 = .ok (.iload_n 1, 1) := by decide +kernel
theorem dX8_remakes_57 : decode cX8_remakes 57 = .ok (.invokevirtual 325, 3) := by decide +kernel
theorem dX8_remakes_60 : decode cX8_remakes 60 = .ok (.aload_n 0, 1) := by decide +kernel
theorem dX8_remakes_61 : decode cX8_remakes 61 = .ok (.getfield 7, 3) := by decide +kernel
theorem dX8_remakes_64 : decode cX8_remakes 64 = .ok (.iconst 4, 1) := by decide +kernel
theorem dX8_remakes_65 : decode cX8_remakes 65 = .ok (.iaload, 1) := by decide +kernel
theorem dX8_remakes_66 : decode cX8_remakes 66 = .ok (.ireturn, 1) := by decide +kernel
theorem dX8_remake_0 : decode cX8_remake 0 = .ok (.aload_n 0, 1) := by decide +kernel
theorem dX8_remake_1 : decode cX8_remake 1 = .ok (.iconst 0, 1) := by decide +kernel
theorem dX8_remake_2 : decode cX8_remake 2 = .ok (.putfield 57, 3) := by decide +kernel
theorem dX8_remake_5 : decode cX8_remake 5 = .ok (.aload_n 0, 1) := by decide +kernel
theorem dX8_remake_6 : decode cX8_remake 6 = .ok (.iload_n 1, 1) := by decide +kernel
theorem dX8_remake_7 : decode cX8_remake 7 = .ok (.invokevirtual 258, 3) := by decide +kernel
theorem dX8_remake_10 : decode cX8_remake 10 = .ok (.ifCond .eq 7, 3) := by decide +kernel
theorem dX8_remake_13 : decode cX8_remake 13 = .ok (.iconst 0, 1) := by decide +kernel
theorem dX8_remake_14 : decode cX8_remake 14 = .ok (.goto 8, 3) := by decide +kernel
theorem dX8_remake_17 : decode cX8_remake 17 = .ok (.aload_n 0, 1) := by decide +kernel
theorem dX8_remake_18 : decode cX8_remake 18 = .ok (.iload_n 1, 1) := by decide +kernel
theorem dX8_remake_19 : decode cX8_remake 19 = .ok (.invokevirtual 328, 3) := by decide +kernel
theorem dX8_remake_22 : decode cX8_remake 22 = .ok (.ireturn, 1) := by decide +kernel
theorem dX8_remakesBy_0 : decode cX8_remakesBy 0 = .ok (.aload_n 0, 1) := by decide +kernel
theorem dX8_remakesBy_1 : decode cX8_remakesBy 1 = .ok (.iload_n 1, 1) := by decide +kernel
theorem dX8_remakesBy_2 : decode cX8_remakesBy 2 = .ok (.invokevirtual 301, 3) := by decide +kernel
theorem dX8_remakesBy_5 : decode cX8_remakesBy 5 = .ok (.istore_n 2, 1) := by decide +kernel
theorem dX8_remakesBy_6 : decode cX8_remakesBy 6 = .ok (.iload_n 2, 1) := by decide +kernel
theorem dX8_remakesBy_7 : decode cX8_remakesBy 7 = .ok (.iconst (-1), 1) := by decide +kernel
theorem dX8_remakesBy_8 : decode cX8_remakesBy 8 = .ok (.if_icmp .ne 9, 3) := by decide +kernel
theorem dX8_remakesBy_11 : decode cX8_remakesBy 11 = .ok (.aload_n 0, 1) := by decide +kernel
theorem dX8_remakesBy_12 : decode cX8_remakesBy 12 = .ok (.iconst 3, 1) := by decide +kernel
theorem dX8_remakesBy_13 : decode cX8_remakesBy 13 = .ok (.invokevirtual 322, 3) := by decide +kernel
theorem dX8_remakesBy_16 : decode cX8_remakesBy 16 = .ok (.ireturn, 1) := by decide +kernel
theorem dX8_remakesBy_17 : decode cX8_remakesBy 17 = .ok (.aload_n 0, 1) := by decide +kernel
theorem dX8_remakesBy_18 : decode cX8_remakesBy 18 = .ok (.invokevirtual 304, 3) := by decide +kernel
theorem dX8_remakesBy_21 : decode cX8_remakesBy 21 = .ok (.iconst 0, 1) := by decide +kernel
theorem dX8_remakesBy_22 : decode cX8_remakesBy 22 = .ok (.istore_n 3, 1) := by decide +kernel
theorem dX8_remakesBy_23 : decode cX8_remakesBy 23 = .ok (.iload_n 3, 1) := by decide +kernel
theorem dX8_remakesBy_24 : decode cX8_remakesBy 24 = .ok (.bipush 9, 2) := by decide +kernel
theorem dX8_remakesBy_26 : decode cX8_remakesBy 26 = .ok (.if_icmp .ge 22, 3) := by decide +kernel
theorem dX8_remakesBy_29 : decode cX8_remakesBy 29 = .ok (.iload_n 2, 1) := by decide +kernel
theorem dX8_remakesBy_30 : decode cX8_remakesBy 30 = .ok (.iload_n 3, 1) := by decide +kernel
theorem dX8_remakesBy_31 : decode cX8_remakesBy 31 = .ok (.invokestatic 176, 3) := by decide +kernel
theorem dX8_remakesBy_34 : decode cX8_remakesBy 34 = .ok (.ifCond .eq 8, 3) := by decide +kernel
theorem dX8_remakesBy_37 : decode cX8_remakesBy 37 = .ok (.aload_n 0, 1) := by decide +kernel
theorem dX8_remakesBy_38 : decode cX8_remakesBy 38 = .ok (.iload_n 3, 1) := by decide +kernel
theorem dX8_remakesBy_39 : decode cX8_remakesBy 39 = .ok (.invokevirtual 325, 3) := by decide +kernel
theorem dX8_remakesBy_42 : decode cX8_remakesBy 42 = .ok (.iinc 3 1, 3) := by decide +kernel
theorem dX8_remakesBy_45 : decode cX8_remakesBy 45 = .ok (.goto (-22), 3) := by decide +kernel
theorem dX8_remakesBy_48 : decode cX8_remakesBy 48 = .ok (.iload_n 2, 1) := by decide +kernel
theorem dX8_remakesBy_49 : decode cX8_remakesBy 49 = .ok (.invokestatic 243, 3) := by decide +kernel
theorem dX8_remakesBy_52 : decode cX8_remakesBy 52 = .ok (.ireturn, 1) := by decide +kernel
theorem dX8_remakeBy_0 : decode cX8_remakeBy 0 = .ok (.aload_n 0, 1) := by decide +kernel
theorem dX8_remakeBy_1 : decode cX8_remakeBy 1 = .ok (.iload_n 1, 1) := by decide +kernel
theorem dX8_remakeBy_2 : decode cX8_remakeBy 2 = .ok (.invokevirtual 292, 3) := by decide +kernel
theorem dX8_remakeBy_5 : decode cX8_remakeBy 5 = .ok (.ifCond .eq 7, 3) := by decide +kernel
theorem dX8_remakeBy_8 : decode cX8_remakeBy 8 = .ok (.iconst 0, 1) := by decide +kernel
theorem dX8_remakeBy_9 : decode cX8_remakeBy 9 = .ok (.goto 8, 3) := by decide +kernel
theorem dX8_remakeBy_12 : decode cX8_remakeBy 12 = .ok (.aload_n 0, 1) := by decide +kernel
theorem dX8_remakeBy_13 : decode cX8_remakeBy 13 = .ok (.iload_n 1, 1) := by decide +kernel
theorem dX8_remakeBy_14 : decode cX8_remakeBy 14 = .ok (.invokevirtual 331, 3) := by decide +kernel
theorem dX8_remakeBy_17 : decode cX8_remakeBy 17 = .ok (.ireturn, 1) := by decide +kernel
theorem dX8_hauls_0 : decode cX8_hauls 0 = .ok (.aload_n 0, 1) := by decide +kernel
theorem dX8_hauls_1 : decode cX8_hauls 1 = .ok (.getfield 7, 3) := by decide +kernel
theorem dX8_hauls_4 : decode cX8_hauls 4 = .ok (.bipush 52, 2) := by decide +kernel
theorem dX8_hauls_6 : decode cX8_hauls 6 = .ok (.iload_n 1, 1) := by decide +kernel
theorem dX8_hauls_7 : decode cX8_hauls 7 = .ok (.iadd, 1) := by decide +kernel
theorem dX8_hauls_8 : decode cX8_hauls 8 = .ok (.iaload, 1) := by decide +kernel
theorem dX8_hauls_9 : decode cX8_hauls 9 = .ok (.iconst 2, 1) := by decide +kernel
theorem dX8_hauls_10 : decode cX8_hauls 10 = .ok (.if_icmp .eq 9, 3) := by decide +kernel
theorem dX8_hauls_13 : decode cX8_hauls 13 = .ok (.aload_n 0, 1) := by decide +kernel
theorem dX8_hauls_14 : decode cX8_hauls 14 = .ok (.iconst 1, 1) := by decide +kernel
theorem dX8_hauls_15 : decode cX8_hauls 15 = .ok (.invokevirtual 322, 3) := by decide +kernel
theorem dX8_hauls_18 : decode cX8_hauls 18 = .ok (.ireturn, 1) := by decide +kernel
theorem dX8_hauls_19 : decode cX8_hauls 19 = .ok (.aload_n 0, 1) := by decide +kernel
theorem dX8_hauls_20 : decode cX8_hauls 20 = .ok (.invokevirtual 304, 3) := by decide +kernel
theorem dX8_hauls_23 : decode cX8_hauls 23 = .ok (.aload_n 0, 1) := by decide +kernel
theorem dX8_hauls_24 : decode cX8_hauls 24 = .ok (.iload_n 1, 1) := by decide +kernel
theorem dX8_hauls_25 : decode cX8_hauls 25 = .ok (.invokevirtual 316, 3) := by decide +kernel
theorem dX8_hauls_28 : decode cX8_hauls 28 = .ok (.aload_n 0, 1) := by decide +kernel
theorem dX8_hauls_29 : decode cX8_hauls 29 = .ok (.iconst 2, 1) := by decide +kernel
theorem dX8_hauls_30 : decode cX8_hauls 30 = .ok (.invokevirtual 246, 3) := by decide +kernel
theorem dX8_hauls_33 : decode cX8_hauls 33 = .ok (.ireturn, 1) := by decide +kernel
theorem dX8_haul_0 : decode cX8_haul 0 = .ok (.aload_n 0, 1) := by decide +kernel
theorem dX8_haul_1 : decode cX8_haul 1 = .ok (.iconst 0, 1) := by decide +kernel
theorem dX8_haul_2 : decode cX8_haul 2 = .ok (.putfield 57, 3) := by decide +kernel
theorem dX8_haul_5 : decode cX8_haul 5 = .ok (.aload_n 0, 1) := by decide +kernel
theorem dX8_haul_6 : decode cX8_haul 6 = .ok (.iload_n 1, 1) := by decide +kernel
theorem dX8_haul_7 : decode cX8_haul 7 = .ok (.invokevirtual 255, 3) := by decide +kernel
theorem dX8_haul_10 : decode cX8_haul 10 = .ok (.ifCond .eq 7, 3) := by decide +kernel
theorem dX8_haul_13 : decode cX8_haul 13 = .ok (.iconst 0, 1) := by decide +kernel
theorem dX8_haul_14 : decode cX8_haul 14 = .ok (.goto 8, 3) := by decide +kernel
theorem dX8_haul_17 : decode cX8_haul 17 = .ok (.aload_n 0, 1) := by decide +kernel
theorem dX8_haul_18 : decode cX8_haul 18 = .ok (.iload_n 1, 1) := by decide +kernel
theorem dX8_haul_19 : decode cX8_haul 19 = .ok (.invokevirtual 334, 3) := by decide +kernel
theorem dX8_haul_22 : decode cX8_haul 22 = .ok (.ireturn, 1) := by decide +kernel
theorem dX8_stocks_0 : decode cX8_stocks 0 = .ok (.aload_n 0, 1) := by decide +kernel
theorem dX8_stocks_1 : decode cX8_stocks 1 = .ok (.getfield 7, 3) := by decide +kernel
theorem dX8_stocks_4 : decode cX8_stocks 4 = .ok (.iconst 4, 1) := by decide +kernel
theorem dX8_stocks_5 : decode cX8_stocks 5 = .ok (.iaload, 1) := by decide +kernel
theorem dX8_stocks_6 : decode cX8_stocks 6 = .ok (.iload_n 1, 1) := by decide +kernel
theorem dX8_stocks_7 : decode cX8_stocks 7 = .ok (.iadd, 1) := by decide +kernel
theorem dX8_stocks_8 : decode cX8_stocks 8 = .ok (.ldc 157, 2) := by decide +kernel
theorem dX8_stocks_10 : decode cX8_stocks 10 = .ok (.if_icmp .le 9, 3) := by decide +kernel
theorem dX8_stocks_13 : decode cX8_stocks 13 = .ok (.aload_n 0, 1) := by decide +kernel
theorem dX8_stocks_14 : decode cX8_stocks 14 = .ok (.iconst 4, 1) := by decide +kernel
theorem dX8_stocks_15 : decode cX8_stocks 15 = .ok (.invokevirtual 322, 3) := by decide +kernel
theorem dX8_stocks_18 : decode cX8_stocks 18 = .ok (.ireturn, 1) := by decide +kernel
theorem dX8_stocks_19 : decode cX8_stocks 19 = .ok (.aload_n 0, 1) := by decide +kernel
theorem dX8_stocks_20 : decode cX8_stocks 20 = .ok (.invokevirtual 304, 3) := by decide +kernel
theorem dX8_stocks_23 : decode cX8_stocks 23 = .ok (.aload_n 0, 1) := by decide +kernel
theorem dX8_stocks_24 : decode cX8_stocks 24 = .ok (.getfield 7, 3) := by decide +kernel
theorem dX8_stocks_27 : decode cX8_stocks 27 = .ok (.iconst 4, 1) := by decide +kernel
theorem dX8_stocks_28 : decode cX8_stocks 28 = .ok (.dup2, 1) := by decide +kernel
theorem dX8_stocks_29 : decode cX8_stocks 29 = .ok (.iaload, 1) := by decide +kernel
theorem dX8_stocks_30 : decode cX8_stocks 30 = .ok (.iload_n 1, 1) := by decide +kernel
theorem dX8_stocks_31 : decode cX8_stocks 31 = .ok (.iadd, 1) := by decide +kernel
theorem dX8_stocks_32 : decode cX8_stocks 32 = .ok (.iastore, 1) := by decide +kernel
theorem dX8_stocks_33 : decode cX8_stocks 33 = .ok (.aload_n 0, 1) := by decide +kernel
theorem dX8_stocks_34 : decode cX8_stocks 34 = .ok (.getfield 7, 3) := by decide +kernel
theorem dX8_stocks_37 : decode cX8_stocks 37 = .ok (.bipush 9, 2) := by decide +kernel
theorem dX8_stocks_39 : decode cX8_stocks 39 = .ok (.dup2, 1) := by decide +kernel
theorem dX8_stocks_40 : decode cX8_stocks 40 = .ok (.iaload, 1) := by decide +kernel
theorem dX8_stocks_41 : decode cX8_stocks 41 = .ok (.iload_n 1, 1) := by decide +kernel
theorem dX8_stocks_42 : decode cX8_stocks 42 = .ok (.iadd, 1) := by decide +kernel
theorem dX8_stocks_43 : decode cX8_stocks 43 = .ok (.iastore, 1) := by decide +kernel
theorem dX8_stocks_44 : decode cX8_stocks 44 = .ok (.aload_n 0, 1) := by decide +kernel
theorem dX8_stocks_45 : decode cX8_stocks 45 = .ok (.getfield 7, 3) := by decide +kernel
theorem dX8_stocks_48 : decode cX8_stocks 48 = .ok (.iconst 4, 1) := by decide +kernel
theorem dX8_stocks_49 : decode cX8_stocks 49 = .ok (.iaload, 1) := by decide +kernel
theorem dX8_stocks_50 : decode cX8_stocks 50 = .ok (.ireturn, 1) := by decide +kernel
theorem dX8_addStock_0 : decode cX8_addStock 0 = .ok (.aload_n 0, 1) := by decide +kernel
theorem dX8_addStock_1 : decode cX8_addStock 1 = .ok (.iconst 0, 1) := by decide +kernel
theorem dX8_addStock_2 : decode cX8_addStock 2 = .ok (.putfield 57, 3) := by decide +kernel
theorem dX8_addStock_5 : decode cX8_addStock 5 = .ok (.aload_n 0, 1) := by decide +kernel
theorem dX8_addStock_6 : decode cX8_addStock 6 = .ok (.iload_n 1, 1) := by decide +kernel
theorem dX8_addStock_7 : decode cX8_addStock 7 = .ok (.iconst 1, 1) := by decide +kernel
theorem dX8_addStock_8 : decode cX8_addStock 8 = .ok (.sipush 9999, 3) := by decide +kernel
theorem dX8_addStock_11 : decode cX8_addStock 11 = .ok (.invokestatic 60, 3) := by decide +kernel
theorem dX8_addStock_14 : decode cX8_addStock 14 = .ok (.ifCond .ne 7, 3) := by decide +kernel
theorem dX8_addStock_17 : decode cX8_addStock 17 = .ok (.iconst 1, 1) := by decide +kernel
theorem dX8_addStock_18 : decode cX8_addStock 18 = .ok (.goto 4, 3) := by decide +kernel
theorem dX8_addStock_21 : decode cX8_addStock 21 = .ok (.iconst 0, 1) := by decide +kernel
theorem dX8_addStock_22 : decode cX8_addStock 22 = .ok (.iconst 1, 1) := by decide +kernel
theorem dX8_addStock_23 : decode cX8_addStock 23 = .ok (.invokevirtual 64, 3) := by decide +kernel
theorem dX8_addStock_26 : decode cX8_addStock 26 = .ok (.ifCond .eq 7, 3) := by decide +kernel
theorem dX8_addStock_29 : decode cX8_addStock 29 = .ok (.iconst 0, 1) := by decide +kernel
theorem dX8_addStock_30 : decode cX8_addStock 30 = .ok (.goto 8, 3) := by decide +kernel
theorem dX8_addStock_33 : decode cX8_addStock 33 = .ok (.aload_n 0, 1) := by decide +kernel
theorem dX8_addStock_34 : decode cX8_addStock 34 = .ok (.iload_n 1, 1) := by decide +kernel
theorem dX8_addStock_35 : decode cX8_addStock 35 = .ok (.invokevirtual 337, 3) := by decide +kernel
theorem dX8_addStock_38 : decode cX8_addStock 38 = .ok (.ireturn, 1) := by decide +kernel
theorem dX8_replaces_0 : decode cX8_replaces 0 = .ok (.aload_n 0, 1) := by decide +kernel
theorem dX8_replaces_1 : decode cX8_replaces 1 = .ok (.invokevirtual 304, 3) := by decide +kernel
theorem dX8_replaces_4 : decode cX8_replaces 4 = .ok (.aload_n 0, 1) := by decide +kernel
theorem dX8_replaces_5 : decode cX8_replaces 5 = .ok (.getfield 7, 3) := by decide +kernel
theorem dX8_replaces_8 : decode cX8_replaces 8 = .ok (.iload_n 1, 1) := by decide +kernel
theorem dX8_replaces_9 : decode cX8_replaces 9 = .ok (.iaload, 1) := by decide +kernel
theorem dX8_replaces_10 : decode cX8_replaces 10 = .ok (.istore_n 3, 1) := by decide +kernel
theorem dX8_replaces_11 : decode cX8_replaces 11 = .ok (.aload_n 0, 1) := by decide +kernel
theorem dX8_replaces_12 : decode cX8_replaces 12 = .ok (.getfield 7, 3) := by decide +kernel
theorem dX8_replaces_15 : decode cX8_replaces 15 = .ok (.iload_n 1, 1) := by decide +kernel
theorem dX8_replaces_16 : decode cX8_replaces 16 = .ok (.iload_n 2, 1) := by decide +kernel
theorem dX8_replaces_17 : decode cX8_replaces 17 = .ok (.iastore, 1) := by decide +kernel
theorem dX8_replaces_18 : decode cX8_replaces 18 = .ok (.iload_n 3, 1) := by decide +kernel
theorem dX8_replaces_19 : decode cX8_replaces 19 = .ok (.ireturn, 1) := by decide +kernel
theorem dX8_setOffset_0 : decode cX8_setOffset 0 = .ok (.aload_n 0, 1) := by decide +kernel
theorem dX8_setOffset_1 : decode cX8_setOffset 1 = .ok (.iconst 0, 1) := by decide +kernel
theorem dX8_setOffset_2 : decode cX8_setOffset 2 = .ok (.putfield 57, 3) := by decide +kernel
theorem dX8_setOffset_5 : decode cX8_setOffset 5 = .ok (.aload_n 0, 1) := by decide +kernel
theorem dX8_setOffset_6 : decode cX8_setOffset 6 = .ok (.iload_n 1, 1) := by decide +kernel
theorem dX8_setOffset_7 : decode cX8_setOffset 7 = .ok (.invokevirtual 255, 3) := by decide +kernel
theorem dX8_setOffset_10 : decode cX8_setOffset 10 = .ok (.ifCond .ne 27, 3) := by decide +kernel
theorem dX8_setOffset_13 : decode cX8_setOffset 13 = .ok (.aload_n 0, 1) := by decide +kernel
theorem dX8_setOffset_14 : decode cX8_setOffset 14 = .ok (.iload_n 2, 1) := by decide +kernel
theorem dX8_setOffset_15 : decode cX8_setOffset 15 = .ok (.bipush (-99), 2) := by decide +kernel
theorem dX8_setOffset_17 : decode cX8_setOffset 17 = .ok (.bipush 99, 2) := by decide +kernel
theorem dX8_setOffset_19 : decode cX8_setOffset 19 = .ok (.invokestatic 60, 3) := by decide +kernel
theorem dX8_setOffset_22 : decode cX8_setOffset 22 = .ok (.ifCond .ne 7, 3) := by decide +kernel
theorem dX8_setOffset_25 : decode cX8_setOffset 25 = .ok (.iconst 1, 1) := by decide +kernel
theorem dX8_setOffset_26 : decode cX8_setOffset 26 = .ok (.goto 4, 3) := by decide +kernel
theorem dX8_setOffset_29 : decode cX8_setOffset 29 = .ok (.iconst 0, 1) := by decide +kernel
theorem dX8_setOffset_30 : decode cX8_setOffset 30 = .ok (.iconst 2, 1) := by decide +kernel
theorem dX8_setOffset_31 : decode cX8_setOffset 31 = .ok (.invokevirtual 64, 3) := by decide +kernel
theorem dX8_setOffset_34 : decode cX8_setOffset 34 = .ok (.ifCond .eq 7, 3) := by decide +kernel
theorem dX8_setOffset_37 : decode cX8_setOffset 37 = .ok (.iconst 0, 1) := by decide +kernel
theorem dX8_setOffset_38 : decode cX8_setOffset 38 = .ok (.goto 15, 3) := by decide +kernel
theorem dX8_setOffset_41 : decode cX8_setOffset 41 = .ok (.aload_n 0, 1) := by decide +kernel
theorem dX8_setOffset_42 : decode cX8_setOffset 42 = .ok (.bipush 42, 2) := by decide +kernel
theorem dX8_setOffset_44 : decode cX8_setOffset 44 = .ok (.iload_n 1, 1) := by decide +kernel
theorem dX8_setOffset_45 : decode cX8_setOffset 45 = .ok (.iadd, 1) := by decide +kernel
theorem dX8_setOffset_46 : decode cX8_setOffset 46 = .ok (.iload_n 2, 1) := by decide +kernel
theorem dX8_setOffset_47 : decode cX8_setOffset 47 = .ok (.invokevirtual 340, 3) := by decide +kernel
theorem dX8_setOffset_50 : decode cX8_setOffset 50 = .ok (.bipush 99, 2) := by decide +kernel
theorem dX8_setOffset_52 : decode cX8_setOffset 52 = .ok (.iadd, 1) := by decide +kernel
theorem dX8_setOffset_53 : decode cX8_setOffset 53 = .ok (.ireturn, 1) := by decide +kernel
theorem dX8_setHold_0 : decode cX8_setHold 0 = .ok (.aload_n 0, 1) := by decide +kernel
theorem dX8_setHold_1 : decode cX8_setHold 1 = .ok (.iconst 0, 1) := by decide +kernel
theorem dX8_setHold_2 : decode cX8_setHold 2 = .ok (.putfield 57, 3) := by decide +kernel
theorem dX8_setHold_5 : decode cX8_setHold 5 = .ok (.aload_n 0, 1) := by decide +kernel
theorem dX8_setHold_6 : decode cX8_setHold 6 = .ok (.iload_n 1, 1) := by decide +kernel
theorem dX8_setHold_7 : decode cX8_setHold 7 = .ok (.invokevirtual 255, 3) := by decide +kernel
theorem dX8_setHold_10 : decode cX8_setHold 10 = .ok (.ifCond .ne 26, 3) := by decide +kernel
theorem dX8_setHold_13 : decode cX8_setHold 13 = .ok (.aload_n 0, 1) := by decide +kernel
theorem dX8_setHold_14 : decode cX8_setHold 14 = .ok (.iload_n 2, 1) := by decide +kernel
theorem dX8_setHold_15 : decode cX8_setHold 15 = .ok (.iconst 0, 1) := by decide +kernel
theorem dX8_setHold_16 : decode cX8_setHold 16 = .ok (.bipush 99, 2) := by decide +kernel
theorem dX8_setHold_18 : decode cX8_setHold 18 = .ok (.invokestatic 60, 3) := by decide +kernel
theorem dX8_setHold_21 : decode cX8_setHold 21 = .ok (.ifCond .ne 7, 3) := by decide +kernel
theorem dX8_setHold_24 : decode cX8_setHold 24 = .ok (.iconst 1, 1) := by decide +kernel
theorem dX8_setHold_25 : decode cX8_setHold 25 = .ok (.goto 4, 3) := by decide +kernel
theorem dX8_setHold_28 : decode cX8_setHold 28 = .ok (.iconst 0, 1) := by decide +kernel
theorem dX8_setHold_29 : decode cX8_setHold 29 = .ok (.iconst 2, 1) := by decide +kernel
theorem dX8_setHold_30 : decode cX8_setHold 30 = .ok (.invokevirtual 64, 3) := by decide +kernel
theorem dX8_setHold_33 : decode cX8_setHold 33 = .ok (.ifCond .eq 7, 3) := by decide +kernel
theorem dX8_setHold_36 : decode cX8_setHold 36 = .ok (.iconst 0, 1) := by decide +kernel
theorem dX8_setHold_37 : decode cX8_setHold 37 = .ok (.goto 12, 3) := by decide +kernel
theorem dX8_setHold_40 : decode cX8_setHold 40 = .ok (.aload_n 0, 1) := by decide +kernel
theorem dX8_setHold_41 : decode cX8_setHold 41 = .ok (.bipush 32, 2) := by decide +kernel
theorem dX8_setHold_43 : decode cX8_setHold 43 = .ok (.iload_n 1, 1) := by decide +kernel
theorem dX8_setHold_44 : decode cX8_setHold 44 = .ok (.iadd, 1) := by decide +kernel
theorem dX8_setHold_45 : decode cX8_setHold 45 = .ok (.iload_n 2, 1) := by decide +kernel
theorem dX8_setHold_46 : decode cX8_setHold 46 = .ok (.invokevirtual 340, 3) := by decide +kernel
theorem dX8_setHold_49 : decode cX8_setHold 49 = .ok (.ireturn, 1) := by decide +kernel
theorem dX8_setTerms_0 : decode cX8_setTerms 0 = .ok (.aload_n 0, 1) := by decide +kernel
theorem dX8_setTerms_1 : decode cX8_setTerms 1 = .ok (.iconst 0, 1) := by decide +kernel
theorem dX8_setTerms_2 : decode cX8_setTerms 2 = .ok (.putfield 57, 3) := by decide +kernel
theorem dX8_setTerms_5 : decode cX8_setTerms 5 = .ok (.aload_n 0, 1) := by decide +kernel
theorem dX8_setTerms_6 : decode cX8_setTerms 6 = .ok (.iload_n 1, 1) := by decide +kernel
theorem dX8_setTerms_7 : decode cX8_setTerms 7 = .ok (.iconst 0, 1) := by decide +kernel
theorem dX8_setTerms_8 : decode cX8_setTerms 8 = .ok (.sipush 999, 3) := by decide +kernel
theorem dX8_setTerms_11 : decode cX8_setTerms 11 = .ok (.invokestatic 60, 3) := by decide +kernel
theorem dX8_setTerms_14 : decode cX8_setTerms 14 = .ok (.ifCond .eq 23, 3) := by decide +kernel
theorem dX8_setTerms_17 : decode cX8_setTerms 17 = .ok (.iload_n 2, 1) := by decide +kernel
theorem dX8_setTerms_18 : decode cX8_setTerms 18 = .ok (.iconst 1, 1) := by decide +kernel
theorem dX8_setTerms_19 : decode cX8_setTerms 19 = .ok (.bipush 9, 2) := by decide +kernel
theorem dX8_setTerms_21 : decode cX8_setTerms 21 = .ok (.invokestatic 60, 3) := by decide +kernel
theorem dX8_setTerms_24 : decode cX8_setTerms 24 = .ok (.ifCond .eq 13, 3) := by decide +kernel
theorem dX8_setTerms_27 : decode cX8_setTerms 27 = .ok (.iload_n 3, 1) := by decide +kernel
theorem dX8_setTerms_28 : decode cX8_setTerms 28 = .ok (.iconst 1, 1) := by decide +kernel
theorem dX8_setTerms_29 : decode cX8_setTerms 29 = .ok (.bipush 9, 2) := by decide +kernel
theorem dX8_setTerms_31 : decode cX8_setTerms 31 = .ok (.invokestatic 60, 3) := by decide +kernel
theorem dX8_setTerms_34 : decode cX8_setTerms 34 = .ok (.ifCond .ne 7, 3) := by decide +kernel
theorem dX8_setTerms_37 : decode cX8_setTerms 37 = .ok (.iconst 1, 1) := by decide +kernel
theorem dX8_setTerms_38 : decode cX8_setTerms 38 = .ok (.goto 4, 3) := by decide +kernel
theorem dX8_setTerms_41 : decode cX8_setTerms 41 = .ok (.iconst 0, 1) := by decide +kernel
theorem dX8_setTerms_42 : decode cX8_setTerms 42 = .ok (.iconst 1, 1) := by decide +kernel
theorem dX8_setTerms_43 : decode cX8_setTerms 43 = .ok (.invokevirtual 64, 3) := by decide +kernel
theorem dX8_setTerms_46 : decode cX8_setTerms 46 = .ok (.ifCond .eq 5, 3) := by decide +kernel
theorem dX8_setTerms_49 : decode cX8_setTerms 49 = .ok (.iconst 0, 1) := by decide +kernel
theorem dX8_setTerms_50 : decode cX8_setTerms 50 = .ok (.ireturn, 1) := by decide +kernel
theorem dX8_setTerms_51 : decode cX8_setTerms 51 = .ok (.aload_n 0, 1) := by decide +kernel
theorem dX8_setTerms_52 : decode cX8_setTerms 52 = .ok (.iconst 1, 1) := by decide +kernel
theorem dX8_setTerms_53 : decode cX8_setTerms 53 = .ok (.iload_n 1, 1) := by decide +kernel
theorem dX8_setTerms_54 : decode cX8_setTerms 54 = .ok (.invokevirtual 340, 3) := by decide +kernel
theorem dX8_setTerms_57 : decode cX8_setTerms 57 = .ok (.istore 4, 2) := by decide +kernel
theorem dX8_setTerms_59 : decode cX8_setTerms 59 = .ok (.aload_n 0, 1) := by decide +kernel
theorem dX8_setTerms_60 : decode cX8_setTerms 60 = .ok (.getfield 7, 3) := by decide +kernel
theorem dX8_setTerms_63 : decode cX8_setTerms 63 = .ok (.iconst 2, 1) := by decide +kernel
theorem dX8_setTerms_64 : decode cX8_setTerms 64 = .ok (.iload_n 2, 1) := by decide +kernel
theorem dX8_setTerms_65 : decode cX8_setTerms 65 = .ok (.iastore, 1) := by decide +kernel
theorem dX8_setTerms_66 : decode cX8_setTerms 66 = .ok (.aload_n 0, 1) := by decide +kernel
theorem dX8_setTerms_67 : decode cX8_setTerms 67 = .ok (.getfield 7, 3) := by decide +kernel
theorem dX8_setTerms_70 : decode cX8_setTerms 70 = .ok (.iconst 3, 1) := by decide +kernel
theorem dX8_setTerms_71 : decode cX8_setTerms 71 = .ok (.iload_n 3, 1) := by decide +kernel
theorem dX8_setTerms_72 : decode cX8_setTerms 72 = .ok (.iastore, 1) := by decide +kernel
theorem dX8_setTerms_73 : decode cX8_setTerms 73 = .ok (.iload 4, 2) := by decide +kernel
theorem dX8_setTerms_75 : decode cX8_setTerms 75 = .ok (.ireturn, 1) := by decide +kernel
theorem dX8_emits_0 : decode cX8_emits 0 = .ok (.aload_n 0, 1) := by decide +kernel
theorem dX8_emits_1 : decode cX8_emits 1 = .ok (.getfield 43, 3) := by decide +kernel
theorem dX8_emits_4 : decode cX8_emits 4 = .ok (.aload_n 0, 1) := by decide +kernel
theorem dX8_emits_5 : decode cX8_emits 5 = .ok (.getfield 343, 3) := by decide +kernel
theorem dX8_emits_8 : decode cX8_emits 8 = .ok (.iload_n 1, 1) := by decide +kernel
theorem dX8_emits_9 : decode cX8_emits 9 = .ok (.iastore, 1) := by decide +kernel
theorem dX8_emits_10 : decode cX8_emits 10 = .ok (.aload_n 0, 1) := by decide +kernel
theorem dX8_emits_11 : decode cX8_emits 11 = .ok (.dup, 1) := by decide +kernel
theorem dX8_emits_12 : decode cX8_emits 12 = .ok (.getfield 343, 3) := by decide +kernel
theorem dX8_emits_15 : decode cX8_emits 15 = .ok (.iconst 1, 1) := by decide +kernel
theorem dX8_emits_16 : decode cX8_emits 16 = .ok (.iadd, 1) := by decide +kernel
theorem dX8_emits_17 : decode cX8_emits 17 = .ok (.putfield 343, 3) := by decide +kernel
theorem dX8_emits_20 : decode cX8_emits 20 = .ok (.return_, 1) := by decide +kernel
theorem dX8_takesCode_0 : decode cX8_takesCode 0 = .ok (.aload_n 0, 1) := by decide +kernel
theorem dX8_takesCode_1 : decode cX8_takesCode 1 = .ok (.iload_n 1, 1) := by decide +kernel
theorem dX8_takesCode_2 : decode cX8_takesCode 2 = .ok (.iload_n 2, 1) := by decide +kernel
theorem dX8_takesCode_3 : decode cX8_takesCode 3 = .ok (.invokevirtual 131, 3) := by decide +kernel
theorem dX8_takesCode_6 : decode cX8_takesCode 6 = .ok (.ifCond .ne 5, 3) := by decide +kernel
theorem dX8_takesCode_9 : decode cX8_takesCode 9 = .ok (.iconst 0, 1) := by decide +kernel
theorem dX8_takesCode_10 : decode cX8_takesCode 10 = .ok (.ireturn, 1) := by decide +kernel
theorem dX8_takesCode_11 : decode cX8_takesCode 11 = .ok (.aload_n 0, 1) := by decide +kernel
theorem dX8_takesCode_12 : decode cX8_takesCode 12 = .ok (.aload_n 0, 1) := by decide +kernel
theorem dX8_takesCode_13 : decode cX8_takesCode 13 = .ok (.getfield 120, 3) := by decide +kernel
theorem dX8_takesCode_16 : decode cX8_takesCode 16 = .ok (.invokevirtual 346, 3) := by decide +kernel
theorem dX8_takesCode_19 : decode cX8_takesCode 19 = .ok (.iconst 1, 1) := by decide +kernel
theorem dX8_takesCode_20 : decode cX8_takesCode 20 = .ok (.ireturn, 1) := by decide +kernel
theorem dX8_takesBuoy_0 : decode cX8_takesBuoy 0 = .ok (.aload_n 0, 1) := by decide +kernel
theorem dX8_takesBuoy_1 : decode cX8_takesBuoy 1 = .ok (.iconst 0, 1) := by decide +kernel
theorem dX8_takesBuoy_2 : decode cX8_takesBuoy 2 = .ok (.aload_n 0, 1) := by decide +kernel
theorem dX8_takesBuoy_3 : decode cX8_takesBuoy 3 = .ok (.getfield 7, 3) := by decide +kernel
theorem dX8_takesBuoy_6 : decode cX8_takesBuoy 6 = .ok (.iconst 0, 1) := by decide +kernel
theorem dX8_takesBuoy_7 : decode cX8_takesBuoy 7 = .ok (.iaload, 1) := by decide +kernel
theorem dX8_takesBuoy_8 : decode cX8_takesBuoy 8 = .ok (.iconst 1, 1) := by decide +kernel
theorem dX8_takesBuoy_9 : decode cX8_takesBuoy 9 = .ok (.isub, 1) := by decide +kernel
theorem dX8_takesBuoy_10 : decode cX8_takesBuoy 10 = .ok (.invokevirtual 349, 3) := by decide +kernel
theorem dX8_takesBuoy_13 : decode cX8_takesBuoy 13 = .ok (.ireturn, 1) := by decide +kernel
theorem dX8_readHour_0 : decode cX8_readHour 0 = .ok (.aload_n 0, 1) := by decide +kernel
theorem dX8_readHour_1 : decode cX8_readHour 1 = .ok (.getfield 343, 3) := by decide +kernel
theorem dX8_readHour_4 : decode cX8_readHour 4 = .ok (.istore_n 1, 1) := by decide +kernel
theorem dX8_readHour_5 : decode cX8_readHour 5 = .ok (.iconst 0, 1) := by decide +kernel
theorem dX8_readHour_6 : decode cX8_readHour 6 = .ok (.istore_n 2, 1) := by decide +kernel
theorem dX8_readHour_7 : decode cX8_readHour 7 = .ok (.aload_n 0, 1) := by decide +kernel
theorem dX8_readHour_8 : decode cX8_readHour 8 = .ok (.iconst 0, 1) := by decide +kernel
theorem dX8_readHour_9 : decode cX8_readHour 9 = .ok (.invokevirtual 346, 3) := by decide +kernel
theorem dX8_readHour_12 : decode cX8_readHour 12 = .ok (.aload_n 0, 1) := by decide +kernel
theorem dX8_readHour_13 : decode cX8_readHour 13 = .ok (.getfield 91, 3) := by decide +kernel
theorem dX8_readHour_16 : decode cX8_readHour 16 = .ok (.iconst 2, 1) := by decide +kernel
theorem dX8_readHour_17 : decode cX8_readHour 17 = .ok (.if_icmp .ne 92, 3) := by decide +kernel
theorem dX8_readHour_20 : decode cX8_readHour 20 = .ok (.aload_n 0, 1) := by decide +kernel
theorem dX8_readHour_21 : decode cX8_readHour 21 = .ok (.iconst 0, 1) := by decide +kernel
theorem dX8_readHour_22 : decode cX8_readHour 22 = .ok (.aload_n 0, 1) := by decide +kernel
theorem dX8_readHour_23 : decode cX8_readHour 23 = .ok (.getfield 7, 3) := by decide +kernel
theorem dX8_readHour_26 : decode cX8_readHour 26 = .ok (.iconst 0, 1) := by decide +kernel
theorem dX8_readHour_27 : decode cX8_readHour 27 = .ok (.iaload, 1) := by decide +kernel
theorem dX8_readHour_28 : decode cX8_readHour 28 = .ok (.iconst 1, 1) := by decide +kernel
theorem dX8_readHour_29 : decode cX8_readHour 29 = .ok (.isub, 1) := by decide +kernel
theorem dX8_readHour_30 : decode cX8_readHour 30 = .ok (.invokevirtual 123, 3) := by decide +kernel
theorem dX8_readHour_33 : decode cX8_readHour 33 = .ok (.ifCond .ne 5, 3) := by decide +kernel
theorem dX8_readHour_36 : decode cX8_readHour 36 = .ok (.iconst 0, 1) := by decide +kernel
theorem dX8_readHour_37 : decode cX8_readHour 37 = .ok (.ireturn, 1) := by decide +kernel
theorem dX8_readHour_38 : decode cX8_readHour 38 = .ok (.iload_n 2, 1) := by decide +kernel
theorem dX8_readHour_39 : decode cX8_readHour 39 = .ok (.aload_n 0, 1) := by decide +kernel
theorem dX8_readHour_40 : decode cX8_readHour 40 = .ok (.getfield 120, 3) := by decide +kernel
theorem dX8_readHour_43 : decode cX8_readHour 43 = .ok (.invokestatic 176, 3) := by decide +kernel
theorem dX8_readHour_46 : decode cX8_readHour 46 = .ok (.ifCond .eq 9, 3) := by decide +kernel
theorem dX8_readHour_49 : decode cX8_readHour 49 = .ok (.aload_n 0, 1) := by decide +kernel
theorem dX8_readHour_50 : decode cX8_readHour 50 = .ok (.iconst 3, 1) := by decide +kernel
theorem dX8_readHour_51 : decode cX8_readHour 51 = .ok (.invokevirtual 114, 3) := by decide +kernel
theorem dX8_readHour_54 : decode cX8_readHour 54 = .ok (.ireturn, 1) := by decide +kernel
theorem dX8_readHour_55 : decode cX8_readHour 55 = .ok (.iload_n 2, 1) := by decide +kernel
theorem dX8_readHour_56 : decode cX8_readHour 56 = .ok (.iconst 1, 1) := by decide +kernel
theorem dX8_readHour_57 : decode cX8_readHour 57 = .ok (.aload_n 0, 1) := by decide +kernel
theorem dX8_readHour_58 : decode cX8_readHour 58 = .ok (.getfield 120, 3) := by decide +kernel
theorem dX8_readHour_61 : decode cX8_readHour 61 = .ok (.ishl, 1) := by decide +kernel
theorem dX8_readHour_62 : decode cX8_readHour 62 = .ok (.ior, 1) := by decide +kernel
theorem dX8_readHour_63 : decode cX8_readHour 63 = .ok (.istore_n 2, 1) := by decide +kernel
theorem dX8_readHour_64 : decode cX8_readHour 64 = .ok (.aload_n 0, 1) := by decide +kernel
theorem dX8_readHour_65 : decode cX8_readHour 65 = .ok (.aload_n 0, 1) := by decide +kernel
theorem dX8_readHour_66 : decode cX8_readHour 66 = .ok (.getfield 120, 3) := by decide +kernel
theorem dX8_readHour_69 : decode cX8_readHour 69 = .ok (.invokevirtual 346, 3) := by decide +kernel
theorem dX8_readHour_72 : decode cX8_readHour 72 = .ok (.aload_n 0, 1) := by decide +kernel
theorem dX8_readHour_73 : decode cX8_readHour 73 = .ok (.invokevirtual 117, 3) := by decide +kernel
theorem dX8_readHour_76 : decode cX8_readHour 76 = .ok (.aload_n 0, 1) := by decide +kernel
theorem dX8_readHour_77 : decode cX8_readHour 77 = .ok (.sipush 9999, 3) := by decide +kernel
theorem dX8_readHour_80 : decode cX8_readHour 80 = .ok (.invokevirtual 137, 3) := by decide +kernel
theorem dX8_readHour_83 : decode cX8_readHour 83 = .ok (.ifCond .ne 5, 3) := by decide +kernel
theorem dX8_readHour_86 : decode cX8_readHour 86 = .ok (.iconst 0, 1) := by decide +kernel
theorem dX8_readHour_87 : decode cX8_readHour 87 = .ok (.ireturn, 1) := by decide +kernel
theorem dX8_readHour_88 : decode cX8_readHour 88 = .ok (.aload_n 0, 1) := by decide +kernel
theorem dX8_readHour_89 : decode cX8_readHour 89 = .ok (.aload_n 0, 1) := by decide +kernel
theorem dX8_readHour_90 : decode cX8_readHour 90 = .ok (.getfield 120, 3) := by decide +kernel
theorem dX8_readHour_93 : decode cX8_readHour 93 = .ok (.invokevirtual 346, 3) := by decide +kernel
theorem dX8_readHour_96 : decode cX8_readHour 96 = .ok (.aload_n 0, 1) := by decide +kernel
theorem dX8_readHour_97 : decode cX8_readHour 97 = .ok (.getfield 43, 3) := by decide +kernel
theorem dX8_readHour_100 : decode cX8_readHour 100 = .ok (.iload_n 1, 1) := by decide +kernel
theorem dX8_readHour_101 : decode cX8_readHour 101 = .ok (.dup2, 1) := by decide +kernel
theorem dX8_readHour_102 : decode cX8_readHour 102 = .ok (.iaload, 1) := by decide +kernel
theorem dX8_readHour_103 : decode cX8_readHour 103 = .ok (.iconst 1, 1) := by decide +kernel
theorem dX8_readHour_104 : decode cX8_readHour 104 = .ok (.iadd, 1) := by decide +kernel
theorem dX8_readHour_105 : decode cX8_readHour 105 = .ok (.iastore, 1) := by decide +kernel
theorem dX8_readHour_106 : decode cX8_readHour 106 = .ok (.goto (-94), 3) := by decide +kernel
theorem dX8_readHour_109 : decode cX8_readHour 109 = .ok (.iconst 1, 1) := by decide +kernel
theorem dX8_readHour_110 : decode cX8_readHour 110 = .ok (.ireturn, 1) := by decide +kernel
theorem dX8_readStorm_0 : decode cX8_readStorm 0 = .ok (.aload_n 0, 1) := by decide +kernel
theorem dX8_readStorm_1 : decode cX8_readStorm 1 = .ok (.iconst 1, 1) := by decide +kernel
theorem dX8_readStorm_2 : decode cX8_readStorm 2 = .ok (.bipush 99, 2) := by decide +kernel
theorem dX8_readStorm_4 : decode cX8_readStorm 4 = .ok (.invokevirtual 349, 3) := by decide +kernel
theorem dX8_readStorm_7 : decode cX8_readStorm 7 = .ok (.ifCond .eq 10, 3) := by decide +kernel
theorem dX8_readStorm_10 : decode cX8_readStorm 10 = .ok (.aload_n 0, 1) := by decide +kernel
theorem dX8_readStorm_11 : decode cX8_readStorm 11 = .ok (.invokevirtual 352, 3) := by decide +kernel
theorem dX8_readStorm_14 : decode cX8_readStorm 14 = .ok (.ifCond .ne 5, 3) := by decide +kernel
theorem dX8_readStorm_17 : decode cX8_readStorm 17 = .ok (.iconst 0, 1) := by decide +kernel
theorem dX8_readStorm_18 : decode cX8_readStorm 18 = .ok (.ireturn, 1) := by decide +kernel
theorem dX8_readStorm_19 : decode cX8_readStorm 19 = .ok (.aload_n 0, 1) := by decide +kernel
theorem dX8_readStorm_20 : decode cX8_readStorm 20 = .ok (.getfield 120, 3) := by decide +kernel
theorem dX8_readStorm_23 : decode cX8_readStorm 23 = .ok (.istore_n 1, 1) := by decide +kernel
theorem dX8_readStorm_24 : decode cX8_readStorm 24 = .ok (.aload_n 0, 1) := by decide +kernel
theorem dX8_readStorm_25 : decode cX8_readStorm 25 = .ok (.iconst 0, 1) := by decide +kernel
theorem dX8_readStorm_26 : decode cX8_readStorm 26 = .ok (.aload_n 0, 1) := by decide +kernel
theorem dX8_readStorm_27 : decode cX8_readStorm 27 = .ok (.getfield 7, 3) := by decide +kernel
theorem dX8_readStorm_30 : decode cX8_readStorm 30 = .ok (.iconst 0, 1) := by decide +kernel
theorem dX8_readStorm_31 : decode cX8_readStorm 31 = .ok (.iaload, 1) := by decide +kernel
theorem dX8_readStorm_32 : decode cX8_readStorm 32 = .ok (.iconst 1, 1) := by decide +kernel
theorem dX8_readStorm_33 : decode cX8_readStorm 33 = .ok (.isub, 1) := by decide +kernel
theorem dX8_readStorm_34 : decode cX8_readStorm 34 = .ok (.invokevirtual 123, 3) := by decide +kernel
theorem dX8_readStorm_37 : decode cX8_readStorm 37 = .ok (.ifCond .ne 5, 3) := by decide +kernel
theorem dX8_readStorm_40 : decode cX8_readStorm 40 = .ok (.iconst 0, 1) := by decide +kernel
theorem dX8_readStorm_41 : decode cX8_readStorm 41 = .ok (.ireturn, 1) := by decide +kernel
theorem dX8_readStorm_42 : decode cX8_readStorm 42 = .ok (.aload_n 0, 1) := by decide +kernel
theorem dX8_readStorm_43 : decode cX8_readStorm 43 = .ok (.getfield 120, 3) := by decide +kernel
theorem dX8_readStorm_46 : decode cX8_readStorm 46 = .ok (.iload_n 1, 1) := by decide +kernel
theorem dX8_readStorm_47 : decode cX8_readStorm 47 = .ok (.if_icmp .ge 9, 3) := by decide +kernel
theorem dX8_readStorm_50 : decode cX8_readStorm 50 = .ok (.aload_n 0, 1) := by decide +kernel
theorem dX8_readStorm_51 : decode cX8_readStorm 51 = .ok (.iconst 3, 1) := by decide +kernel
theorem dX8_readStorm_52 : decode cX8_readStorm 52 = .ok (.invokevirtual 114, 3) := by decide +kernel
theorem dX8_readStorm_55 : decode cX8_readStorm 55 = .ok (.ireturn, 1) := by decide +kernel
theorem dX8_readStorm_56 : decode cX8_readStorm 56 = .ok (.aload_n 0, 1) := by decide +kernel
theorem dX8_readStorm_57 : decode cX8_readStorm 57 = .ok (.aload_n 0, 1) := by decide +kernel
theorem dX8_readStorm_58 : decode cX8_readStorm 58 = .ok (.getfield 120, 3) := by decide +kernel
theorem dX8_readStorm_61 : decode cX8_readStorm 61 = .ok (.invokevirtual 346, 3) := by decide +kernel
theorem dX8_readStorm_64 : decode cX8_readStorm 64 = .ok (.aload_n 0, 1) := by decide +kernel
theorem dX8_readStorm_65 : decode cX8_readStorm 65 = .ok (.invokevirtual 117, 3) := by decide +kernel
theorem dX8_readStorm_68 : decode cX8_readStorm 68 = .ok (.iconst 1, 1) := by decide +kernel
theorem dX8_readStorm_69 : decode cX8_readStorm 69 = .ok (.ireturn, 1) := by decide +kernel
theorem dX8_commandHere_0 : decode cX8_commandHere 0 = .ok (.aload_n 0, 1) := by decide +kernel
theorem dX8_commandHere_1 : decode cX8_commandHere 1 = .ok (.ldc_w 355, 3) := by decide +kernel
theorem dX8_commandHere_4 : decode cX8_commandHere 4 = .ok (.invokevirtual 142, 3) := by decide +kernel
theorem dX8_commandHere_7 : decode cX8_commandHere 7 = .ok (.ifCond .eq 7, 3) := by decide +kernel
theorem dX8_commandHere_10 : decode cX8_commandHere 10 = .ok (.iconst 0, 1) := by decide +kernel
theorem dX8_commandHere_11 : decode cX8_commandHere 11 = .ok (.goto 73, 3) := by decide +kernel
theorem dX8_commandHere_14 : decode cX8_commandHere 14 = .ok (.aload_n 0, 1) := by decide +kernel
theorem dX8_commandHere_15 : decode cX8_commandHere 15 = .ok (.ldc_w 357, 3) := by decide +kernel
theorem dX8_commandHere_18 : decode cX8_commandHere 18 = .ok (.invokevirtual 142, 3) := by decide +kernel
theorem dX8_commandHere_21 : decode cX8_commandHere 21 = .ok (.ifCond .eq 7, 3) := by decide +kernel
theorem dX8_commandHere_24 : decode cX8_commandHere 24 = .ok (.iconst 1, 1) := by decide +kernel
theorem dX8_commandHere_25 : decode cX8_commandHere 25 = .ok (.goto 59, 3) := by decide +kernel
theorem dX8_commandHere_28 : decode cX8_commandHere 28 = .ok (.aload_n 0, 1) := by decide +kernel
theorem dX8_commandHere_29 : decode cX8_commandHere 29 = .ok (.ldc_w 359, 3) := by decide +kernel
theorem dX8_commandHere_32 : decode cX8_commandHere 32 = .ok (.invokevirtual 142, 3) := by decide +kernel
theorem dX8_commandHere_35 : decode cX8_commandHere 35 = .ok (.ifCond .eq 7, 3) := by decide +kernel
theorem dX8_commandHere_38 : decode cX8_commandHere 38 = .ok (.iconst 2, 1) := by decide +kernel
theorem dX8_commandHere_39 : decode cX8_commandHere 39 = .ok (.goto 45, 3) := by decide +kernel
theorem dX8_commandHere_42 : decode cX8_commandHere 42 = .ok (.aload_n 0, 1) := by decide +kernel
theorem dX8_commandHere_43 : decode cX8_commandHere 43 = .ok (.ldc_w 361, 3) := by decide +kernel
theorem dX8_commandHere_46 : decode cX8_commandHere 46 = .ok (.invokevirtual 142, 3) := by decide +kernel
theorem dX8_commandHere_49 : decode cX8_commandHere 49 = .ok (.ifCond .eq 7, 3) := by decide +kernel
theorem dX8_commandHere_52 : decode cX8_commandHere 52 = .ok (.iconst 3, 1) := by decide +kernel
theorem dX8_commandHere_53 : decode cX8_commandHere 53 = .ok (.goto 31, 3) := by decide +kernel
theorem dX8_commandHere_56 : decode cX8_commandHere 56 = .ok (.aload_n 0, 1) := by decide +kernel
theorem dX8_commandHere_57 : decode cX8_commandHere 57 = .ok (.ldc_w 363, 3) := by decide +kernel
theorem dX8_commandHere_60 : decode cX8_commandHere 60 = .ok (.invokevirtual 142, 3) := by decide +kernel
theorem dX8_commandHere_63 : decode cX8_commandHere 63 = .ok (.ifCond .eq 7, 3) := by decide +kernel
theorem dX8_commandHere_66 : decode cX8_commandHere 66 = .ok (.iconst 4, 1) := by decide +kernel
theorem dX8_commandHere_67 : decode cX8_commandHere 67 = .ok (.goto 17, 3) := by decide +kernel
theorem dX8_commandHere_70 : decode cX8_commandHere 70 = .ok (.aload_n 0, 1) := by decide +kernel
theorem dX8_commandHere_71 : decode cX8_commandHere 71 = .ok (.ldc 155, 2) := by decide +kernel
theorem dX8_commandHere_73 : decode cX8_commandHere 73 = .ok (.invokevirtual 142, 3) := by decide +kernel
theorem dX8_commandHere_76 : decode cX8_commandHere 76 = .ok (.ifCond .eq 7, 3) := by decide +kernel
theorem dX8_commandHere_79 : decode cX8_commandHere 79 = .ok (.iconst 5, 1) := by decide +kernel
theorem dX8_commandHere_80 : decode cX8_commandHere 80 = .ok (.goto 4, 3) := by decide +kernel
theorem dX8_commandHere_83 : decode cX8_commandHere 83 = .ok (.iconst (-1), 1) := by decide +kernel
theorem dX8_commandHere_84 : decode cX8_commandHere 84 = .ok (.ireturn, 1) := by decide +kernel
theorem dX8_readCommand_0 : decode cX8_readCommand 0 = .ok (.aload_n 0, 1) := by decide +kernel
theorem dX8_readCommand_1 : decode cX8_readCommand 1 = .ok (.invokevirtual 365, 3) := by decide +kernel
theorem dX8_readCommand_4 : decode cX8_readCommand 4 = .ok (.istore_n 1, 1) := by decide +kernel
theorem dX8_readCommand_5 : decode cX8_readCommand 5 = .ok (.iload_n 1, 1) := by decide +kernel
theorem dX8_readCommand_6 : decode cX8_readCommand 6 = .ok (.iconst (-1), 1) := by decide +kernel
theorem dX8_readCommand_7 : decode cX8_readCommand 7 = .ok (.if_icmp .ne 9, 3) := by decide +kernel
theorem dX8_readCommand_10 : decode cX8_readCommand 10 = .ok (.aload_n 0, 1) := by decide +kernel
theorem dX8_readCommand_11 : decode cX8_readCommand 11 = .ok (.iconst 1, 1) := by decide +kernel
theorem dX8_readCommand_12 : decode cX8_readCommand 12 = .ok (.invokevirtual 114, 3) := by decide +kernel
theorem dX8_readCommand_15 : decode cX8_readCommand 15 = .ok (.ireturn, 1) := by decide +kernel
theorem dX8_readCommand_16 : decode cX8_readCommand 16 = .ok (.aload_n 0, 1) := by decide +kernel
theorem dX8_readCommand_17 : decode cX8_readCommand 17 = .ok (.iconst 4, 1) := by decide +kernel
theorem dX8_readCommand_18 : decode cX8_readCommand 18 = .ok (.aload_n 0, 1) := by decide +kernel
theorem dX8_readCommand_19 : decode cX8_readCommand 19 = .ok (.getfield 368, 3) := by decide +kernel
theorem dX8_readCommand_22 : decode cX8_readCommand 22 = .ok (.bipush 40, 2) := by decide +kernel
theorem dX8_readCommand_24 : decode cX8_readCommand 24 = .ok (.if_icmp .ge 7, 3) := by decide +kernel
theorem dX8_readCommand_27 : decode cX8_readCommand 27 = .ok (.iconst 1, 1) := by decide +kernel
theorem dX8_readCommand_28 : decode cX8_readCommand 28 = .ok (.goto 4, 3) := by decide +kernel
theorem dX8_readCommand_31 : decode cX8_readCommand 31 = .ok (.iconst 0, 1) := by decide +kernel
theorem dX8_readCommand_32 : decode cX8_readCommand 32 = .ok (.invokevirtual 127, 3) := by decide +kernel
theorem dX8_readCommand_35 : decode cX8_readCommand 35 = .ok (.ifCond .ne 5, 3) := by decide +kernel
theorem dX8_readCommand_38 : decode cX8_readCommand 38 = .ok (.iconst 0, 1) := by decide +kernel
theorem dX8_readCommand_39 : decode cX8_readCommand 39 = .ok (.ireturn, 1) := by decide +kernel
theorem dX8_readCommand_40 : decode cX8_readCommand 40 = .ok (.aload_n 0, 1) := by decide +kernel
theorem dX8_readCommand_41 : decode cX8_readCommand 41 = .ok (.dup, 1) := by decide +kernel
theorem dX8_readCommand_42 : decode cX8_readCommand 42 = .ok (.getfield 368, 3) := by decide +kernel
theorem dX8_readCommand_45 : decode cX8_readCommand 45 = .ok (.iconst 1, 1) := by decide +kernel
theorem dX8_readCommand_46 : decode cX8_readCommand 46 = .ok (.iadd, 1) := by decide +kernel
theorem dX8_readCommand_47 : decode cX8_readCommand 47 = .ok (.putfield 368, 3) := by decide +kernel
theorem dX8_readCommand_50 : decode cX8_readCommand 50 = .ok (.aload_n 0, 1) := by decide +kernel
theorem dX8_readCommand_51 : decode cX8_readCommand 51 = .ok (.iload_n 1, 1) := by decide +kernel
theorem dX8_readCommand_52 : decode cX8_readCommand 52 = .ok (.invokevirtual 346, 3) := by decide +kernel
theorem dX8_readCommand_55 : decode cX8_readCommand 55 = .ok (.iload_n 1, 1) := by decide +kernel
theorem dX8_readCommand_56 : decode cX8_readCommand 56 = .ok (.tableswitch 73 0 4 #[36, 41, 46, 60, 68], 36) := by decide +kernel
theorem dX8_readCommand_92 : decode cX8_readCommand 92 = .ok (.aload_n 0, 1) := by decide +kernel
theorem dX8_readCommand_93 : decode cX8_readCommand 93 = .ok (.invokevirtual 371, 3) := by decide +kernel
theorem dX8_readCommand_96 : decode cX8_readCommand 96 = .ok (.ireturn, 1) := by decide +kernel
theorem dX8_readCommand_97 : decode cX8_readCommand 97 = .ok (.aload_n 0, 1) := by decide +kernel
theorem dX8_readCommand_98 : decode cX8_readCommand 98 = .ok (.invokevirtual 374, 3) := by decide +kernel
theorem dX8_readCommand_101 : decode cX8_readCommand 101 = .ok (.ireturn, 1) := by decide +kernel
theorem dX8_readCommand_102 : decode cX8_readCommand 102 = .ok (.aload_n 0, 1) := by decide +kernel
theorem dX8_readCommand_103 : decode cX8_readCommand 103 = .ok (.iconst 0, 1) := by decide +kernel
theorem dX8_readCommand_104 : decode cX8_readCommand 104 = .ok (.aload_n 0, 1) := by decide +kernel
theorem dX8_readCommand_105 : decode cX8_readCommand 105 = .ok (.getfield 7, 3) := by decide +kernel
theorem dX8_readCommand_108 : decode cX8_readCommand 108 = .ok (.iconst 0, 1) := by decide +kernel
theorem dX8_readCommand_109 : decode cX8_readCommand 109 = .ok (.iaload, 1) := by decide +kernel
theorem dX8_readCommand_110 : decode cX8_readCommand 110 = .ok (.iconst 2, 1) := by decide +kernel
theorem dX8_readCommand_111 : decode cX8_readCommand 111 = .ok (.isub, 1) := by decide +kernel
theorem dX8_readCommand_112 : decode cX8_readCommand 112 = .ok (.invokevirtual 349, 3) := by decide +kernel
theorem dX8_readCommand_115 : decode cX8_readCommand 115 = .ok (.ireturn, 1) := by decide +kernel
theorem dX8_readCommand_116 : decode cX8_readCommand 116 = .ok (.aload_n 0, 1) := by decide +kernel
theorem dX8_readCommand_117 : decode cX8_readCommand 117 = .ok (.iconst 1, 1) := by decide +kernel
theorem dX8_readCommand_118 : decode cX8_readCommand 118 = .ok (.bipush 99, 2) := by decide +kernel
theorem dX8_readCommand_120 : decode cX8_readCommand 120 = .ok (.invokevirtual 349, 3) := by decide +kernel
theorem dX8_readCommand_123 : decode cX8_readCommand 123 = .ok (.ireturn, 1) := by decide +kernel
theorem dX8_readCommand_124 : decode cX8_readCommand 124 = .ok (.aload_n 0, 1) := by decide +kernel
theorem dX8_readCommand_125 : decode cX8_readCommand 125 = .ok (.invokevirtual 352, 3) := by decide +kernel
theorem dX8_readCommand_128 : decode cX8_readCommand 128 = .ok (.ireturn, 1) := by decide +kernel
theorem dX8_readCommand_129 : decode cX8_readCommand 129 = .ok (.aload_n 0, 1) := by decide +kernel
theorem dX8_readCommand_130 : decode cX8_readCommand 130 = .ok (.iconst 1, 1) := by decide +kernel
theorem dX8_readCommand_131 : decode cX8_readCommand 131 = .ok (.sipush 9999, 3) := by decide +kernel
theorem dX8_readCommand_134 : decode cX8_readCommand 134 = .ok (.invokevirtual 349, 3) := by decide +kernel
theorem dX8_readCommand_137 : decode cX8_readCommand 137 = .ok (.ireturn, 1) := by decide +kernel
theorem dX8_doesHour_0 : decode cX8_doesHour 0 = .ok (.iconst 0, 1) := by decide +kernel
theorem dX8_doesHour_1 : decode cX8_doesHour 1 = .ok (.istore_n 2, 1) := by decide +kernel
theorem dX8_doesHour_2 : decode cX8_doesHour 2 = .ok (.iload_n 2, 1) := by decide +kernel
theorem dX8_doesHour_3 : decode cX8_doesHour 3 = .ok (.aload_n 0, 1) := by decide +kernel
theorem dX8_doesHour_4 : decode cX8_doesHour 4 = .ok (.getfield 43, 3) := by decide +kernel
theorem dX8_doesHour_7 : decode cX8_doesHour 7 = .ok (.iload_n 1, 1) := by decide +kernel
theorem dX8_doesHour_8 : decode cX8_doesHour 8 = .ok (.iaload, 1) := by decide +kernel
theorem dX8_doesHour_9 : decode cX8_doesHour 9 = .ok (.if_icmp .ge 38, 3) := by decide +kernel
theorem dX8_doesHour_12 : decode cX8_doesHour 12 = .ok (.aload_n 0, 1) := by decide +kernel
theorem dX8_doesHour_13 : decode cX8_doesHour 13 = .ok (.aload_n 0, 1) := by decide +kernel
theorem dX8_doesHour_14 : decode cX8_doesHour 14 = .ok (.getfield 43, 3) := by decide +kernel
theorem dX8_doesHour_17 : decode cX8_doesHour 17 = .ok (.iload_n 1, 1) := by decide +kernel
theorem dX8_doesHour_18 : decode cX8_doesHour 18 = .ok (.iconst 1, 1) := by decide +kernel
theorem dX8_doesHour_19 : decode cX8_doesHour 19 = .ok (.iadd, 1) := by decide +kernel
theorem dX8_doesHour_20 : decode cX8_doesHour 20 = .ok (.iconst 2, 1) := by decide +kernel
theorem dX8_doesHour_21 : decode cX8_doesHour 21 = .ok (.iload_n 2, 1) := by decide +kernel
theorem dX8_doesHour_22 : decode cX8_doesHour 22 = .ok (.imul, 1) := by decide +kernel
theorem dX8_doesHour_23 : decode cX8_doesHour 23 = .ok (.iadd, 1) := by decide +kernel
theorem dX8_doesHour_24 : decode cX8_doesHour 24 = .ok (.iaload, 1) := by decide +kernel
theorem dX8_doesHour_25 : decode cX8_doesHour 25 = .ok (.aload_n 0, 1) := by decide +kernel
theorem dX8_doesHour_26 : decode cX8_doesHour 26 = .ok (.getfield 43, 3) := by decide +kernel
theorem dX8_doesHour_29 : decode cX8_doesHour 29 = .ok (.iload_n 1, 1) := by decide +kernel
theorem dX8_doesHour_30 : decode cX8_doesHour 30 = .ok (.iconst 2, 1) := by decide +kernel
theorem dX8_doesHour_31 : decode cX8_doesHour 31 = .ok (.iadd, 1) := by decide +kernel
theorem dX8_doesHour_32 : decode cX8_doesHour 32 = .ok (.iconst 2, 1) := by decide +kernel
theorem dX8_doesHour_33 : decode cX8_doesHour 33 = .ok (.iload_n 2, 1) := by decide +kernel
theorem dX8_doesHour_34 : decode cX8_doesHour 34 = .ok (.imul, 1) := by decide +kernel
theorem dX8_doesHour_35 : decode cX8_doesHour 35 = .ok (.iadd, 1) := by decide +kernel
theorem dX8_doesHour_36 : decode cX8_doesHour 36 = .ok (.iaload, 1) := by decide +kernel
theorem dX8_doesHour_37 : decode cX8_doesHour 37 = .ok (.invokevirtual 307, 3) := by decide +kernel
theorem dX8_doesHour_40 : decode cX8_doesHour 40 = .ok (.istore_n 3, 1) := by decide +kernel
theorem dX8_doesHour_41 : decode cX8_doesHour 41 = .ok (.iinc 2 1, 3) := by decide +kernel
theorem dX8_doesHour_44 : decode cX8_doesHour 44 = .ok (.goto (-42), 3) := by decide +kernel
theorem dX8_doesHour_47 : decode cX8_doesHour 47 = .ok (.aload_n 0, 1) := by decide +kernel
theorem dX8_doesHour_48 : decode cX8_doesHour 48 = .ok (.invokevirtual 313, 3) := by decide +kernel
theorem dX8_doesHour_51 : decode cX8_doesHour 51 = .ok (.ireturn, 1) := by decide +kernel
theorem dX8_does_0 : decode cX8_does 0 = .ok (.aload_n 0, 1) := by decide +kernel
theorem dX8_does_1 : decode cX8_does 1 = .ok (.getfield 43, 3) := by decide +kernel
theorem dX8_does_4 : decode cX8_does 4 = .ok (.iload_n 1, 1) := by decide +kernel
theorem dX8_does_5 : decode cX8_does 5 = .ok (.iconst 1, 1) := by decide +kernel
theorem dX8_does_6 : decode cX8_does 6 = .ok (.iadd, 1) := by decide +kernel
theorem dX8_does_7 : decode cX8_does 7 = .ok (.iaload, 1) := by decide +kernel
theorem dX8_does_8 : decode cX8_does 8 = .ok (.istore_n 2, 1) := by decide +kernel
theorem dX8_does_9 : decode cX8_does 9 = .ok (.aload_n 0, 1) := by decide +kernel
theorem dX8_does_10 : decode cX8_does 10 = .ok (.getfield 43, 3) := by decide +kernel
theorem dX8_does_13 : decode cX8_does 13 = .ok (.iload_n 1, 1) := by decide +kernel
theorem dX8_does_14 : decode cX8_does 14 = .ok (.iaload, 1) := by decide +kernel
theorem dX8_does_15 : decode cX8_does 15 = .ok (.tableswitch 81 0 4 #[33, 41, 63, 69, 75], 33) := by decide +kernel
theorem dX8_does_48 : decode cX8_does 48 = .ok (.aload_n 0, 1) := by decide +kernel
theorem dX8_does_49 : decode cX8_does 49 = .ok (.iload_n 1, 1) := by decide +kernel
theorem dX8_does_50 : decode cX8_does 50 = .ok (.iconst 1, 1) := by decide +kernel
theorem dX8_does_51 : decode cX8_does 51 = .ok (.iadd, 1) := by decide +kernel
theorem dX8_does_52 : decode cX8_does 52 = .ok (.invokevirtual 377, 3) := by decide +kernel
theorem dX8_does_55 : decode cX8_does 55 = .ok (.ireturn, 1) := by decide +kernel
theorem dX8_does_56 : decode cX8_does 56 = .ok (.aload_n 0, 1) := by decide +kernel
theorem dX8_does_57 : decode cX8_does 57 = .ok (.iload_n 2, 1) := by decide +kernel
theorem dX8_does_58 : decode cX8_does 58 = .ok (.aload_n 0, 1) := by decide +kernel
theorem dX8_does_59 : decode cX8_does 59 = .ok (.getfield 43, 3) := by decide +kernel
theorem dX8_does_62 : decode cX8_does 62 = .ok (.iload_n 1, 1) := by decide +kernel
theorem dX8_does_63 : decode cX8_does 63 = .ok (.iconst 2, 1) := by decide +kernel
theorem dX8_does_64 : decode cX8_does 64 = .ok (.iadd, 1) := by decide +kernel
theorem dX8_does_65 : decode cX8_does 65 = .ok (.iaload, 1) := by decide +kernel
theorem dX8_does_66 : decode cX8_does 66 = .ok (.aload_n 0, 1) := by decide +kernel
theorem dX8_does_67 : decode cX8_does 67 = .ok (.getfield 43, 3) := by decide +kernel
theorem dX8_does_70 : decode cX8_does 70 = .ok (.iload_n 1, 1) := by decide +kernel
theorem dX8_does_71 : decode cX8_does 71 = .ok (.iconst 3, 1) := by decide +kernel
theorem dX8_does_72 : decode cX8_does 72 = .ok (.iadd, 1) := by decide +kernel
theorem dX8_does_73 : decode cX8_does 73 = .ok (.iaload, 1) := by decide +kernel
theorem dX8_does_74 : decode cX8_does 74 = .ok (.invokevirtual 319, 3) := by decide +kernel
theorem dX8_does_77 : decode cX8_does 77 = .ok (.ireturn, 1) := by decide +kernel
theorem dX8_does_78 : decode cX8_does 78 = .ok (.aload_n 0, 1) := by decide +kernel
theorem dX8_does_79 : decode cX8_does 79 = .ok (.iload_n 2, 1) := by decide +kernel
theorem dX8_does_80 : decode cX8_does 80 = .ok (.invokevirtual 328, 3) := by decide +kernel
theorem dX8_does_83 : decode cX8_does 83 = .ok (.ireturn, 1) := by decide +kernel
theorem dX8_does_84 : decode cX8_does 84 = .ok (.aload_n 0, 1) := by decide +kernel
theorem dX8_does_85 : decode cX8_does 85 = .ok (.iload_n 2, 1) := by decide +kernel
theorem dX8_does_86 : decode cX8_does 86 = .ok (.invokevirtual 331, 3) := by decide +kernel
theorem dX8_does_89 : decode cX8_does 89 = .ok (.ireturn, 1) := by decide +kernel
theorem dX8_does_90 : decode cX8_does 90 = .ok (.aload_n 0, 1) := by decide +kernel
theorem dX8_does_91 : decode cX8_does 91 = .ok (.iload_n 2, 1) := by decide +kernel
theorem dX8_does_92 : decode cX8_does 92 = .ok (.invokevirtual 334, 3) := by decide +kernel
theorem dX8_does_95 : decode cX8_does 95 = .ok (.ireturn, 1) := by decide +kernel
theorem dX8_does_96 : decode cX8_does 96 = .ok (.aload_n 0, 1) := by decide +kernel
theorem dX8_does_97 : decode cX8_does 97 = .ok (.iload_n 2, 1) := by decide +kernel
theorem dX8_does_98 : decode cX8_does 98 = .ok (.invokevirtual 337, 3) := by decide +kernel
theorem dX8_does_101 : decode cX8_does 101 = .ok (.ireturn, 1) := by decide +kernel
theorem dX8_codesOf_0 : decode cX8_codesOf 0 = .ok (.aload_n 0, 1) := by decide +kernel
theorem dX8_codesOf_1 : decode cX8_codesOf 1 = .ok (.getfield 43, 3) := by decide +kernel
theorem dX8_codesOf_4 : decode cX8_codesOf 4 = .ok (.iload_n 1, 1) := by decide +kernel
theorem dX8_codesOf_5 : decode cX8_codesOf 5 = .ok (.iaload, 1) := by decide +kernel
theorem dX8_codesOf_6 : decode cX8_codesOf 6 = .ok (.ifCond .ne 18, 3) := by decide +kernel
theorem dX8_codesOf_9 : decode cX8_codesOf 9 = .ok (.iconst 2, 1) := by decide +kernel
theorem dX8_codesOf_10 : decode cX8_codesOf 10 = .ok (.iconst 2, 1) := by decide +kernel
theorem dX8_codesOf_11 : decode cX8_codesOf 11 = .ok (.aload_n 0, 1) := by decide +kernel
theorem dX8_codesOf_12 : decode cX8_codesOf 12 = .ok (.getfield 43, 3) := by decide +kernel
theorem dX8_codesOf_15 : decode cX8_codesOf 15 = .ok (.iload_n 1, 1) := by decide +kernel
theorem dX8_codesOf_16 : decode cX8_codesOf 16 = .ok (.iconst 1, 1) := by decide +kernel
theorem dX8_codesOf_17 : decode cX8_codesOf 17 = .ok (.iadd, 1) := by decide +kernel
theorem dX8_codesOf_18 : decode cX8_codesOf 18 = .ok (.iaload, 1) := by decide +kernel
theorem dX8_codesOf_19 : decode cX8_codesOf 19 = .ok (.imul, 1) := by decide +kernel
theorem dX8_codesOf_20 : decode cX8_codesOf 20 = .ok (.iadd, 1) := by decide +kernel
theorem dX8_codesOf_21 : decode cX8_codesOf 21 = .ok (.goto 18, 3) := by decide +kernel
theorem dX8_codesOf_24 : decode cX8_codesOf 24 = .ok (.aload_n 0, 1) := by decide +kernel
theorem dX8_codesOf_25 : decode cX8_codesOf 25 = .ok (.getfield 43, 3) := by decide +kernel
theorem dX8_codesOf_28 : decode cX8_codesOf 28 = .ok (.iload_n 1, 1) := by decide +kernel
theorem dX8_codesOf_29 : decode cX8_codesOf 29 = .ok (.iaload, 1) := by decide +kernel
theorem dX8_codesOf_30 : decode cX8_codesOf 30 = .ok (.iconst 1, 1) := by decide +kernel
theorem dX8_codesOf_31 : decode cX8_codesOf 31 = .ok (.if_icmp .ne 7, 3) := by decide +kernel
theorem dX8_codesOf_34 : decode cX8_codesOf 34 = .ok (.iconst 4, 1) := by decide +kernel
theorem dX8_codesOf_35 : decode cX8_codesOf 35 = .ok (.goto 4, 3) := by decide +kernel
theorem dX8_codesOf_38 : decode cX8_codesOf 38 = .ok (.iconst 2, 1) := by decide +kernel
theorem dX8_codesOf_39 : decode cX8_codesOf 39 = .ok (.ireturn, 1) := by decide +kernel
theorem dX8_play_0 : decode cX8_play 0 = .ok (.aload_n 0, 1) := by decide +kernel
theorem dX8_play_1 : decode cX8_play 1 = .ok (.iconst 0, 1) := by decide +kernel
theorem dX8_play_2 : decode cX8_play 2 = .ok (.putfield 57, 3) := by decide +kernel
theorem dX8_play_5 : decode cX8_play 5 = .ok (.aload_n 0, 1) := by decide +kernel
theorem dX8_play_6 : decode cX8_play 6 = .ok (.invokevirtual 158, 3) := by decide +kernel
theorem dX8_play_9 : decode cX8_play 9 = .ok (.aload_n 0, 1) := by decide +kernel
theorem dX8_play_10 : decode cX8_play 10 = .ok (.iconst 0, 1) := by decide +kernel
theorem dX8_play_11 : decode cX8_play 11 = .ok (.putfield 343, 3) := by decide +kernel
theorem dX8_play_14 : decode cX8_play 14 = .ok (.aload_n 0, 1) := by decide +kernel
theorem dX8_play_15 : decode cX8_play 15 = .ok (.iconst 0, 1) := by decide +kernel
theorem dX8_play_16 : decode cX8_play 16 = .ok (.putfield 368, 3) := by decide +kernel
theorem dX8_play_19 : decode cX8_play 19 = .ok (.iconst 1, 1) := by decide +kernel
theorem dX8_play_20 : decode cX8_play 20 = .ok (.istore_n 1, 1) := by decide +kernel
theorem dX8_play_21 : decode cX8_play 21 = .ok (.iload_n 1, 1) := by decide +kernel
theorem dX8_play_22 : decode cX8_play 22 = .ok (.ifCond .eq 33, 3) := by decide +kernel
theorem dX8_play_25 : decode cX8_play 25 = .ok (.aload_n 0, 1) := by decide +kernel
theorem dX8_play_26 : decode cX8_play 26 = .ok (.getfield 91, 3) := by decide +kernel
theorem dX8_play_29 : decode cX8_play 29 = .ok (.ifCond .eq 26, 3) := by decide +kernel
theorem dX8_play_32 : decode cX8_play 32 = .ok (.aload_n 0, 1) := by decide +kernel
theorem dX8_play_33 : decode cX8_play 33 = .ok (.invokevirtual 380, 3) := by decide +kernel
theorem dX8_play_36 : decode cX8_play 36 = .ok (.ifCond .eq 14, 3) := by decide +kernel
theorem dX8_play_39 : decode cX8_play 39 = .ok (.aload_n 0, 1) := by decide +kernel
theorem dX8_play_40 : decode cX8_play 40 = .ok (.invokevirtual 163, 3) := by decide +kernel
theorem dX8_play_43 : decode cX8_play 43 = .ok (.ifCond .eq 7, 3) := by decide +kernel
theorem dX8_play_46 : decode cX8_play 46 = .ok (.iconst 1, 1) := by decide +kernel
theorem dX8_play_47 : decode cX8_play 47 = .ok (.goto 4, 3) := by decide +kernel
theorem dX8_play_50 : decode cX8_play 50 = .ok (.iconst 0, 1) := by decide +kernel
theorem dX8_play_51 : decode cX8_play 51 = .ok (.istore_n 1, 1) := by decide +kernel
theorem dX8_play_52 : decode cX8_play 52 = .ok (.goto (-31), 3) := by decide +kernel
theorem dX8_play_55 : decode cX8_play 55 = .ok (.aload_n 0, 1) := by decide +kernel
theorem dX8_play_56 : decode cX8_play 56 = .ok (.iconst 0, 1) := by decide +kernel
theorem dX8_play_57 : decode cX8_play 57 = .ok (.putfield 68, 3) := by decide +kernel
theorem dX8_play_60 : decode cX8_play 60 = .ok (.iload_n 1, 1) := by decide +kernel
theorem dX8_play_61 : decode cX8_play 61 = .ok (.ifCond .ne 5, 3) := by decide +kernel
theorem dX8_play_64 : decode cX8_play 64 = .ok (.iconst (-1), 1) := by decide +kernel
theorem dX8_play_65 : decode cX8_play 65 = .ok (.ireturn, 1) := by decide +kernel
theorem dX8_play_66 : decode cX8_play 66 = .ok (.iconst 0, 1) := by decide +kernel
theorem dX8_play_67 : decode cX8_play 67 = .ok (.istore_n 2, 1) := by decide +kernel
theorem dX8_play_68 : decode cX8_play 68 = .ok (.iconst 0, 1) := by decide +kernel
theorem dX8_play_69 : decode cX8_play 69 = .ok (.istore_n 3, 1) := by decide +kernel
theorem dX8_play_70 : decode cX8_play 70 = .ok (.iload_n 2, 1) := by decide +kernel
theorem dX8_play_71 : decode cX8_play 71 = .ok (.aload_n 0, 1) := by decide +kernel
theorem dX8_play_72 : decode cX8_play 72 = .ok (.getfield 368, 3) := by decide +kernel
theorem dX8_play_75 : decode cX8_play 75 = .ok (.if_icmp .ge 25, 3) := by decide +kernel
theorem dX8_play_78 : decode cX8_play 78 = .ok (.aload_n 0, 1) := by decide +kernel
theorem dX8_play_79 : decode cX8_play 79 = .ok (.iload_n 3, 1) := by decide +kernel
theorem dX8_play_80 : decode cX8_play 80 = .ok (.invokevirtual 383, 3) := by decide +kernel
theorem dX8_play_83 : decode cX8_play 83 = .ok (.ifCond .lt 17, 3) := by decide +kernel
theorem dX8_play_86 : decode cX8_play 86 = .ok (.iload_n 3, 1) := by decide +kernel
theorem dX8_play_87 : decode cX8_play 87 = .ok (.aload_n 0, 1) := by decide +kernel
theorem dX8_play_88 : decode cX8_play 88 = .ok (.iload_n 3, 1) := by decide +kernel
theorem dX8_play_89 : decode cX8_play 89 = .ok (.invokevirtual 386, 3) := by decide +kernel
theorem dX8_play_92 : decode cX8_play 92 = .ok (.iadd, 1) := by decide +kernel
theorem dX8_play_93 : decode cX8_play 93 = .ok (.istore_n 3, 1) := by decide +kernel
theorem dX8_play_94 : decode cX8_play 94 = .ok (.iinc 2 1, 3) := by decide +kernel
theorem dX8_play_97 : decode cX8_play 97 = .ok (.goto (-27), 3) := by decide +kernel
theorem dX8_play_100 : decode cX8_play 100 = .ok (.iload_n 2, 1) := by decide +kernel
theorem dX8_play_101 : decode cX8_play 101 = .ok (.ireturn, 1) := by decide +kernel
theorem dX8_writes_0 : decode cX8_writes 0 = .ok (.aload_n 0, 1) := by decide +kernel
theorem dX8_writes_1 : decode cX8_writes 1 = .ok (.getfield 46, 3) := by decide +kernel
theorem dX8_writes_4 : decode cX8_writes 4 = .ok (.aload_n 0, 1) := by decide +kernel
theorem dX8_writes_5 : decode cX8_writes 5 = .ok (.getfield 389, 3) := by decide +kernel
theorem dX8_writes_8 : decode cX8_writes 8 = .ok (.iload_n 1, 1) := by decide +kernel
theorem dX8_writes_9 : decode cX8_writes 9 = .ok (.iastore, 1) := by decide +kernel
theorem dX8_writes_10 : decode cX8_writes 10 = .ok (.aload_n 0, 1) := by decide +kernel
theorem dX8_writes_11 : decode cX8_writes 11 = .ok (.dup, 1) := by decide +kernel
theorem dX8_writes_12 : decode cX8_writes 12 = .ok (.getfield 389, 3) := by decide +kernel
theorem dX8_writes_15 : decode cX8_writes 15 = .ok (.iconst 1, 1) := by decide +kernel
theorem dX8_writes_16 : decode cX8_writes 16 = .ok (.iadd, 1) := by decide +kernel
theorem dX8_writes_17 : decode cX8_writes 17 = .ok (.putfield 389, 3) := by decide +kernel
theorem dX8_writes_20 : decode cX8_writes 20 = .ok (.return_, 1) := by decide +kernel
theorem dX8_writesNumber_0 : decode cX8_writesNumber 0 = .ok (.iload_n 1, 1) := by decide +kernel
theorem dX8_writesNumber_1 : decode cX8_writesNumber 1 = .ok (.ifCond .ge 9, 3) := by decide +kernel
theorem dX8_writesNumber_4 : decode cX8_writesNumber 4 = .ok (.aload_n 0, 1) := by decide +kernel
theorem dX8_writesNumber_5 : decode cX8_writesNumber 5 = .ok (.bipush 45, 2) := by decide +kernel
theorem dX8_writesNumber_7 : decode cX8_writesNumber 7 = .ok (.invokevirtual 392, 3) := by decide +kernel
theorem dX8_writesNumber_10 : decode cX8_writesNumber 10 = .ok (.iload_n 1, 1) := by decide +kernel
theorem dX8_writesNumber_11 : decode cX8_writesNumber 11 = .ok (.ifCond .ge 8, 3) := by decide +kernel
theorem dX8_writesNumber_14 : decode cX8_writesNumber 14 = .ok (.iload_n 1, 1) := by decide +kernel
theorem dX8_writesNumber_15 : decode cX8_writesNumber 15 = .ok (.ineg, 1) := by decide +kernel
theorem dX8_writesNumber_16 : decode cX8_writesNumber 16 = .ok (.goto 4, 3) := by decide +kernel
theorem dX8_writesNumber_19 : decode cX8_writesNumber 19 = .ok (.iload_n 1, 1) := by decide +kernel
theorem dX8_writesNumber_20 : decode cX8_writesNumber 20 = .ok (.istore_n 2, 1) := by decide +kernel
theorem dX8_writesNumber_21 : decode cX8_writesNumber 21 = .ok (.iconst 1, 1) := by decide +kernel
theorem dX8_writesNumber_22 : decode cX8_writesNumber 22 = .ok (.istore_n 3, 1) := by decide +kernel
theorem dX8_writesNumber_23 : decode cX8_writesNumber 23 = .ok (.iload_n 2, 1) := by decide +kernel
theorem dX8_writesNumber_24 : decode cX8_writesNumber 24 = .ok (.iload_n 3, 1) := by decide +kernel
theorem dX8_writesNumber_25 : decode cX8_writesNumber 25 = .ok (.idiv, 1) := by decide +kernel
theorem dX8_writesNumber_26 : decode cX8_writesNumber 26 = .ok (.bipush 9, 2) := by decide +kernel
theorem dX8_writesNumber_28 : decode cX8_writesNumber 28 = .ok (.if_icmp .le 11, 3) := by decide +kernel
theorem dX8_writesNumber_31 : decode cX8_writesNumber 31 = .ok (.iload_n 3, 1) := by decide +kernel
theorem dX8_writesNumber_32 : decode cX8_writesNumber 32 = .ok (.bipush 10, 2) := by decide +kernel
theorem dX8_writesNumber_34 : decode cX8_writesNumber 34 = .ok (.imul, 1) := by decide +kernel
theorem dX8_writesNumber_35 : decode cX8_writesNumber 35 = .ok (.istore_n 3, 1) := by decide +kernel
theorem dX8_writesNumber_36 : decode cX8_writesNumber 36 = .ok (.goto (-13), 3) := by decide +kernel
theorem dX8_writesNumber_39 : decode cX8_writesNumber 39 = .ok (.iload_n 3, 1) := by decide +kernel
theorem dX8_writesNumber_40 : decode cX8_writesNumber 40 = .ok (.ifCond .le 24, 3) := by decide +kernel
theorem dX8_writesNumber_43 : decode cX8_writesNumber 43 = .ok (.aload_n 0, 1) := by decide +kernel
theorem dX8_writesNumber_44 : decode cX8_writesNumber 44 = .ok (.bipush 48, 2) := by decide +kernel
theorem dX8_writesNumber_46 : decode cX8_writesNumber 46 = .ok (.iload_n 2, 1) := by decide +kernel
theorem dX8_writesNumber_47 : decode cX8_writesNumber 47 = .ok (.iload_n 3, 1) := by decide +kernel
theorem dX8_writesNumber_48 : decode cX8_writesNumber 48 = .ok (.idiv, 1) := by decide +kernel
theorem dX8_writesNumber_49 : decode cX8_writesNumber 49 = .ok (.bipush 10, 2) := by decide +kernel
theorem dX8_writesNumber_51 : decode cX8_writesNumber 51 = .ok (.irem, 1) := by decide +kernel
theorem dX8_writesNumber_52 : decode cX8_writesNumber 52 = .ok (.iadd, 1) := by decide +kernel
theorem dX8_writesNumber_53 : decode cX8_writesNumber 53 = .ok (.invokevirtual 392, 3) := by decide +kernel
theorem dX8_writesNumber_56 : decode cX8_writesNumber 56 = .ok (.iload_n 3, 1) := by decide +kernel
theorem dX8_writesNumber_57 : decode cX8_writesNumber 57 = .ok (.bipush 10, 2) := by decide +kernel
theorem dX8_writesNumber_59 : decode cX8_writesNumber 59 = .ok (.idiv, 1) := by decide +kernel
theorem dX8_writesNumber_60 : decode cX8_writesNumber 60 = .ok (.istore_n 3, 1) := by decide +kernel
theorem dX8_writesNumber_61 : decode cX8_writesNumber 61 = .ok (.goto (-22), 3) := by decide +kernel
theorem dX8_writesNumber_64 : decode cX8_writesNumber 64 = .ok (.return_, 1) := by decide +kernel
theorem dX8_writeString_0 : decode cX8_writeString 0 = .ok (.aload_n 0, 1) := by decide +kernel
theorem dX8_writeString_1 : decode cX8_writeString 1 = .ok (.iconst 0, 1) := by decide +kernel
theorem dX8_writeString_2 : decode cX8_writeString 2 = .ok (.putfield 57, 3) := by decide +kernel
theorem dX8_writeString_5 : decode cX8_writeString 5 = .ok (.aload_n 0, 1) := by decide +kernel
theorem dX8_writeString_6 : decode cX8_writeString 6 = .ok (.iconst 0, 1) := by decide +kernel
theorem dX8_writeString_7 : decode cX8_writeString 7 = .ok (.putfield 389, 3) := by decide +kernel
theorem dX8_writeString_10 : decode cX8_writeString 10 = .ok (.iconst 0, 1) := by decide +kernel
theorem dX8_writeString_11 : decode cX8_writeString 11 = .ok (.istore_n 1, 1) := by decide +kernel
theorem dX8_writeString_12 : decode cX8_writeString 12 = .ok (.iload_n 1, 1) := by decide +kernel
theorem dX8_writeString_13 : decode cX8_writeString 13 = .ok (.aload_n 0, 1) := by decide +kernel
theorem dX8_writeString_14 : decode cX8_writeString 14 = .ok (.getfield 7, 3) := by decide +kernel
theorem dX8_writeString_17 : decode cX8_writeString 17 = .ok (.iconst 0, 1) := by decide +kernel
theorem dX8_writeString_18 : decode cX8_writeString 18 = .ok (.iaload, 1) := by decide +kernel
theorem dX8_writeString_19 : decode cX8_writeString 19 = .ok (.if_icmp .ge 91, 3) := by decide +kernel
theorem dX8_writeString_22 : decode cX8_writeString 22 = .ok (.aload_n 0, 1) := by decide +kernel
theorem dX8_writeString_23 : decode cX8_writeString 23 = .ok (.iload_n 1, 1) := by decide +kernel
theorem dX8_writeString_24 : decode cX8_writeString 24 = .ok (.invokevirtual 395, 3) := by decide +kernel
theorem dX8_writeString_27 : decode cX8_writeString 27 = .ok (.aload_n 0, 1) := by decide +kernel
theorem dX8_writeString_28 : decode cX8_writeString 28 = .ok (.aload_n 0, 1) := by decide +kernel
theorem dX8_writeString_29 : decode cX8_writeString 29 = .ok (.getfield 7, 3) := by decide +kernel
theorem dX8_writeString_32 : decode cX8_writeString 32 = .ok (.bipush 52, 2) := by decide +kernel
theorem dX8_writeString_34 : decode cX8_writeString 34 = .ok (.iload_n 1, 1) := by decide +kernel
theorem dX8_writeString_35 : decode cX8_writeString 35 = .ok (.iadd, 1) := by decide +kernel
theorem dX8_writeString_36 : decode cX8_writeString 36 = .ok (.iaload, 1) := by decide +kernel
theorem dX8_writeString_37 : decode cX8_writeString 37 = .ok (.ifCond .ne 8, 3) := by decide +kernel
theorem dX8_writeString_40 : decode cX8_writeString 40 = .ok (.bipush 84, 2) := by decide +kernel
theorem dX8_writeString_42 : decode cX8_writeString 42 = .ok (.goto 23, 3) := by decide +kernel
theorem dX8_writeString_45 : decode cX8_writeString 45 = .ok (.aload_n 0, 1) := by decide +kernel
theorem dX8_writeString_46 : decode cX8_writeString 46 = .ok (.getfield 7, 3) := by decide +kernel
theorem dX8_writeString_49 : decode cX8_writeString 49 = .ok (.bipush 52, 2) := by decide +kernel
theorem dX8_writeString_51 : decode cX8_writeString 51 = .ok (.iload_n 1, 1) := by decide +kernel
theorem dX8_writeString_52 : decode cX8_writeString 52 = .ok (.iadd, 1) := by decide +kernel
theorem dX8_writeString_53 : decode cX8_writeString 53 = .ok (.iaload, 1) := by decide +kernel
theorem dX8_writeString_54 : decode cX8_writeString 54 = .ok (.iconst 1, 1) := by decide +kernel
theorem dX8_writeString_55 : decode cX8_writeString 55 = .ok (.if_icmp .ne 8, 3) := by decide +kernel
theorem dX8_writeString_58 : decode cX8_writeString 58 = .ok (.bipush 83, 2) := by decide +kernel
theorem dX8_writeString_60 : decode cX8_writeString 60 = .ok (.goto 5, 3) := by decide +kernel
theorem dX8_writeString_63 : decode cX8_writeString 63 = .ok (.bipush 68, 2) := by decide +kernel
theorem dX8_writeString_65 : decode cX8_writeString 65 = .ok (.invokevirtual 392, 3) := by decide +kernel
theorem dX8_writeString_68 : decode cX8_writeString 68 = .ok (.iload_n 1, 1) := by decide +kernel
theorem dX8_writeString_69 : decode cX8_writeString 69 = .ok (.iconst 1, 1) := by decide +kernel
theorem dX8_writeString_70 : decode cX8_writeString 70 = .ok (.iadd, 1) := by decide +kernel
theorem dX8_writeString_71 : decode cX8_writeString 71 = .ok (.aload_n 0, 1) := by decide +kernel
theorem dX8_writeString_72 : decode cX8_writeString 72 = .ok (.getfield 7, 3) := by decide +kernel
theorem dX8_writeString_75 : decode cX8_writeString 75 = .ok (.iconst 0, 1) := by decide +kernel
theorem dX8_writeString_76 : decode cX8_writeString 76 = .ok (.iaload, 1) := by decide +kernel
theorem dX8_writeString_77 : decode cX8_writeString 77 = .ok (.if_icmp .ge 27, 3) := by decide +kernel
theorem dX8_writeString_80 : decode cX8_writeString 80 = .ok (.aload_n 0, 1) := by decide +kernel
theorem dX8_writeString_81 : decode cX8_writeString 81 = .ok (.aload_n 0, 1) := by decide +kernel
theorem dX8_writeString_82 : decode cX8_writeString 82 = .ok (.getfield 7, 3) := by decide +kernel
theorem dX8_writeString_85 : decode cX8_writeString 85 = .ok (.sipush 132, 3) := by decide +kernel
theorem dX8_writeString_88 : decode cX8_writeString 88 = .ok (.iload_n 1, 1) := by decide +kernel
theorem dX8_writeString_89 : decode cX8_writeString 89 = .ok (.iadd, 1) := by decide +kernel
theorem dX8_writeString_90 : decode cX8_writeString 90 = .ok (.iaload, 1) := by decide +kernel
theorem dX8_writeString_91 : decode cX8_writeString 91 = .ok (.ifCond .ne 8, 3) := by decide +kernel
theorem dX8_writeString_94 : decode cX8_writeString 94 = .ok (.bipush 45, 2) := by decide +kernel
theorem dX8_writeString_96 : decode cX8_writeString 96 = .ok (.goto 5, 3) := by decide +kernel
theorem dX8_writeString_99 : decode cX8_writeString 99 = .ok (.bipush 32, 2) := by decide +kernel
theorem dX8_writeString_101 : decode cX8_writeString 101 = .ok (.invokevirtual 392, 3) := by decide +kernel
theorem dX8_writeString_104 : decode cX8_writeString 104 = .ok (.iinc 1 1, 3) := by decide +kernel
theorem dX8_writeString_107 : decode cX8_writeString 107 = .ok (.goto (-95), 3) := by decide +kernel
theorem dX8_writeString_110 : decode cX8_writeString 110 = .ok (.aload_n 0, 1) := by decide +kernel
theorem dX8_writeString_111 : decode cX8_writeString 111 = .ok (.getfield 389, 3) := by decide +kernel
theorem dX8_writeString_114 : decode cX8_writeString 114 = .ok (.ireturn, 1) := by decide +kernel
theorem dX8_writeHours_0 : decode cX8_writeHours 0 = .ok (.aload_n 0, 1) := by decide +kernel
theorem dX8_writeHours_1 : decode cX8_writeHours 1 = .ok (.iconst 0, 1) := by decide +kernel
theorem dX8_writeHours_2 : decode cX8_writeHours 2 = .ok (.putfield 57, 3) := by decide +kernel
theorem dX8_writeHours_5 : decode cX8_writeHours 5 = .ok (.aload_n 0, 1) := by decide +kernel
theorem dX8_writeHours_6 : decode cX8_writeHours 6 = .ok (.iconst 0, 1) := by decide +kernel
theorem dX8_writeHours_7 : decode cX8_writeHours 7 = .ok (.putfield 389, 3) := by decide +kernel
theorem dX8_writeHours_10 : decode cX8_writeHours 10 = .ok (.aload_n 0, 1) := by decide +kernel
theorem dX8_writeHours_11 : decode cX8_writeHours 11 = .ok (.invokevirtual 203, 3) := by decide +kernel
theorem dX8_writeHours_14 : decode cX8_writeHours 14 = .ok (.istore_n 1, 1) := by decide +kernel
theorem dX8_writeHours_15 : decode cX8_writeHours 15 = .ok (.iload_n 1, 1) := by decide +kernel
theorem dX8_writeHours_16 : decode cX8_writeHours 16 = .ok (.aload_n 0, 1) := by decide +kernel
theorem dX8_writeHours_17 : decode cX8_writeHours 17 = .ok (.getfield 7, 3) := by decide +kernel
theorem dX8_writeHours_20 : decode cX8_writeHours 20 = .ok (.iconst 5, 1) := by decide +kernel
theorem dX8_writeHours_21 : decode cX8_writeHours 21 = .ok (.iaload, 1) := by decide +kernel
theorem dX8_writeHours_22 : decode cX8_writeHours 22 = .ok (.if_icmp .ge 62, 3) := by decide +kernel
theorem dX8_writeHours_25 : decode cX8_writeHours 25 = .ok (.iload_n 1, 1) := by decide +kernel
theorem dX8_writeHours_26 : decode cX8_writeHours 26 = .ok (.aload_n 0, 1) := by decide +kernel
theorem dX8_writeHours_27 : decode cX8_writeHours 27 = .ok (.invokevirtual 203, 3) := by decide +kernel
theorem dX8_writeHours_30 : decode cX8_writeHours 30 = .ok (.if_icmp .le 9, 3) := by decide +kernel
theorem dX8_writeHours_33 : decode cX8_writeHours 33 = .ok (.aload_n 0, 1) := by decide +kernel
theorem dX8_writeHours_34 : decode cX8_writeHours 34 = .ok (.bipush 32, 2) := by decide +kernel
theorem dX8_writeHours_36 : decode cX8_writeHours 36 = .ok (.invokevirtual 392, 3) := by decide +kernel
theorem dX8_writeHours_39 : decode cX8_writeHours 39 = .ok (.aload_n 0, 1) := by decide +kernel
theorem dX8_writeHours_40 : decode cX8_writeHours 40 = .ok (.iload_n 1, 1) := by decide +kernel
theorem dX8_writeHours_41 : decode cX8_writeHours 41 = .ok (.invokevirtual 395, 3) := by decide +kernel
theorem dX8_writeHours_44 : decode cX8_writeHours 44 = .ok (.aload_n 0, 1) := by decide +kernel
theorem dX8_writeHours_45 : decode cX8_writeHours 45 = .ok (.iload_n 1, 1) := by decide +kernel
theorem dX8_writeHours_46 : decode cX8_writeHours 46 = .ok (.iconst 2, 1) := by decide +kernel
theorem dX8_writeHours_47 : decode cX8_writeHours 47 = .ok (.invokevirtual 209, 3) := by decide +kernel
theorem dX8_writeHours_50 : decode cX8_writeHours 50 = .ok (.ifCond .ne 12, 3) := by decide +kernel
theorem dX8_writeHours_53 : decode cX8_writeHours 53 = .ok (.aload_n 0, 1) := by decide +kernel
theorem dX8_writeHours_54 : decode cX8_writeHours 54 = .ok (.bipush 63, 2) := by decide +kernel
theorem dX8_writeHours_56 : decode cX8_writeHours 56 = .ok (.invokevirtual 392, 3) := by decide +kernel
theorem dX8_writeHours_59 : decode cX8_writeHours 59 = .ok (.goto 19, 3) := by decide +kernel
theorem dX8_writeHours_62 : decode cX8_writeHours 62 = .ok (.aload_n 0, 1) := by decide +kernel
theorem dX8_writeHours_63 : decode cX8_writeHours 63 = .ok (.bipush 61, 2) := by decide +kernel
theorem dX8_writeHours_65 : decode cX8_writeHours 65 = .ok (.invokevirtual 392, 3) := by decide +kernel
theorem dX8_writeHours_68 : decode cX8_writeHours 68 = .ok (.aload_n 0, 1) := by decide +kernel
theorem dX8_writeHours_69 : decode cX8_writeHours 69 = .ok (.aload_n 0, 1) := by decide +kernel
theorem dX8_writeHours_70 : decode cX8_writeHours 70 = .ok (.iload_n 1, 1) := by decide +kernel
theorem dX8_writeHours_71 : decode cX8_writeHours 71 = .ok (.iconst 5, 1) := by decide +kernel
theorem dX8_writeHours_72 : decode cX8_writeHours 72 = .ok (.invokevirtual 209, 3) := by decide +kernel
theorem dX8_writeHours_75 : decode cX8_writeHours 75 = .ok (.invokevirtual 395, 3) := by decide +kernel
theorem dX8_writeHours_78 : decode cX8_writeHours 78 = .ok (.iinc 1 1, 3) := by decide +kernel
theorem dX8_writeHours_81 : decode cX8_writeHours 81 = .ok (.goto (-66), 3) := by decide +kernel
theorem dX8_writeHours_84 : decode cX8_writeHours 84 = .ok (.aload_n 0, 1) := by decide +kernel
theorem dX8_writeHours_85 : decode cX8_writeHours 85 = .ok (.getfield 389, 3) := by decide +kernel
theorem dX8_writeHours_88 : decode cX8_writeHours 88 = .ok (.ireturn, 1) := by decide +kernel
theorem dX8_output_0 : decode cX8_output 0 = .ok (.aload_n 0, 1) := by decide +kernel
theorem dX8_output_1 : decode cX8_output 1 = .ok (.iconst 0, 1) := by decide +kernel
theorem dX8_output_2 : decode cX8_output 2 = .ok (.putfield 57, 3) := by decide +kernel
theorem dX8_output_5 : decode cX8_output 5 = .ok (.aload_n 0, 1) := by decide +kernel
theorem dX8_output_6 : decode cX8_output 6 = .ok (.iload_n 1, 1) := by decide +kernel
theorem dX8_output_7 : decode cX8_output 7 = .ok (.iconst 0, 1) := by decide +kernel
theorem dX8_output_8 : decode cX8_output 8 = .ok (.aload_n 0, 1) := by decide +kernel
theorem dX8_output_9 : decode cX8_output 9 = .ok (.getfield 389, 3) := by decide +kernel
theorem dX8_output_12 : decode cX8_output 12 = .ok (.iconst 1, 1) := by decide +kernel
theorem dX8_output_13 : decode cX8_output 13 = .ok (.isub, 1) := by decide +kernel
theorem dX8_output_14 : decode cX8_output 14 = .ok (.invokestatic 60, 3) := by decide +kernel
theorem dX8_output_17 : decode cX8_output 17 = .ok (.ifCond .ne 7, 3) := by decide +kernel
theorem dX8_output_20 : decode cX8_output 20 = .ok (.iconst 1, 1) := by decide +kernel
theorem dX8_output_21 : decode cX8_output 21 = .ok (.goto 4, 3) := by decide +kernel
theorem dX8_output_24 : decode cX8_output 24 = .ok (.iconst 0, 1) := by decide +kernel
theorem dX8_output_25 : decode cX8_output 25 = .ok (.iconst 1, 1) := by decide +kernel
theorem dX8_output_26 : decode cX8_output 26 = .ok (.invokevirtual 64, 3) := by decide +kernel
theorem dX8_output_29 : decode cX8_output 29 = .ok (.ifCond .eq 7, 3) := by decide +kernel
theorem dX8_output_32 : decode cX8_output 32 = .ok (.iconst 0, 1) := by decide +kernel
theorem dX8_output_33 : decode cX8_output 33 = .ok (.goto 9, 3) := by decide +kernel
theorem dX8_output_36 : decode cX8_output 36 = .ok (.aload_n 0, 1) := by decide +kernel
theorem dX8_output_37 : decode cX8_output 37 = .ok (.getfield 46, 3) := by decide +kernel
theorem dX8_output_40 : decode cX8_output 40 = .ok (.iload_n 1, 1) := by decide +kernel
theorem dX8_output_41 : decode cX8_output 41 = .ok (.iaload, 1) := by decide +kernel
theorem dX8_output_42 : decode cX8_output 42 = .ok (.ireturn, 1) := by decide +kernel
theorem dX8_undo_0 : decode cX8_undo 0 = .ok (.aload_n 0, 1) := by decide +kernel
theorem dX8_undo_1 : decode cX8_undo 1 = .ok (.iconst 0, 1) := by decide +kernel
theorem dX8_undo_2 : decode cX8_undo 2 = .ok (.putfield 57, 3) := by decide +kernel
theorem dX8_undo_5 : decode cX8_undo 5 = .ok (.aload_n 0, 1) := by decide +kernel
theorem dX8_undo_6 : decode cX8_undo 6 = .ok (.aload_n 0, 1) := by decide +kernel
theorem dX8_undo_7 : decode cX8_undo 7 = .ok (.getfield 173, 3) := by decide +kernel
theorem dX8_undo_10 : decode cX8_undo 10 = .ok (.ifCond .ne 7, 3) := by decide +kernel
theorem dX8_undo_13 : decode cX8_undo 13 = .ok (.iconst 1, 1) := by decide +kernel
theorem dX8_undo_14 : decode cX8_undo 14 = .ok (.goto 4, 3) := by decide +kernel
theorem dX8_undo_17 : decode cX8_undo 17 = .ok (.iconst 0, 1) := by decide +kernel
theorem dX8_undo_18 : decode cX8_undo 18 = .ok (.iconst 1, 1) := by decide +kernel
theorem dX8_undo_19 : decode cX8_undo 19 = .ok (.invokevirtual 64, 3) := by decide +kernel
theorem dX8_undo_22 : decode cX8_undo 22 = .ok (.ifCond .eq 5, 3) := by decide +kernel
theorem dX8_undo_25 : decode cX8_undo 25 = .ok (.iconst 0, 1) := by decide +kernel
theorem dX8_undo_26 : decode cX8_undo 26 = .ok (.ireturn, 1) := by decide +kernel
theorem dX8_undo_27 : decode cX8_undo 27 = .ok (.aload_n 0, 1) := by decide +kernel
theorem dX8_undo_28 : decode cX8_undo 28 = .ok (.dup, 1) := by decide +kernel
theorem dX8_undo_29 : decode cX8_undo 29 = .ok (.getfield 173, 3) := by decide +kernel
theorem dX8_undo_32 : decode cX8_undo 32 = .ok (.iconst 1, 1) := by decide +kernel
theorem dX8_undo_33 : decode cX8_undo 33 = .ok (.isub, 1) := by decide +kernel
theorem dX8_undo_34 : decode cX8_undo 34 = .ok (.putfield 173, 3) := by decide +kernel
theorem dX8_undo_37 : decode cX8_undo 37 = .ok (.aload_n 0, 1) := by decide +kernel
theorem dX8_undo_38 : decode cX8_undo 38 = .ok (.getfield 19, 3) := by decide +kernel
theorem dX8_undo_41 : decode cX8_undo 41 = .ok (.sipush 574, 3) := by decide +kernel
theorem dX8_undo_44 : decode cX8_undo 44 = .ok (.aload_n 0, 1) := by decide +kernel
theorem dX8_undo_45 : decode cX8_undo 45 = .ok (.getfield 173, 3) := by decide +kernel
theorem dX8_undo_48 : decode cX8_undo 48 = .ok (.imul, 1) := by decide +kernel
theorem dX8_undo_49 : decode cX8_undo 49 = .ok (.aload_n 0, 1) := by decide +kernel
theorem dX8_undo_50 : decode cX8_undo 50 = .ok (.getfield 7, 3) := by decide +kernel
theorem dX8_undo_53 : decode cX8_undo 53 = .ok (.iconst 0, 1) := by decide +kernel
theorem dX8_undo_54 : decode cX8_undo 54 = .ok (.invokestatic 169, 3) := by decide +kernel
theorem dX8_undo_57 : decode cX8_undo 57 = .ok (.aload_n 0, 1) := by decide +kernel
theorem dX8_undo_58 : decode cX8_undo 58 = .ok (.getfield 173, 3) := by decide +kernel
theorem dX8_undo_61 : decode cX8_undo 61 = .ok (.ireturn, 1) := by decide +kernel
theorem dX8_noSlot_0 : decode cX8_noSlot 0 = .ok (.aload_n 0, 1) := by decide +kernel
theorem dX8_noSlot_1 : decode cX8_noSlot 1 = .ok (.iconst 0, 1) := by decide +kernel
theorem dX8_noSlot_2 : decode cX8_noSlot 2 = .ok (.putfield 57, 3) := by decide +kernel
theorem dX8_noSlot_5 : decode cX8_noSlot 5 = .ok (.aload_n 0, 1) := by decide +kernel
theorem dX8_noSlot_6 : decode cX8_noSlot 6 = .ok (.iload_n 1, 1) := by decide +kernel
theorem dX8_noSlot_7 : decode cX8_noSlot 7 = .ok (.iconst 0, 1) := by decide +kernel
theorem dX8_noSlot_8 : decode cX8_noSlot 8 = .ok (.iconst 1, 1) := by decide +kernel
theorem dX8_noSlot_9 : decode cX8_noSlot 9 = .ok (.invokestatic 60, 3) := by decide +kernel
theorem dX8_noSlot_12 : decode cX8_noSlot 12 = .ok (.ifCond .ne 7, 3) := by decide +kernel
theorem dX8_noSlot_15 : decode cX8_noSlot 15 = .ok (.iconst 1, 1) := by decide +kernel
theorem dX8_noSlot_16 : decode cX8_noSlot 16 = .ok (.goto 4, 3) := by decide +kernel
theorem dX8_noSlot_19 : decode cX8_noSlot 19 = .ok (.iconst 0, 1) := by decide +kernel
theorem dX8_noSlot_20 : decode cX8_noSlot 20 = .ok (.iconst 1, 1) := by decide +kernel
theorem dX8_noSlot_21 : decode cX8_noSlot 21 = .ok (.invokevirtual 64, 3) := by decide +kernel
theorem dX8_noSlot_24 : decode cX8_noSlot 24 = .ok (.ireturn, 1) := by decide +kernel
theorem dX8_save_0 : decode cX8_save 0 = .ok (.aload_n 0, 1) := by decide +kernel
theorem dX8_save_1 : decode cX8_save 1 = .ok (.iload_n 1, 1) := by decide +kernel
theorem dX8_save_2 : decode cX8_save 2 = .ok (.invokevirtual 398, 3) := by decide +kernel
theorem dX8_save_5 : decode cX8_save 5 = .ok (.ifCond .eq 5, 3) := by decide +kernel
theorem dX8_save_8 : decode cX8_save 8 = .ok (.iconst 0, 1) := by decide +kernel
theorem dX8_save_9 : decode cX8_save 9 = .ok (.ireturn, 1) := by decide +kernel
theorem dX8_save_10 : decode cX8_save 10 = .ok (.aload_n 0, 1) := by decide +kernel
theorem dX8_save_11 : decode cX8_save 11 = .ok (.getfield 7, 3) := by decide +kernel
theorem dX8_save_14 : decode cX8_save 14 = .ok (.iconst 0, 1) := by decide +kernel
theorem dX8_save_15 : decode cX8_save 15 = .ok (.aload_n 0, 1) := by decide +kernel
theorem dX8_save_16 : decode cX8_save 16 = .ok (.getfield 22, 3) := by decide +kernel
theorem dX8_save_19 : decode cX8_save 19 = .ok (.sipush 574, 3) := by decide +kernel
theorem dX8_save_22 : decode cX8_save 22 = .ok (.iload_n 1, 1) := by decide +kernel
theorem dX8_save_23 : decode cX8_save 23 = .ok (.imul, 1) := by decide +kernel
theorem dX8_save_24 : decode cX8_save 24 = .ok (.invokestatic 169, 3) := by decide +kernel
theorem dX8_save_27 : decode cX8_save 27 = .ok (.aload_n 0, 1) := by decide +kernel
theorem dX8_save_28 : decode cX8_save 28 = .ok (.getfield 25, 3) := by decide +kernel
theorem dX8_save_31 : decode cX8_save 31 = .ok (.iload_n 1, 1) := by decide +kernel
theorem dX8_save_32 : decode cX8_save 32 = .ok (.iconst 1, 1) := by decide +kernel
theorem dX8_save_33 : decode cX8_save 33 = .ok (.bastore, 1) := by decide +kernel
theorem dX8_save_34 : decode cX8_save 34 = .ok (.aload_n 0, 1) := by decide +kernel
theorem dX8_save_35 : decode cX8_save 35 = .ok (.getfield 7, 3) := by decide +kernel
theorem dX8_save_38 : decode cX8_save 38 = .ok (.iconst 5, 1) := by decide +kernel
theorem dX8_save_39 : decode cX8_save 39 = .ok (.iaload, 1) := by decide +kernel
theorem dX8_save_40 : decode cX8_save 40 = .ok (.ireturn, 1) := by decide +kernel
theorem dX8_restore_0 : decode cX8_restore 0 = .ok (.aload_n 0, 1) := by decide +kernel
theorem dX8_restore_1 : decode cX8_restore 1 = .ok (.iload_n 1, 1) := by decide +kernel
theorem dX8_restore_2 : decode cX8_restore 2 = .ok (.invokevirtual 398, 3) := by decide +kernel
theorem dX8_restore_5 : decode cX8_restore 5 = .ok (.ifCond .ne 25, 3) := by decide +kernel
theorem dX8_restore_8 : decode cX8_restore 8 = .ok (.aload_n 0, 1) := by decide +kernel
theorem dX8_restore_9 : decode cX8_restore 9 = .ok (.aload_n 0, 1) := by decide +kernel
theorem dX8_restore_10 : decode cX8_restore 10 = .ok (.getfield 25, 3) := by decide +kernel
theorem dX8_restore_13 : decode cX8_restore 13 = .ok (.iload_n 1, 1) := by decide +kernel
theorem dX8_restore_14 : decode cX8_restore 14 = .ok (.baload, 1) := by decide +kernel
theorem dX8_restore_15 : decode cX8_restore 15 = .ok (.ifCond .ne 7, 3) := by decide +kernel
theorem dX8_restore_18 : decode cX8_restore 18 = .ok (.iconst 1, 1) := by decide +kernel
theorem dX8_restore_19 : decode cX8_restore 19 = .ok (.goto 4, 3) := by decide +kernel
theorem dX8_restore_22 : decode cX8_restore 22 = .ok (.iconst 0, 1) := by decide +kernel
theorem dX8_restore_23 : decode cX8_restore 23 = .ok (.iconst 2, 1) := by decide +kernel
theorem dX8_restore_24 : decode cX8_restore 24 = .ok (.invokevirtual 64, 3) := by decide +kernel
theorem dX8_restore_27 : decode cX8_restore 27 = .ok (.ifCond .eq 5, 3) := by decide +kernel
theorem dX8_restore_30 : decode cX8_restore 30 = .ok (.iconst 0, 1) := by decide +kernel
theorem dX8_restore_31 : decode cX8_restore 31 = .ok (.ireturn, 1) := by decide +kernel
theorem dX8_restore_32 : decode cX8_restore 32 = .ok (.aload_n 0, 1) := by decide +kernel
theorem dX8_restore_33 : decode cX8_restore 33 = .ok (.getfield 22, 3) := by decide +kernel
theorem dX8_restore_36 : decode cX8_restore 36 = .ok (.sipush 574, 3) := by decide +kernel
theorem dX8_restore_39 : decode cX8_restore 39 = .ok (.iload_n 1, 1) := by decide +kernel
theorem dX8_restore_40 : decode cX8_restore 40 = .ok (.imul, 1) := by decide +kernel
theorem dX8_restore_41 : decode cX8_restore 41 = .ok (.aload_n 0, 1) := by decide +kernel
theorem dX8_restore_42 : decode cX8_restore 42 = .ok (.getfield 7, 3) := by decide +kernel
theorem dX8_restore_45 : decode cX8_restore 45 = .ok (.iconst 0, 1) := by decide +kernel
theorem dX8_restore_46 : decode cX8_restore 46 = .ok (.invokestatic 169, 3) := by decide +kernel
theorem dX8_restore_49 : decode cX8_restore 49 = .ok (.aload_n 0, 1) := by decide +kernel
theorem dX8_restore_50 : decode cX8_restore 50 = .ok (.iconst 0, 1) := by decide +kernel
theorem dX8_restore_51 : decode cX8_restore 51 = .ok (.putfield 173, 3) := by decide +kernel
theorem dX8_restore_54 : decode cX8_restore 54 = .ok (.aload_n 0, 1) := by decide +kernel
theorem dX8_restore_55 : decode cX8_restore 55 = .ok (.getfield 7, 3) := by decide +kernel
theorem dX8_restore_58 : decode cX8_restore 58 = .ok (.iconst 0, 1) := by decide +kernel
theorem dX8_restore_59 : decode cX8_restore 59 = .ok (.iaload, 1) := by decide +kernel
theorem dX8_restore_60 : decode cX8_restore 60 = .ok (.ireturn, 1) := by decide +kernel
theorem dJ6_bitCount_0f7a4_0 : decode cJ6_bitCount_0f7a4 0 = .ok (.iload_n 0, 1) := by decide +kernel
theorem dJ6_bitCount_0f7a4_1 : decode cJ6_bitCount_0f7a4 1 = .ok (.iload_n 0, 1) := by decide +kernel
theorem dJ6_bitCount_0f7a4_2 : decode cJ6_bitCount_0f7a4 2 = .ok (.iconst 1, 1) := by decide +kernel
theorem dJ6_bitCount_0f7a4_3 : decode cJ6_bitCount_0f7a4 3 = .ok (.iushr, 1) := by decide +kernel
theorem dJ6_bitCount_0f7a4_4 : decode cJ6_bitCount_0f7a4 4 = .ok (.ldc_w 265, 3) := by decide +kernel
theorem dJ6_bitCount_0f7a4_7 : decode cJ6_bitCount_0f7a4 7 = .ok (.iand, 1) := by decide +kernel
theorem dJ6_bitCount_0f7a4_8 : decode cJ6_bitCount_0f7a4 8 = .ok (.isub, 1) := by decide +kernel
theorem dJ6_bitCount_0f7a4_9 : decode cJ6_bitCount_0f7a4 9 = .ok (.istore_n 0, 1) := by decide +kernel
theorem dJ6_bitCount_0f7a4_10 : decode cJ6_bitCount_0f7a4 10 = .ok (.iload_n 0, 1) := by decide +kernel
theorem dJ6_bitCount_0f7a4_11 : decode cJ6_bitCount_0f7a4 11 = .ok (.ldc_w 266, 3) := by decide +kernel
theorem dJ6_bitCount_0f7a4_14 : decode cJ6_bitCount_0f7a4 14 = .ok (.iand, 1) := by decide +kernel
theorem dJ6_bitCount_0f7a4_15 : decode cJ6_bitCount_0f7a4 15 = .ok (.iload_n 0, 1) := by decide +kernel
theorem dJ6_bitCount_0f7a4_16 : decode cJ6_bitCount_0f7a4 16 = .ok (.iconst 2, 1) := by decide +kernel
theorem dJ6_bitCount_0f7a4_17 : decode cJ6_bitCount_0f7a4 17 = .ok (.iushr, 1) := by decide +kernel
theorem dJ6_bitCount_0f7a4_18 : decode cJ6_bitCount_0f7a4 18 = .ok (.ldc_w 266, 3) := by decide +kernel
theorem dJ6_bitCount_0f7a4_21 : decode cJ6_bitCount_0f7a4 21 = .ok (.iand, 1) := by decide +kernel
theorem dJ6_bitCount_0f7a4_22 : decode cJ6_bitCount_0f7a4 22 = .ok (.iadd, 1) := by decide +kernel
theorem dJ6_bitCount_0f7a4_23 : decode cJ6_bitCount_0f7a4 23 = .ok (.istore_n 0, 1) := by decide +kernel
theorem dJ6_bitCount_0f7a4_24 : decode cJ6_bitCount_0f7a4 24 = .ok (.iload_n 0, 1) := by decide +kernel
theorem dJ6_bitCount_0f7a4_25 : decode cJ6_bitCount_0f7a4 25 = .ok (.iload_n 0, 1) := by decide +kernel
theorem dJ6_bitCount_0f7a4_26 : decode cJ6_bitCount_0f7a4 26 = .ok (.iconst 4, 1) := by decide +kernel
theorem dJ6_bitCount_0f7a4_27 : decode cJ6_bitCount_0f7a4 27 = .ok (.iushr, 1) := by decide +kernel
theorem dJ6_bitCount_0f7a4_28 : decode cJ6_bitCount_0f7a4 28 = .ok (.iadd, 1) := by decide +kernel
theorem dJ6_bitCount_0f7a4_29 : decode cJ6_bitCount_0f7a4 29 = .ok (.ldc_w 267, 3) := by decide +kernel
theorem dJ6_bitCount_0f7a4_32 : decode cJ6_bitCount_0f7a4 32 = .ok (.iand, 1) := by decide +kernel
theorem dJ6_bitCount_0f7a4_33 : decode cJ6_bitCount_0f7a4 33 = .ok (.istore_n 0, 1) := by decide +kernel
theorem dJ6_bitCount_0f7a4_34 : decode cJ6_bitCount_0f7a4 34 = .ok (.iload_n 0, 1) := by decide +kernel
theorem dJ6_bitCount_0f7a4_35 : decode cJ6_bitCount_0f7a4 35 = .ok (.iload_n 0, 1) := by decide +kernel
theorem dJ6_bitCount_0f7a4_36 : decode cJ6_bitCount_0f7a4 36 = .ok (.bipush 8, 2) := by decide +kernel
theorem dJ6_bitCount_0f7a4_38 : decode cJ6_bitCount_0f7a4 38 = .ok (.iushr, 1) := by decide +kernel
theorem dJ6_bitCount_0f7a4_39 : decode cJ6_bitCount_0f7a4 39 = .ok (.iadd, 1) := by decide +kernel
theorem dJ6_bitCount_0f7a4_40 : decode cJ6_bitCount_0f7a4 40 = .ok (.istore_n 0, 1) := by decide +kernel
theorem dJ6_bitCount_0f7a4_41 : decode cJ6_bitCount_0f7a4 41 = .ok (.iload_n 0, 1) := by decide +kernel
theorem dJ6_bitCount_0f7a4_42 : decode cJ6_bitCount_0f7a4 42 = .ok (.iload_n 0, 1) := by decide +kernel
theorem dJ6_bitCount_0f7a4_43 : decode cJ6_bitCount_0f7a4 43 = .ok (.bipush 16, 2) := by decide +kernel
theorem dJ6_bitCount_0f7a4_45 : decode cJ6_bitCount_0f7a4 45 = .ok (.iushr, 1) := by decide +kernel
theorem dJ6_bitCount_0f7a4_46 : decode cJ6_bitCount_0f7a4 46 = .ok (.iadd, 1) := by decide +kernel
theorem dJ6_bitCount_0f7a4_47 : decode cJ6_bitCount_0f7a4 47 = .ok (.istore_n 0, 1) := by decide +kernel
theorem dJ6_bitCount_0f7a4_48 : decode cJ6_bitCount_0f7a4 48 = .ok (.iload_n 0, 1) := by decide +kernel
theorem dJ6_bitCount_0f7a4_49 : decode cJ6_bitCount_0f7a4 49 = .ok (.bipush 63, 2) := by decide +kernel
theorem dJ6_bitCount_0f7a4_51 : decode cJ6_bitCount_0f7a4 51 = .ok (.iand, 1) := by decide +kernel
theorem dJ6_bitCount_0f7a4_52 : decode cJ6_bitCount_0f7a4 52 = .ok (.ireturn, 1) := by decide +kernel
theorem dJ9_floorDiv_7cf53_0 : decode cJ9_floorDiv_7cf53 0 = .ok (.iload_n 0, 1) := by decide +kernel
theorem dJ9_floorDiv_7cf53_1 : decode cJ9_floorDiv_7cf53 1 = .ok (.iload_n 1, 1) := by decide +kernel
theorem dJ9_floorDiv_7cf53_2 : decode cJ9_floorDiv_7cf53 2 = .ok (.idiv, 1) := by decide +kernel
theorem dJ9_floorDiv_7cf53_3 : decode cJ9_floorDiv_7cf53 3 = .ok (.istore_n 2, 1) := by decide +kernel
theorem dJ9_floorDiv_7cf53_4 : decode cJ9_floorDiv_7cf53 4 = .ok (.iload_n 0, 1) := by decide +kernel
theorem dJ9_floorDiv_7cf53_5 : decode cJ9_floorDiv_7cf53 5 = .ok (.iload_n 1, 1) := by decide +kernel
theorem dJ9_floorDiv_7cf53_6 : decode cJ9_floorDiv_7cf53 6 = .ok (.ixor, 1) := by decide +kernel
theorem dJ9_floorDiv_7cf53_7 : decode cJ9_floorDiv_7cf53 7 = .ok (.ifCond .ge 14, 3) := by decide +kernel
theorem dJ9_floorDiv_7cf53_10 : decode cJ9_floorDiv_7cf53 10 = .ok (.iload_n 2, 1) := by decide +kernel
theorem dJ9_floorDiv_7cf53_11 : decode cJ9_floorDiv_7cf53 11 = .ok (.iload_n 1, 1) := by decide +kernel
theorem dJ9_floorDiv_7cf53_12 : decode cJ9_floorDiv_7cf53 12 = .ok (.imul, 1) := by decide +kernel
theorem dJ9_floorDiv_7cf53_13 : decode cJ9_floorDiv_7cf53 13 = .ok (.iload_n 0, 1) := by decide +kernel
theorem dJ9_floorDiv_7cf53_14 : decode cJ9_floorDiv_7cf53 14 = .ok (.if_icmp .eq 7, 3) := by decide +kernel
theorem dJ9_floorDiv_7cf53_17 : decode cJ9_floorDiv_7cf53 17 = .ok (.iload_n 2, 1) := by decide +kernel
theorem dJ9_floorDiv_7cf53_18 : decode cJ9_floorDiv_7cf53 18 = .ok (.iconst 1, 1) := by decide +kernel
theorem dJ9_floorDiv_7cf53_19 : decode cJ9_floorDiv_7cf53 19 = .ok (.isub, 1) := by decide +kernel
theorem dJ9_floorDiv_7cf53_20 : decode cJ9_floorDiv_7cf53 20 = .ok (.ireturn, 1) := by decide +kernel
theorem dJ9_floorDiv_7cf53_21 : decode cJ9_floorDiv_7cf53 21 = .ok (.iload_n 2, 1) := by decide +kernel
theorem dJ9_floorDiv_7cf53_22 : decode cJ9_floorDiv_7cf53 22 = .ok (.ireturn, 1) := by decide +kernel
theorem dJ9_floorMod_7cf53_0 : decode cJ9_floorMod_7cf53 0 = .ok (.iload_n 0, 1) := by decide +kernel
theorem dJ9_floorMod_7cf53_1 : decode cJ9_floorMod_7cf53 1 = .ok (.iload_n 1, 1) := by decide +kernel
theorem dJ9_floorMod_7cf53_2 : decode cJ9_floorMod_7cf53 2 = .ok (.irem, 1) := by decide +kernel
theorem dJ9_floorMod_7cf53_3 : decode cJ9_floorMod_7cf53 3 = .ok (.istore_n 2, 1) := by decide +kernel
theorem dJ9_floorMod_7cf53_4 : decode cJ9_floorMod_7cf53 4 = .ok (.iload_n 0, 1) := by decide +kernel
theorem dJ9_floorMod_7cf53_5 : decode cJ9_floorMod_7cf53 5 = .ok (.iload_n 1, 1) := by decide +kernel
theorem dJ9_floorMod_7cf53_6 : decode cJ9_floorMod_7cf53 6 = .ok (.ixor, 1) := by decide +kernel
theorem dJ9_floorMod_7cf53_7 : decode cJ9_floorMod_7cf53 7 = .ok (.ifCond .ge 11, 3) := by decide +kernel
theorem dJ9_floorMod_7cf53_10 : decode cJ9_floorMod_7cf53 10 = .ok (.iload_n 2, 1) := by decide +kernel
theorem dJ9_floorMod_7cf53_11 : decode cJ9_floorMod_7cf53 11 = .ok (.ifCond .eq 7, 3) := by decide +kernel
theorem dJ9_floorMod_7cf53_14 : decode cJ9_floorMod_7cf53 14 = .ok (.iload_n 2, 1) := by decide +kernel
theorem dJ9_floorMod_7cf53_15 : decode cJ9_floorMod_7cf53 15 = .ok (.iload_n 1, 1) := by decide +kernel
theorem dJ9_floorMod_7cf53_16 : decode cJ9_floorMod_7cf53 16 = .ok (.iadd, 1) := by decide +kernel
theorem dJ9_floorMod_7cf53_17 : decode cJ9_floorMod_7cf53 17 = .ok (.ireturn, 1) := by decide +kernel
theorem dJ9_floorMod_7cf53_18 : decode cJ9_floorMod_7cf53 18 = .ok (.iload_n 2, 1) := by decide +kernel
theorem dJ9_floorMod_7cf53_19 : decode cJ9_floorMod_7cf53 19 = .ok (.ireturn, 1) := by decide +kernel
theorem dJ9_abs_0f7a4_0 : decode cJ9_abs_0f7a4 0 = .ok (.iload_n 0, 1) := by decide +kernel
theorem dJ9_abs_0f7a4_1 : decode cJ9_abs_0f7a4 1 = .ok (.ifCond .ge 8, 3) := by decide +kernel
theorem dJ9_abs_0f7a4_4 : decode cJ9_abs_0f7a4 4 = .ok (.iload_n 0, 1) := by decide +kernel
theorem dJ9_abs_0f7a4_5 : decode cJ9_abs_0f7a4 5 = .ok (.ineg, 1) := by decide +kernel
theorem dJ9_abs_0f7a4_6 : decode cJ9_abs_0f7a4 6 = .ok (.goto 4, 3) := by decide +kernel
theorem dJ9_abs_0f7a4_9 : decode cJ9_abs_0f7a4 9 = .ok (.iload_n 0, 1) := by decide +kernel
theorem dJ9_abs_0f7a4_10 : decode cJ9_abs_0f7a4 10 = .ok (.ireturn, 1) := by decide +kernel
theorem dJ9_max_7cf53_0 : decode cJ9_max_7cf53 0 = .ok (.iload_n 0, 1) := by decide +kernel
theorem dJ9_max_7cf53_1 : decode cJ9_max_7cf53 1 = .ok (.iload_n 1, 1) := by decide +kernel
theorem dJ9_max_7cf53_2 : decode cJ9_max_7cf53 2 = .ok (.if_icmp .lt 7, 3) := by decide +kernel
theorem dJ9_max_7cf53_5 : decode cJ9_max_7cf53 5 = .ok (.iload_n 0, 1) := by decide +kernel
theorem dJ9_max_7cf53_6 : decode cJ9_max_7cf53 6 = .ok (.goto 4, 3) := by decide +kernel
theorem dJ9_max_7cf53_9 : decode cJ9_max_7cf53 9 = .ok (.iload_n 1, 1) := by decide +kernel
theorem dJ9_max_7cf53_10 : decode cJ9_max_7cf53 10 = .ok (.ireturn, 1) := by decide +kernel
theorem dJ9_min_7cf53_0 : decode cJ9_min_7cf53 0 = .ok (.iload_n 0, 1) := by decide +kernel
theorem dJ9_min_7cf53_1 : decode cJ9_min_7cf53 1 = .ok (.iload_n 1, 1) := by decide +kernel
theorem dJ9_min_7cf53_2 : decode cJ9_min_7cf53 2 = .ok (.if_icmp .gt 7, 3) := by decide +kernel
theorem dJ9_min_7cf53_5 : decode cJ9_min_7cf53 5 = .ok (.iload_n 0, 1) := by decide +kernel
theorem dJ9_min_7cf53_6 : decode cJ9_min_7cf53 6 = .ok (.goto 4, 3) := by decide +kernel
theorem dJ9_min_7cf53_9 : decode cJ9_min_7cf53 9 = .ok (.iload_n 1, 1) := by decide +kernel
theorem dJ9_min_7cf53_10 : decode cJ9_min_7cf53 10 = .ok (.ireturn, 1) := by decide +kernel
theorem dJ0_length_8abf5_0 : decode cJ0_length_8abf5 0 = .ok (.aload_n 0, 1) := by decide +kernel
theorem dJ0_length_8abf5_1 : decode cJ0_length_8abf5 1 = .ok (.getfield 9, 3) := by decide +kernel
theorem dJ0_length_8abf5_4 : decode cJ0_length_8abf5 4 = .ok (.arraylength, 1) := by decide +kernel
theorem dJ0_length_8abf5_5 : decode cJ0_length_8abf5 5 = .ok (.aload_n 0, 1) := by decide +kernel
theorem dJ0_length_8abf5_6 : decode cJ0_length_8abf5 6 = .ok (.invokevirtual 335, 3) := by decide +kernel
theorem dJ0_length_8abf5_9 : decode cJ0_length_8abf5 9 = .ok (.ishr, 1) := by decide +kernel
theorem dJ0_length_8abf5_10 : decode cJ0_length_8abf5 10 = .ok (.ireturn, 1) := by decide +kernel
theorem dJ0_charAt_5068e_0 : decode cJ0_charAt_5068e 0 = .ok (.aload_n 0, 1) := by decide +kernel
theorem dJ0_charAt_5068e_1 : decode cJ0_charAt_5068e 1 = .ok (.invokevirtual 492, 3) := by decide +kernel
theorem dJ0_charAt_5068e_4 : decode cJ0_charAt_5068e 4 = .ok (.ifCond .eq 12, 3) := by decide +kernel
theorem dJ0_charAt_5068e_7 : decode cJ0_charAt_5068e 7 = .ok (.aload_n 0, 1) := by decide +kernel
theorem dJ0_charAt_5068e_8 : decode cJ0_charAt_5068e 8 = .ok (.getfield 9, 3) := by decide +kernel
theorem dJ0_charAt_5068e_11 : decode cJ0_charAt_5068e 11 = .ok (.iload_n 1, 1) := by decide +kernel
theorem dJ0_charAt_5068e_12 : decode cJ0_charAt_5068e 12 = .ok (.invokestatic 495, 3) := by decide +kernel
theorem dJ0_charAt_5068e_15 : decode cJ0_charAt_5068e 15 = .ok (.ireturn, 1) := by decide +kernel
theorem dJ0_charAt_5068e_16 : decode cJ0_charAt_5068e 16 = .ok (.aload_n 0, 1) := by decide +kernel
theorem dJ0_charAt_5068e_17 : decode cJ0_charAt_5068e 17 = .ok (.getfield 9, 3) := by decide +kernel
theorem dJ0_charAt_5068e_20 : decode cJ0_charAt_5068e 20 = .ok (.iload_n 1, 1) := by decide +kernel
theorem dJ0_charAt_5068e_21 : decode cJ0_charAt_5068e 21 = .ok (.invokestatic 498, 3) := by decide +kernel
theorem dJ0_charAt_5068e_24 : decode cJ0_charAt_5068e 24 = .ok (.ireturn, 1) := by decide +kernel
theorem dJ0_coder_7d493_0 : decode cJ0_coder_7d493 0 = .ok (.getstatic 38, 3) := by decide +kernel
theorem dJ0_coder_7d493_3 : decode cJ0_coder_7d493 3 = .ok (.ifCond .eq 10, 3) := by decide +kernel
theorem dJ0_coder_7d493_6 : decode cJ0_coder_7d493 6 = .ok (.aload_n 0, 1) := by decide +kernel
theorem dJ0_coder_7d493_7 : decode cJ0_coder_7d493 7 = .ok (.getfield 15, 3) := by decide +kernel
theorem dJ0_coder_7d493_10 : decode cJ0_coder_7d493 10 = .ok (.goto 4, 3) := by decide +kernel
theorem dJ0_coder_7d493_13 : decode cJ0_coder_7d493 13 = .ok (.iconst 1, 1) := by decide +kernel
theorem dJ0_coder_7d493_14 : decode cJ0_coder_7d493 14 = .ok (.ireturn, 1) := by decide +kernel
theorem dJ0_isLatin1_aae02_0 : decode cJ0_isLatin1_aae02 0 = .ok (.getstatic 38, 3) := by decide +kernel
theorem dJ0_isLatin1_aae02_3 : decode cJ0_isLatin1_aae02 3 = .ok (.ifCond .eq 14, 3) := by decide +kernel
theorem dJ0_isLatin1_aae02_6 : decode cJ0_isLatin1_aae02 6 = .ok (.aload_n 0, 1) := by decide +kernel
theorem dJ0_isLatin1_aae02_7 : decode cJ0_isLatin1_aae02 7 = .ok (.getfield 15, 3) := by decide +kernel
theorem dJ0_isLatin1_aae02_10 : decode cJ0_isLatin1_aae02 10 = .ok (.ifCond .ne 7, 3) := by decide +kernel
theorem dJ0_isLatin1_aae02_13 : decode cJ0_isLatin1_aae02 13 = .ok (.iconst 1, 1) := by decide +kernel
theorem dJ0_isLatin1_aae02_14 : decode cJ0_isLatin1_aae02 14 = .ok (.goto 4, 3) := by decide +kernel
theorem dJ0_isLatin1_aae02_17 : decode cJ0_isLatin1_aae02 17 = .ok (.iconst 0, 1) := by decide +kernel
theorem dJ0_isLatin1_aae02_18 : decode cJ0_isLatin1_aae02 18 = .ok (.ireturn, 1) := by decide +kernel
theorem dJ0_checkIndex_df160_0 : decode cJ0_checkIndex_df160 0 = .ok (.iload_n 0, 1) := by decide +kernel
theorem dJ0_checkIndex_df160_1 : decode cJ0_checkIndex_df160 1 = .ok (.iload_n 1, 1) := by decide +kernel
theorem dJ0_checkIndex_df160_2 : decode cJ0_checkIndex_df160 2 = .ok (.getstatic 1053, 3) := by decide +kernel
theorem dJ0_checkIndex_df160_5 : decode cJ0_checkIndex_df160 5 = .ok (.invokestatic 1059, 3) := by decide +kernel
theorem dJ0_checkIndex_df160_8 : decode cJ0_checkIndex_df160 8 = .ok (.pop, 1) := by decide +kernel
theorem dJ0_checkIndex_df160_9 : decode cJ0_checkIndex_df160 9 = .ok (.return_, 1) := by decide +kernel
theorem dJ1_charAt_3b067_0 : decode cJ1_charAt_3b067 0 = .ok (.iload_n 1, 1) := by decide +kernel
theorem dJ1_charAt_3b067_1 : decode cJ1_charAt_3b067 1 = .ok (.aload_n 0, 1) := by decide +kernel
theorem dJ1_charAt_3b067_2 : decode cJ1_charAt_3b067 2 = .ok (.arraylength, 1) := by decide +kernel
theorem dJ1_charAt_3b067_3 : decode cJ1_charAt_3b067 3 = .ok (.invokestatic 9, 3) := by decide +kernel
theorem dJ1_charAt_3b067_6 : decode cJ1_charAt_3b067 6 = .ok (.aload_n 0, 1) := by decide +kernel
theorem dJ1_charAt_3b067_7 : decode cJ1_charAt_3b067 7 = .ok (.iload_n 1, 1) := by decide +kernel
theorem dJ1_charAt_3b067_8 : decode cJ1_charAt_3b067 8 = .ok (.baload, 1) := by decide +kernel
theorem dJ1_charAt_3b067_9 : decode cJ1_charAt_3b067 9 = .ok (.sipush 255, 3) := by decide +kernel
theorem dJ1_charAt_3b067_12 : decode cJ1_charAt_3b067 12 = .ok (.iand, 1) := by decide +kernel
theorem dJ1_charAt_3b067_13 : decode cJ1_charAt_3b067 13 = .ok (.i2c, 1) := by decide +kernel
theorem dJ1_charAt_3b067_14 : decode cJ1_charAt_3b067 14 = .ok (.ireturn, 1) := by decide +kernel
theorem dJ2_getChar_3b067_0 : decode cJ2_getChar_3b067 0 = .ok (.getstatic 44, 3) := by decide +kernel
theorem dJ2_getChar_3b067_3 : decode cJ2_getChar_3b067 3 = .ok (.ifCond .ne 25, 3) := by decide +kernel
theorem dJ2_getChar_3b067_6 : decode cJ2_getChar_3b067 6 = .ok (.iload_n 1, 1) := by decide +kernel
theorem dJ2_getChar_3b067_7 : decode cJ2_getChar_3b067 7 = .ok (.ifCond .lt 11, 3) := by decide +kernel
theorem dJ2_getChar_3b067_10 : decode cJ2_getChar_3b067 10 = .ok (.iload_n 1, 1) := by decide +kernel
theorem dJ2_getChar_3b067_11 : decode cJ2_getChar_3b067 11 = .ok (.aload_n 0, 1) := by decide +kernel
theorem dJ2_getChar_3b067_12 : decode cJ2_getChar_3b067 12 = .ok (.invokestatic 48, 3) := by decide +kernel
theorem dJ2_getChar_3b067_15 : decode cJ2_getChar_3b067 15 = .ok (.if_icmp .lt 13, 3) := by decide +kernel
theorem dJ2_getChar_3b067_18 : decode cJ2_getChar_3b067 18 = .ok (.new 52, 3) := by decide +kernel
theorem dJ2_getChar_3b067_21 : decode cJ2_getChar_3b067 21 = .ok (.dup, 1) := by decide +kernel
theorem dJ2_getChar_3b067_22 : decode cJ2_getChar_3b067 22 = .ok (.ldc 54, 2) := by decide +kernel
theorem dJ2_getChar_3b067_24 : decode cJ2_getChar_3b067 24 = .ok (.invokespecial 56, 3) := by decide +kernel
theorem dJ2_getChar_3b067_27 : decode cJ2_getChar_3b067 27 = .ok (.athrow, 1) := by decide +kernel
theorem dJ2_getChar_3b067_28 : decode cJ2_getChar_3b067 28 = .ok (.iload_n 1, 1) := by decide +kernel
theorem dJ2_getChar_3b067_29 : decode cJ2_getChar_3b067 29 = .ok (.iconst 1, 1) := by decide +kernel
theorem dJ2_getChar_3b067_30 : decode cJ2_getChar_3b067 30 = .ok (.ishl, 1) := by decide +kernel
theorem dJ2_getChar_3b067_31 : decode cJ2_getChar_3b067 31 = .ok (.istore_n 1, 1) := by decide +kernel
theorem dJ2_getChar_3b067_32 : decode cJ2_getChar_3b067 32 = .ok (.aload_n 0, 1) := by decide +kernel
theorem dJ2_getChar_3b067_33 : decode cJ2_getChar_3b067 33 = .ok (.iload_n 1, 1) := by decide +kernel
theorem dJ2_getChar_3b067_34 : decode cJ2_getChar_3b067 34 = .ok (.iinc 1 1, 3) := by decide +kernel
theorem dJ2_getChar_3b067_37 : decode cJ2_getChar_3b067 37 = .ok (.baload, 1) := by decide +kernel
theorem dJ2_getChar_3b067_38 : decode cJ2_getChar_3b067 38 = .ok (.sipush 255, 3) := by decide +kernel
theorem dJ2_getChar_3b067_41 : decode cJ2_getChar_3b067 41 = .ok (.iand, 1) := by decide +kernel
theorem dJ2_getChar_3b067_42 : decode cJ2_getChar_3b067 42 = .ok (.getstatic 59, 3) := by decide +kernel
theorem dJ2_getChar_3b067_45 : decode cJ2_getChar_3b067 45 = .ok (.ishl, 1) := by decide +kernel
theorem dJ2_getChar_3b067_46 : decode cJ2_getChar_3b067 46 = .ok (.aload_n 0, 1) := by decide +kernel
theorem dJ2_getChar_3b067_47 : decode cJ2_getChar_3b067 47 = .ok (.iload_n 1, 1) := by decide +kernel
theorem dJ2_getChar_3b067_48 : decode cJ2_getChar_3b067 48 = .ok (.baload, 1) := by decide +kernel
theorem dJ2_getChar_3b067_49 : decode cJ2_getChar_3b067 49 = .ok (.sipush 255, 3) := by decide +kernel
theorem dJ2_getChar_3b067_52 : decode cJ2_getChar_3b067 52 = .ok (.iand, 1) := by decide +kernel
theorem dJ2_getChar_3b067_53 : decode cJ2_getChar_3b067 53 = .ok (.getstatic 63, 3) := by decide +kernel
theorem dJ2_getChar_3b067_56 : decode cJ2_getChar_3b067 56 = .ok (.ishl, 1) := by decide +kernel
theorem dJ2_getChar_3b067_57 : decode cJ2_getChar_3b067 57 = .ok (.ior, 1) := by decide +kernel
theorem dJ2_getChar_3b067_58 : decode cJ2_getChar_3b067 58 = .ok (.i2c, 1) := by decide +kernel
theorem dJ2_getChar_3b067_59 : decode cJ2_getChar_3b067 59 = .ok (.ireturn, 1) := by decide +kernel
theorem dJ2_length_9d52b_0 : decode cJ2_length_9d52b 0 = .ok (.aload_n 0, 1) := by decide +kernel
theorem dJ2_length_9d52b_1 : decode cJ2_length_9d52b 1 = .ok (.arraylength, 1) := by decide +kernel
theorem dJ2_length_9d52b_2 : decode cJ2_length_9d52b 2 = .ok (.iconst 1, 1) := by decide +kernel
theorem dJ2_length_9d52b_3 : decode cJ2_length_9d52b 3 = .ok (.ishr, 1) := by decide +kernel
theorem dJ2_length_9d52b_4 : decode cJ2_length_9d52b 4 = .ok (.ireturn, 1) := by decide +kernel
theorem dJ2_charAt_3b067_0 : decode cJ2_charAt_3b067 0 = .ok (.iload_n 1, 1) := by decide +kernel
theorem dJ2_charAt_3b067_1 : decode cJ2_charAt_3b067 1 = .ok (.aload_n 0, 1) := by decide +kernel
theorem dJ2_charAt_3b067_2 : decode cJ2_charAt_3b067 2 = .ok (.invokestatic 67, 3) := by decide +kernel
theorem dJ2_charAt_3b067_5 : decode cJ2_charAt_3b067 5 = .ok (.aload_n 0, 1) := by decide +kernel
theorem dJ2_charAt_3b067_6 : decode cJ2_charAt_3b067 6 = .ok (.iload_n 1, 1) := by decide +kernel
theorem dJ2_charAt_3b067_7 : decode cJ2_charAt_3b067 7 = .ok (.invokestatic 71, 3) := by decide +kernel
theorem dJ2_charAt_3b067_10 : decode cJ2_charAt_3b067 10 = .ok (.ireturn, 1) := by decide +kernel
theorem dJ2_checkIndex_2214a_0 : decode cJ2_checkIndex_2214a 0 = .ok (.iload_n 0, 1) := by decide +kernel
theorem dJ2_checkIndex_2214a_1 : decode cJ2_checkIndex_2214a 1 = .ok (.aload_n 1, 1) := by decide +kernel
theorem dJ2_checkIndex_2214a_2 : decode cJ2_checkIndex_2214a 2 = .ok (.invokestatic 48, 3) := by decide +kernel
theorem dJ2_checkIndex_2214a_5 : decode cJ2_checkIndex_2214a 5 = .ok (.invokestatic 414, 3) := by decide +kernel
theorem dJ2_checkIndex_2214a_8 : decode cJ2_checkIndex_2214a 8 = .ok (.return_, 1) := by decide +kernel
theorem dJ3_checkIndex_8e157_0 : decode cJ3_checkIndex_8e157 0 = .ok (.iload_n 0, 1) := by decide +kernel
theorem dJ3_checkIndex_8e157_1 : decode cJ3_checkIndex_8e157 1 = .ok (.ifCond .lt 8, 3) := by decide +kernel
theorem dJ3_checkIndex_8e157_4 : decode cJ3_checkIndex_8e157 4 = .ok (.iload_n 0, 1) := by decide +kernel
theorem dJ3_checkIndex_8e157_5 : decode cJ3_checkIndex_8e157 5 = .ok (.iload_n 1, 1) := by decide +kernel
theorem dJ3_checkIndex_8e157_6 : decode cJ3_checkIndex_8e157 6 = .ok (.if_icmp .lt 10, 3) := by decide +kernel
theorem dJ3_checkIndex_8e157_9 : decode cJ3_checkIndex_8e157 9 = .ok (.aload_n 2, 1) := by decide +kernel
theorem dJ3_checkIndex_8e157_10 : decode cJ3_checkIndex_8e157 10 = .ok (.iload_n 0, 1) := by decide +kernel
theorem dJ3_checkIndex_8e157_11 : decode cJ3_checkIndex_8e157 11 = .ok (.iload_n 1, 1) := by decide +kernel
theorem dJ3_checkIndex_8e157_12 : decode cJ3_checkIndex_8e157 12 = .ok (.invokestatic 95, 3) := by decide +kernel
theorem dJ3_checkIndex_8e157_15 : decode cJ3_checkIndex_8e157 15 = .ok (.athrow, 1) := by decide +kernel
theorem dJ3_checkIndex_8e157_16 : decode cJ3_checkIndex_8e157 16 = .ok (.iload_n 0, 1) := by decide +kernel
theorem dJ3_checkIndex_8e157_17 : decode cJ3_checkIndex_8e157 17 = .ok (.ireturn, 1) := by decide +kernel
theorem dL_append_0 : decode cL_append 0 = .ok (.aload 6, 2) := by decide +kernel
theorem dL_append_2 : decode cL_append 2 = .ok (.iconst 0, 1) := by decide +kernel
theorem dL_append_3 : decode cL_append 3 = .ok (.aload_n 0, 1) := by decide +kernel
theorem dL_append_4 : decode cL_append 4 = .ok (.iload_n 1, 1) := by decide +kernel
theorem dL_append_5 : decode cL_append 5 = .ok (.iload_n 2, 1) := by decide +kernel
theorem dL_append_6 : decode cL_append 6 = .ok (.iload_n 3, 1) := by decide +kernel
theorem dL_append_7 : decode cL_append 7 = .ok (.iload 4, 2) := by decide +kernel
theorem dL_append_9 : decode cL_append 9 = .ok (.iload 5, 2) := by decide +kernel
theorem dL_append_11 : decode cL_append 11 = .ok (.invokevirtual 7, 3) := by decide +kernel
theorem dL_append_14 : decode cL_append 14 = .ok (.i2l, 1) := by decide +kernel
theorem dL_append_15 : decode cL_append 15 = .ok (.lastore, 1) := by decide +kernel
theorem dL_append_16 : decode cL_append 16 = .ok (.goto 7, 3) := by decide +kernel
theorem dL_append_19 : decode cL_append 19 = .ok (.astore 7, 2) := by decide +kernel
theorem dL_append_21 : decode cL_append 21 = .ok (.iconst 1, 1) := by decide +kernel
theorem dL_append_22 : decode cL_append 22 = .ok (.ireturn, 1) := by decide +kernel
theorem dL_append_23 : decode cL_append 23 = .ok (.iconst 0, 1) := by decide +kernel
theorem dL_append_24 : decode cL_append 24 = .ok (.ireturn, 1) := by decide +kernel
theorem dL_size_0 : decode cL_size 0 = .ok (.aload_n 2, 1) := by decide +kernel
theorem dL_size_1 : decode cL_size 1 = .ok (.iconst 0, 1) := by decide +kernel
theorem dL_size_2 : decode cL_size 2 = .ok (.aload_n 0, 1) := by decide +kernel
theorem dL_size_3 : decode cL_size 3 = .ok (.iload_n 1, 1) := by decide +kernel
theorem dL_size_4 : decode cL_size 4 = .ok (.invokevirtual 15, 3) := by decide +kernel
theorem dL_size_7 : decode cL_size 7 = .ok (.i2l, 1) := by decide +kernel
theorem dL_size_8 : decode cL_size 8 = .ok (.lastore, 1) := by decide +kernel
theorem dL_size_9 : decode cL_size 9 = .ok (.goto 6, 3) := by decide +kernel
theorem dL_size_12 : decode cL_size 12 = .ok (.astore_n 3, 1) := by decide +kernel
theorem dL_size_13 : decode cL_size 13 = .ok (.iconst 1, 1) := by decide +kernel
theorem dL_size_14 : decode cL_size 14 = .ok (.ireturn, 1) := by decide +kernel
theorem dL_size_15 : decode cL_size 15 = .ok (.iconst 0, 1) := by decide +kernel
theorem dL_size_16 : decode cL_size 16 = .ok (.ireturn, 1) := by decide +kernel
theorem dL_buoy_0 : decode cL_buoy 0 = .ok (.aload_n 3, 1) := by decide +kernel
theorem dL_buoy_1 : decode cL_buoy 1 = .ok (.iconst 0, 1) := by decide +kernel
theorem dL_buoy_2 : decode cL_buoy 2 = .ok (.aload_n 0, 1) := by decide +kernel
theorem dL_buoy_3 : decode cL_buoy 3 = .ok (.iload_n 1, 1) := by decide +kernel
theorem dL_buoy_4 : decode cL_buoy 4 = .ok (.iload_n 2, 1) := by decide +kernel
theorem dL_buoy_5 : decode cL_buoy 5 = .ok (.invokevirtual 21, 3) := by decide +kernel
theorem dL_buoy_8 : decode cL_buoy 8 = .ok (.i2l, 1) := by decide +kernel
theorem dL_buoy_9 : decode cL_buoy 9 = .ok (.lastore, 1) := by decide +kernel
theorem dL_buoy_10 : decode cL_buoy 10 = .ok (.goto 11, 3) := by decide +kernel
theorem dL_buoy_13 : decode cL_buoy 13 = .ok (.astore 4, 2) := by decide +kernel
theorem dL_buoy_15 : decode cL_buoy 15 = .ok (.iconst 1, 1) := by decide +kernel
theorem dL_buoy_16 : decode cL_buoy 16 = .ok (.ireturn, 1) := by decide +kernel
theorem dL_buoy_17 : decode cL_buoy 17 = .ok (.astore 4, 2) := by decide +kernel
theorem dL_buoy_19 : decode cL_buoy 19 = .ok (.iconst 2, 1) := by decide +kernel
theorem dL_buoy_20 : decode cL_buoy 20 = .ok (.ireturn, 1) := by decide +kernel
theorem dL_buoy_21 : decode cL_buoy 21 = .ok (.iconst 0, 1) := by decide +kernel
theorem dL_buoy_22 : decode cL_buoy 22 = .ok (.ireturn, 1) := by decide +kernel
theorem dL_rope_0 : decode cL_rope 0 = .ok (.aload_n 3, 1) := by decide +kernel
theorem dL_rope_1 : decode cL_rope 1 = .ok (.iconst 0, 1) := by decide +kernel
theorem dL_rope_2 : decode cL_rope 2 = .ok (.aload_n 0, 1) := by decide +kernel
theorem dL_rope_3 : decode cL_rope 3 = .ok (.iload_n 1, 1) := by decide +kernel
theorem dL_rope_4 : decode cL_rope 4 = .ok (.iload_n 2, 1) := by decide +kernel
theorem dL_rope_5 : decode cL_rope 5 = .ok (.invokevirtual 27, 3) := by decide +kernel
theorem dL_rope_8 : decode cL_rope 8 = .ok (.i2l, 1) := by decide +kernel
theorem dL_rope_9 : decode cL_rope 9 = .ok (.lastore, 1) := by decide +kernel
theorem dL_rope_10 : decode cL_rope 10 = .ok (.goto 11, 3) := by decide +kernel
theorem dL_rope_13 : decode cL_rope 13 = .ok (.astore 4, 2) := by decide +kernel
theorem dL_rope_15 : decode cL_rope 15 = .ok (.iconst 1, 1) := by decide +kernel
theorem dL_rope_16 : decode cL_rope 16 = .ok (.ireturn, 1) := by decide +kernel
theorem dL_rope_17 : decode cL_rope 17 = .ok (.astore 4, 2) := by decide +kernel
theorem dL_rope_19 : decode cL_rope 19 = .ok (.iconst 2, 1) := by decide +kernel
theorem dL_rope_20 : decode cL_rope 20 = .ok (.ireturn, 1) := by decide +kernel
theorem dL_rope_21 : decode cL_rope 21 = .ok (.iconst 0, 1) := by decide +kernel
theorem dL_rope_22 : decode cL_rope 22 = .ok (.ireturn, 1) := by decide +kernel
theorem dL_account_0 : decode cL_account 0 = .ok (.aload_n 2, 1) := by decide +kernel
theorem dL_account_1 : decode cL_account 1 = .ok (.iconst 0, 1) := by decide +kernel
theorem dL_account_2 : decode cL_account 2 = .ok (.aload_n 0, 1) := by decide +kernel
theorem dL_account_3 : decode cL_account 3 = .ok (.iload_n 1, 1) := by decide +kernel
theorem dL_account_4 : decode cL_account 4 = .ok (.invokevirtual 30, 3) := by decide +kernel
theorem dL_account_7 : decode cL_account 7 = .ok (.i2l, 1) := by decide +kernel
theorem dL_account_8 : decode cL_account 8 = .ok (.lastore, 1) := by decide +kernel
theorem dL_account_9 : decode cL_account 9 = .ok (.goto 6, 3) := by decide +kernel
theorem dL_account_12 : decode cL_account 12 = .ok (.astore_n 3, 1) := by decide +kernel
theorem dL_account_13 : decode cL_account 13 = .ok (.iconst 1, 1) := by decide +kernel
theorem dL_account_14 : decode cL_account 14 = .ok (.ireturn, 1) := by decide +kernel
theorem dL_account_15 : decode cL_account 15 = .ok (.iconst 0, 1) := by decide +kernel
theorem dL_account_16 : decode cL_account 16 = .ok (.ireturn, 1) := by decide +kernel
theorem dL_hour_0 : decode cL_hour 0 = .ok (.aload_n 3, 1) := by decide +kernel
theorem dL_hour_1 : decode cL_hour 1 = .ok (.iconst 0, 1) := by decide +kernel
theorem dL_hour_2 : decode cL_hour 2 = .ok (.aload_n 0, 1) := by decide +kernel
theorem dL_hour_3 : decode cL_hour 3 = .ok (.iload_n 1, 1) := by decide +kernel
theorem dL_hour_4 : decode cL_hour 4 = .ok (.iload_n 2, 1) := by decide +kernel
theorem dL_hour_5 : decode cL_hour 5 = .ok (.invokevirtual 33, 3) := by decide +kernel
theorem dL_hour_8 : decode cL_hour 8 = .ok (.i2l, 1) := by decide +kernel
theorem dL_hour_9 : decode cL_hour 9 = .ok (.lastore, 1) := by decide +kernel
theorem dL_hour_10 : decode cL_hour 10 = .ok (.goto 11, 3) := by decide +kernel
theorem dL_hour_13 : decode cL_hour 13 = .ok (.astore 4, 2) := by decide +kernel
theorem dL_hour_15 : decode cL_hour 15 = .ok (.iconst 1, 1) := by decide +kernel
theorem dL_hour_16 : decode cL_hour 16 = .ok (.ireturn, 1) := by decide +kernel
theorem dL_hour_17 : decode cL_hour 17 = .ok (.astore 4, 2) := by decide +kernel
theorem dL_hour_19 : decode cL_hour 19 = .ok (.iconst 2, 1) := by decide +kernel
theorem dL_hour_20 : decode cL_hour 20 = .ok (.ireturn, 1) := by decide +kernel
theorem dL_hour_21 : decode cL_hour 21 = .ok (.iconst 0, 1) := by decide +kernel
theorem dL_hour_22 : decode cL_hour 22 = .ok (.ireturn, 1) := by decide +kernel
theorem dL_level_0 : decode cL_level 0 = .ok (.aload_n 2, 1) := by decide +kernel
theorem dL_level_1 : decode cL_level 1 = .ok (.iconst 0, 1) := by decide +kernel
theorem dL_level_2 : decode cL_level 2 = .ok (.aload_n 0, 1) := by decide +kernel
theorem dL_level_3 : decode cL_level 3 = .ok (.iload_n 1, 1) := by decide +kernel
theorem dL_level_4 : decode cL_level 4 = .ok (.invokevirtual 36, 3) := by decide +kernel
theorem dL_level_7 : decode cL_level 7 = .ok (.i2l, 1) := by decide +kernel
theorem dL_level_8 : decode cL_level 8 = .ok (.lastore, 1) := by decide +kernel
theorem dL_level_9 : decode cL_level 9 = .ok (.goto 9, 3) := by decide +kernel
theorem dL_level_12 : decode cL_level 12 = .ok (.astore_n 3, 1) := by decide +kernel
theorem dL_level_13 : decode cL_level 13 = .ok (.iconst 1, 1) := by decide +kernel
theorem dL_level_14 : decode cL_level 14 = .ok (.ireturn, 1) := by decide +kernel
theorem dL_level_15 : decode cL_level 15 = .ok (.astore_n 3, 1) := by decide +kernel
theorem dL_level_16 : decode cL_level 16 = .ok (.iconst 2, 1) := by decide +kernel
theorem dL_level_17 : decode cL_level 17 = .ok (.ireturn, 1) := by decide +kernel
theorem dL_level_18 : decode cL_level 18 = .ok (.iconst 0, 1) := by decide +kernel
theorem dL_level_19 : decode cL_level 19 = .ok (.ireturn, 1) := by decide +kernel
theorem dL_value_0 : decode cL_value 0 = .ok (.aload_n 3, 1) := by decide +kernel
theorem dL_value_1 : decode cL_value 1 = .ok (.iconst 0, 1) := by decide +kernel
theorem dL_value_2 : decode cL_value 2 = .ok (.aload_n 0, 1) := by decide +kernel
theorem dL_value_3 : decode cL_value 3 = .ok (.iload_n 1, 1) := by decide +kernel
theorem dL_value_4 : decode cL_value 4 = .ok (.iload_n 2, 1) := by decide +kernel
theorem dL_value_5 : decode cL_value 5 = .ok (.invokevirtual 41, 3) := by decide +kernel
theorem dL_value_8 : decode cL_value 8 = .ok (.i2l, 1) := by decide +kernel
theorem dL_value_9 : decode cL_value 9 = .ok (.lastore, 1) := by decide +kernel
theorem dL_value_10 : decode cL_value 10 = .ok (.goto 11, 3) := by decide +kernel
theorem dL_value_13 : decode cL_value 13 = .ok (.astore 4, 2) := by decide +kernel
theorem dL_value_15 : decode cL_value 15 = .ok (.iconst 1, 1) := by decide +kernel
theorem dL_value_16 : decode cL_value 16 = .ok (.ireturn, 1) := by decide +kernel
theorem dL_value_17 : decode cL_value 17 = .ok (.astore 4, 2) := by decide +kernel
theorem dL_value_19 : decode cL_value 19 = .ok (.iconst 2, 1) := by decide +kernel
theorem dL_value_20 : decode cL_value 20 = .ok (.ireturn, 1) := by decide +kernel
theorem dL_value_21 : decode cL_value 21 = .ok (.iconst 0, 1) := by decide +kernel
theorem dL_value_22 : decode cL_value 22 = .ok (.ireturn, 1) := by decide +kernel
theorem dL_why_0 : decode cL_why 0 = .ok (.aload_n 3, 1) := by decide +kernel
theorem dL_why_1 : decode cL_why 1 = .ok (.iconst 0, 1) := by decide +kernel
theorem dL_why_2 : decode cL_why 2 = .ok (.aload_n 0, 1) := by decide +kernel
theorem dL_why_3 : decode cL_why 3 = .ok (.iload_n 1, 1) := by decide +kernel
theorem dL_why_4 : decode cL_why 4 = .ok (.iload_n 2, 1) := by decide +kernel
theorem dL_why_5 : decode cL_why 5 = .ok (.invokevirtual 44, 3) := by decide +kernel
theorem dL_why_8 : decode cL_why 8 = .ok (.i2l, 1) := by decide +kernel
theorem dL_why_9 : decode cL_why 9 = .ok (.lastore, 1) := by decide +kernel
theorem dL_why_10 : decode cL_why 10 = .ok (.goto 7, 3) := by decide +kernel
theorem dL_why_13 : decode cL_why 13 = .ok (.astore 4, 2) := by decide +kernel
theorem dL_why_15 : decode cL_why 15 = .ok (.iconst 1, 1) := by decide +kernel
theorem dL_why_16 : decode cL_why 16 = .ok (.ireturn, 1) := by decide +kernel
theorem dL_why_17 : decode cL_why 17 = .ok (.iconst 0, 1) := by decide +kernel
theorem dL_why_18 : decode cL_why 18 = .ok (.ireturn, 1) := by decide +kernel
theorem dL_tide_0 : decode cL_tide 0 = .ok (.aload_n 2, 1) := by decide +kernel
theorem dL_tide_1 : decode cL_tide 1 = .ok (.iconst 0, 1) := by decide +kernel
theorem dL_tide_2 : decode cL_tide 2 = .ok (.aload_n 0, 1) := by decide +kernel
theorem dL_tide_3 : decode cL_tide 3 = .ok (.iload_n 1, 1) := by decide +kernel
theorem dL_tide_4 : decode cL_tide 4 = .ok (.invokevirtual 47, 3) := by decide +kernel
theorem dL_tide_7 : decode cL_tide 7 = .ok (.i2l, 1) := by decide +kernel
theorem dL_tide_8 : decode cL_tide 8 = .ok (.lastore, 1) := by decide +kernel
theorem dL_tide_9 : decode cL_tide 9 = .ok (.goto 9, 3) := by decide +kernel
theorem dL_tide_12 : decode cL_tide 12 = .ok (.astore_n 3, 1) := by decide +kernel
theorem dL_tide_13 : decode cL_tide 13 = .ok (.iconst 1, 1) := by decide +kernel
theorem dL_tide_14 : decode cL_tide 14 = .ok (.ireturn, 1) := by decide +kernel
theorem dL_tide_15 : decode cL_tide 15 = .ok (.astore_n 3, 1) := by decide +kernel
theorem dL_tide_16 : decode cL_tide 16 = .ok (.iconst 2, 1) := by decide +kernel
theorem dL_tide_17 : decode cL_tide 17 = .ok (.ireturn, 1) := by decide +kernel
theorem dL_tide_18 : decode cL_tide 18 = .ok (.iconst 0, 1) := by decide +kernel
theorem dL_tide_19 : decode cL_tide 19 = .ok (.ireturn, 1) := by decide +kernel
theorem dL_agreement_0 : decode cL_agreement 0 = .ok (.aload_n 2, 1) := by decide +kernel
theorem dL_agreement_1 : decode cL_agreement 1 = .ok (.iconst 0, 1) := by decide +kernel
theorem dL_agreement_2 : decode cL_agreement 2 = .ok (.aload_n 0, 1) := by decide +kernel
theorem dL_agreement_3 : decode cL_agreement 3 = .ok (.iload_n 1, 1) := by decide +kernel
theorem dL_agreement_4 : decode cL_agreement 4 = .ok (.invokevirtual 50, 3) := by decide +kernel
theorem dL_agreement_7 : decode cL_agreement 7 = .ok (.f2d, 1) := by decide +kernel
theorem dL_agreement_8 : decode cL_agreement 8 = .ok (.dastore, 1) := by decide +kernel
theorem dL_agreement_9 : decode cL_agreement 9 = .ok (.goto 6, 3) := by decide +kernel
theorem dL_agreement_12 : decode cL_agreement 12 = .ok (.astore_n 3, 1) := by decide +kernel
theorem dL_agreement_13 : decode cL_agreement 13 = .ok (.iconst 1, 1) := by decide +kernel
theorem dL_agreement_14 : decode cL_agreement 14 = .ok (.ireturn, 1) := by decide +kernel
theorem dL_agreement_15 : decode cL_agreement 15 = .ok (.iconst 0, 1) := by decide +kernel
theorem dL_agreement_16 : decode cL_agreement 16 = .ok (.ireturn, 1) := by decide +kernel
theorem dL_levelNow_0 : decode cL_levelNow 0 = .ok (.aload_n 1, 1) := by decide +kernel
theorem dL_levelNow_1 : decode cL_levelNow 1 = .ok (.iconst 0, 1) := by decide +kernel
theorem dL_levelNow_2 : decode cL_levelNow 2 = .ok (.aload_n 0, 1) := by decide +kernel
theorem dL_levelNow_3 : decode cL_levelNow 3 = .ok (.invokevirtual 54, 3) := by decide +kernel
theorem dL_levelNow_6 : decode cL_levelNow 6 = .ok (.i2l, 1) := by decide +kernel
theorem dL_levelNow_7 : decode cL_levelNow 7 = .ok (.lastore, 1) := by decide +kernel
theorem dL_levelNow_8 : decode cL_levelNow 8 = .ok (.goto 6, 3) := by decide +kernel
theorem dL_levelNow_11 : decode cL_levelNow 11 = .ok (.astore_n 2, 1) := by decide +kernel
theorem dL_levelNow_12 : decode cL_levelNow 12 = .ok (.iconst 1, 1) := by decide +kernel
theorem dL_levelNow_13 : decode cL_levelNow 13 = .ok (.ireturn, 1) := by decide +kernel
theorem dL_levelNow_14 : decode cL_levelNow 14 = .ok (.iconst 0, 1) := by decide +kernel
theorem dL_levelNow_15 : decode cL_levelNow 15 = .ok (.ireturn, 1) := by decide +kernel
theorem dL_levelWithout_0 : decode cL_levelWithout 0 = .ok (.aload_n 3, 1) := by decide +kernel
theorem dL_levelWithout_1 : decode cL_levelWithout 1 = .ok (.iconst 0, 1) := by decide +kernel
theorem dL_levelWithout_2 : decode cL_levelWithout 2 = .ok (.aload_n 0, 1) := by decide +kernel
theorem dL_levelWithout_3 : decode cL_levelWithout 3 = .ok (.iload_n 1, 1) := by decide +kernel
theorem dL_levelWithout_4 : decode cL_levelWithout 4 = .ok (.iload_n 2, 1) := by decide +kernel
theorem dL_levelWithout_5 : decode cL_levelWithout 5 = .ok (.invokevirtual 58, 3) := by decide +kernel
theorem dL_levelWithout_8 : decode cL_levelWithout 8 = .ok (.i2l, 1) := by decide +kernel
theorem dL_levelWithout_9 : decode cL_levelWithout 9 = .ok (.lastore, 1) := by decide +kernel
theorem dL_levelWithout_10 : decode cL_levelWithout 10 = .ok (.goto 11, 3) := by decide +kernel
theorem dL_levelWithout_13 : decode cL_levelWithout 13 = .ok (.astore 4, 2) := by decide +kernel
theorem dL_levelWithout_15 : decode cL_levelWithout 15 = .ok (.iconst 1, 1) := by decide +kernel
theorem dL_levelWithout_16 : decode cL_levelWithout 16 = .ok (.ireturn, 1) := by decide +kernel
theorem dL_levelWithout_17 : decode cL_levelWithout 17 = .ok (.astore 4, 2) := by decide +kernel
theorem dL_levelWithout_19 : decode cL_levelWithout 19 = .ok (.iconst 2, 1) := by decide +kernel
theorem dL_levelWithout_20 : decode cL_levelWithout 20 = .ok (.ireturn, 1) := by decide +kernel
theorem dL_levelWithout_21 : decode cL_levelWithout 21 = .ok (.iconst 0, 1) := by decide +kernel
theorem dL_levelWithout_22 : decode cL_levelWithout 22 = .ok (.ireturn, 1) := by decide +kernel
theorem dL_needed_0 : decode cL_needed 0 = .ok (.aload_n 2, 1) := by decide +kernel
theorem dL_needed_1 : decode cL_needed 1 = .ok (.iconst 0, 1) := by decide +kernel
theorem dL_needed_2 : decode cL_needed 2 = .ok (.aload_n 0, 1) := by decide +kernel
theorem dL_needed_3 : decode cL_needed 3 = .ok (.iload_n 1, 1) := by decide +kernel
theorem dL_needed_4 : decode cL_needed 4 = .ok (.invokevirtual 61, 3) := by decide +kernel
theorem dL_needed_7 : decode cL_needed 7 = .ok (.i2l, 1) := by decide +kernel
theorem dL_needed_8 : decode cL_needed 8 = .ok (.lastore, 1) := by decide +kernel
theorem dL_needed_9 : decode cL_needed 9 = .ok (.goto 6, 3) := by decide +kernel
theorem dL_needed_12 : decode cL_needed 12 = .ok (.astore_n 3, 1) := by decide +kernel
theorem dL_needed_13 : decode cL_needed 13 = .ok (.iconst 1, 1) := by decide +kernel
theorem dL_needed_14 : decode cL_needed 14 = .ok (.ireturn, 1) := by decide +kernel
theorem dL_needed_15 : decode cL_needed 15 = .ok (.iconst 0, 1) := by decide +kernel
theorem dL_needed_16 : decode cL_needed 16 = .ok (.ireturn, 1) := by decide +kernel
theorem dL_segmentOf_0 : decode cL_segmentOf 0 = .ok (.aload_n 2, 1) := by decide +kernel
theorem dL_segmentOf_1 : decode cL_segmentOf 1 = .ok (.iconst 0, 1) := by decide +kernel
theorem dL_segmentOf_2 : decode cL_segmentOf 2 = .ok (.aload_n 0, 1) := by decide +kernel
theorem dL_segmentOf_3 : decode cL_segmentOf 3 = .ok (.iload_n 1, 1) := by decide +kernel
theorem dL_segmentOf_4 : decode cL_segmentOf 4 = .ok (.invokevirtual 64, 3) := by decide +kernel
theorem dL_segmentOf_7 : decode cL_segmentOf 7 = .ok (.i2l, 1) := by decide +kernel
theorem dL_segmentOf_8 : decode cL_segmentOf 8 = .ok (.lastore, 1) := by decide +kernel
theorem dL_segmentOf_9 : decode cL_segmentOf 9 = .ok (.goto 6, 3) := by decide +kernel
theorem dL_segmentOf_12 : decode cL_segmentOf 12 = .ok (.astore_n 3, 1) := by decide +kernel
theorem dL_segmentOf_13 : decode cL_segmentOf 13 = .ok (.iconst 1, 1) := by decide +kernel
theorem dL_segmentOf_14 : decode cL_segmentOf 14 = .ok (.ireturn, 1) := by decide +kernel
theorem dL_segmentOf_15 : decode cL_segmentOf 15 = .ok (.iconst 0, 1) := by decide +kernel
theorem dL_segmentOf_16 : decode cL_segmentOf 16 = .ok (.ireturn, 1) := by decide +kernel
theorem dL_wouldBreak_0 : decode cL_wouldBreak 0 = .ok (.aload 4, 2) := by decide +kernel
theorem dL_wouldBreak_2 : decode cL_wouldBreak 2 = .ok (.iconst 0, 1) := by decide +kernel
theorem dL_wouldBreak_3 : decode cL_wouldBreak 3 = .ok (.aload_n 0, 1) := by decide +kernel
theorem dL_wouldBreak_4 : decode cL_wouldBreak 4 = .ok (.iload_n 1, 1) := by decide +kernel
theorem dL_wouldBreak_5 : decode cL_wouldBreak 5 = .ok (.iload_n 2, 1) := by decide +kernel
theorem dL_wouldBreak_6 : decode cL_wouldBreak 6 = .ok (.iload_n 3, 1) := by decide +kernel
theorem dL_wouldBreak_7 : decode cL_wouldBreak 7 = .ok (.invokevirtual 67, 3) := by decide +kernel
theorem dL_wouldBreak_10 : decode cL_wouldBreak 10 = .ok (.i2l, 1) := by decide +kernel
theorem dL_wouldBreak_11 : decode cL_wouldBreak 11 = .ok (.lastore, 1) := by decide +kernel
theorem dL_wouldBreak_12 : decode cL_wouldBreak 12 = .ok (.goto 11, 3) := by decide +kernel
theorem dL_wouldBreak_15 : decode cL_wouldBreak 15 = .ok (.astore 5, 2) := by decide +kernel
theorem dL_wouldBreak_17 : decode cL_wouldBreak 17 = .ok (.iconst 1, 1) := by decide +kernel
theorem dL_wouldBreak_18 : decode cL_wouldBreak 18 = .ok (.ireturn, 1) := by decide +kernel
theorem dL_wouldBreak_19 : decode cL_wouldBreak 19 = .ok (.astore 5, 2) := by decide +kernel
theorem dL_wouldBreak_21 : decode cL_wouldBreak 21 = .ok (.iconst 2, 1) := by decide +kernel
theorem dL_wouldBreak_22 : decode cL_wouldBreak 22 = .ok (.ireturn, 1) := by decide +kernel
theorem dL_wouldBreak_23 : decode cL_wouldBreak 23 = .ok (.iconst 0, 1) := by decide +kernel
theorem dL_wouldBreak_24 : decode cL_wouldBreak 24 = .ok (.ireturn, 1) := by decide +kernel
theorem dL_wouldDrift_0 : decode cL_wouldDrift 0 = .ok (.aload 4, 2) := by decide +kernel
theorem dL_wouldDrift_2 : decode cL_wouldDrift 2 = .ok (.iconst 0, 1) := by decide +kernel
theorem dL_wouldDrift_3 : decode cL_wouldDrift 3 = .ok (.aload_n 0, 1) := by decide +kernel
theorem dL_wouldDrift_4 : decode cL_wouldDrift 4 = .ok (.iload_n 1, 1) := by decide +kernel
theorem dL_wouldDrift_5 : decode cL_wouldDrift 5 = .ok (.iload_n 2, 1) := by decide +kernel
theorem dL_wouldDrift_6 : decode cL_wouldDrift 6 = .ok (.iload_n 3, 1) := by decide +kernel
theorem dL_wouldDrift_7 : decode cL_wouldDrift 7 = .ok (.invokevirtual 71, 3) := by decide +kernel
theorem dL_wouldDrift_10 : decode cL_wouldDrift 10 = .ok (.i2l, 1) := by decide +kernel
theorem dL_wouldDrift_11 : decode cL_wouldDrift 11 = .ok (.lastore, 1) := by decide +kernel
theorem dL_wouldDrift_12 : decode cL_wouldDrift 12 = .ok (.goto 11, 3) := by decide +kernel
theorem dL_wouldDrift_15 : decode cL_wouldDrift 15 = .ok (.astore 5, 2) := by decide +kernel
theorem dL_wouldDrift_17 : decode cL_wouldDrift 17 = .ok (.iconst 1, 1) := by decide +kernel
theorem dL_wouldDrift_18 : decode cL_wouldDrift 18 = .ok (.ireturn, 1) := by decide +kernel
theorem dL_wouldDrift_19 : decode cL_wouldDrift 19 = .ok (.astore 5, 2) := by decide +kernel
theorem dL_wouldDrift_21 : decode cL_wouldDrift 21 = .ok (.iconst 2, 1) := by decide +kernel
theorem dL_wouldDrift_22 : decode cL_wouldDrift 22 = .ok (.ireturn, 1) := by decide +kernel
theorem dL_wouldDrift_23 : decode cL_wouldDrift 23 = .ok (.iconst 0, 1) := by decide +kernel
theorem dL_wouldDrift_24 : decode cL_wouldDrift 24 = .ok (.ireturn, 1) := by decide +kernel
theorem dL_lacks_0 : decode cL_lacks 0 = .ok (.aload_n 2, 1) := by decide +kernel
theorem dL_lacks_1 : decode cL_lacks 1 = .ok (.iconst 0, 1) := by decide +kernel
theorem dL_lacks_2 : decode cL_lacks 2 = .ok (.aload_n 0, 1) := by decide +kernel
theorem dL_lacks_3 : decode cL_lacks 3 = .ok (.iload_n 1, 1) := by decide +kernel
theorem dL_lacks_4 : decode cL_lacks 4 = .ok (.invokevirtual 74, 3) := by decide +kernel
theorem dL_lacks_7 : decode cL_lacks 7 = .ok (.i2l, 1) := by decide +kernel
theorem dL_lacks_8 : decode cL_lacks 8 = .ok (.lastore, 1) := by decide +kernel
theorem dL_lacks_9 : decode cL_lacks 9 = .ok (.goto 6, 3) := by decide +kernel
theorem dL_lacks_12 : decode cL_lacks 12 = .ok (.astore_n 3, 1) := by decide +kernel
theorem dL_lacks_13 : decode cL_lacks 13 = .ok (.iconst 1, 1) := by decide +kernel
theorem dL_lacks_14 : decode cL_lacks 14 = .ok (.ireturn, 1) := by decide +kernel
theorem dL_lacks_15 : decode cL_lacks 15 = .ok (.iconst 0, 1) := by decide +kernel
theorem dL_lacks_16 : decode cL_lacks 16 = .ok (.ireturn, 1) := by decide +kernel
theorem dL_plan_0 : decode cL_plan 0 = .ok (.aload_n 2, 1) := by decide +kernel
theorem dL_plan_1 : decode cL_plan 1 = .ok (.iconst 0, 1) := by decide +kernel
theorem dL_plan_2 : decode cL_plan 2 = .ok (.aload_n 0, 1) := by decide +kernel
theorem dL_plan_3 : decode cL_plan 3 = .ok (.iload_n 1, 1) := by decide +kernel
theorem dL_plan_4 : decode cL_plan 4 = .ok (.invokevirtual 77, 3) := by decide +kernel
theorem dL_plan_7 : decode cL_plan 7 = .ok (.i2l, 1) := by decide +kernel
theorem dL_plan_8 : decode cL_plan 8 = .ok (.lastore, 1) := by decide +kernel
theorem dL_plan_9 : decode cL_plan 9 = .ok (.goto 6, 3) := by decide +kernel
theorem dL_plan_12 : decode cL_plan 12 = .ok (.astore_n 3, 1) := by decide +kernel
theorem dL_plan_13 : decode cL_plan 13 = .ok (.iconst 1, 1) := by decide +kernel
theorem dL_plan_14 : decode cL_plan 14 = .ok (.ireturn, 1) := by decide +kernel
theorem dL_plan_15 : decode cL_plan 15 = .ok (.iconst 0, 1) := by decide +kernel
theorem dL_plan_16 : decode cL_plan 16 = .ok (.ireturn, 1) := by decide +kernel
theorem dL_planLength_0 : decode cL_planLength 0 = .ok (.aload_n 2, 1) := by decide +kernel
theorem dL_planLength_1 : decode cL_planLength 1 = .ok (.iconst 0, 1) := by decide +kernel
theorem dL_planLength_2 : decode cL_planLength 2 = .ok (.aload_n 0, 1) := by decide +kernel
theorem dL_planLength_3 : decode cL_planLength 3 = .ok (.iload_n 1, 1) := by decide +kernel
theorem dL_planLength_4 : decode cL_planLength 4 = .ok (.invokevirtual 80, 3) := by decide +kernel
theorem dL_planLength_7 : decode cL_planLength 7 = .ok (.i2l, 1) := by decide +kernel
theorem dL_planLength_8 : decode cL_planLength 8 = .ok (.lastore, 1) := by decide +kernel
theorem dL_planLength_9 : decode cL_planLength 9 = .ok (.goto 6, 3) := by decide +kernel
theorem dL_planLength_12 : decode cL_planLength 12 = .ok (.astore_n 3, 1) := by decide +kernel
theorem dL_planLength_13 : decode cL_planLength 13 = .ok (.iconst 1, 1) := by decide +kernel
theorem dL_planLength_14 : decode cL_planLength 14 = .ok (.ireturn, 1) := by decide +kernel
theorem dL_planLength_15 : decode cL_planLength 15 = .ok (.iconst 0, 1) := by decide +kernel
theorem dL_planLength_16 : decode cL_planLength 16 = .ok (.ireturn, 1) := by decide +kernel
theorem dL_report_0 : decode cL_report 0 = .ok (.aload_n 3, 1) := by decide +kernel
theorem dL_report_1 : decode cL_report 1 = .ok (.iconst 0, 1) := by decide +kernel
theorem dL_report_2 : decode cL_report 2 = .ok (.aload_n 0, 1) := by decide +kernel
theorem dL_report_3 : decode cL_report 3 = .ok (.iload_n 1, 1) := by decide +kernel
theorem dL_report_4 : decode cL_report 4 = .ok (.iload_n 2, 1) := by decide +kernel
theorem dL_report_5 : decode cL_report 5 = .ok (.invokevirtual 83, 3) := by decide +kernel
theorem dL_report_8 : decode cL_report 8 = .ok (.i2l, 1) := by decide +kernel
theorem dL_report_9 : decode cL_report 9 = .ok (.lastore, 1) := by decide +kernel
theorem dL_report_10 : decode cL_report 10 = .ok (.goto 11, 3) := by decide +kernel
theorem dL_report_13 : decode cL_report 13 = .ok (.astore 4, 2) := by decide +kernel
theorem dL_report_15 : decode cL_report 15 = .ok (.iconst 1, 1) := by decide +kernel
theorem dL_report_16 : decode cL_report 16 = .ok (.ireturn, 1) := by decide +kernel
theorem dL_report_17 : decode cL_report 17 = .ok (.astore 4, 2) := by decide +kernel
theorem dL_report_19 : decode cL_report 19 = .ok (.iconst 2, 1) := by decide +kernel
theorem dL_report_20 : decode cL_report 20 = .ok (.ireturn, 1) := by decide +kernel
theorem dL_report_21 : decode cL_report 21 = .ok (.iconst 0, 1) := by decide +kernel
theorem dL_report_22 : decode cL_report 22 = .ok (.ireturn, 1) := by decide +kernel
theorem dL_storm_0 : decode cL_storm 0 = .ok (.aload 4, 2) := by decide +kernel
theorem dL_storm_2 : decode cL_storm 2 = .ok (.iconst 0, 1) := by decide +kernel
theorem dL_storm_3 : decode cL_storm 3 = .ok (.aload_n 0, 1) := by decide +kernel
theorem dL_storm_4 : decode cL_storm 4 = .ok (.iload_n 1, 1) := by decide +kernel
theorem dL_storm_5 : decode cL_storm 5 = .ok (.iload_n 2, 1) := by decide +kernel
theorem dL_storm_6 : decode cL_storm 6 = .ok (.iload_n 3, 1) := by decide +kernel
theorem dL_storm_7 : decode cL_storm 7 = .ok (.invokevirtual 86, 3) := by decide +kernel
theorem dL_storm_10 : decode cL_storm 10 = .ok (.i2l, 1) := by decide +kernel
theorem dL_storm_11 : decode cL_storm 11 = .ok (.lastore, 1) := by decide +kernel
theorem dL_storm_12 : decode cL_storm 12 = .ok (.goto 11, 3) := by decide +kernel
theorem dL_storm_15 : decode cL_storm 15 = .ok (.astore 5, 2) := by decide +kernel
theorem dL_storm_17 : decode cL_storm 17 = .ok (.iconst 1, 1) := by decide +kernel
theorem dL_storm_18 : decode cL_storm 18 = .ok (.ireturn, 1) := by decide +kernel
theorem dL_storm_19 : decode cL_storm 19 = .ok (.astore 5, 2) := by decide +kernel
theorem dL_storm_21 : decode cL_storm 21 = .ok (.iconst 2, 1) := by decide +kernel
theorem dL_storm_22 : decode cL_storm 22 = .ok (.ireturn, 1) := by decide +kernel
theorem dL_storm_23 : decode cL_storm 23 = .ok (.iconst 0, 1) := by decide +kernel
theorem dL_storm_24 : decode cL_storm 24 = .ok (.ireturn, 1) := by decide +kernel
theorem dL_remake_0 : decode cL_remake 0 = .ok (.aload_n 2, 1) := by decide +kernel
theorem dL_remake_1 : decode cL_remake 1 = .ok (.iconst 0, 1) := by decide +kernel
theorem dL_remake_2 : decode cL_remake 2 = .ok (.aload_n 0, 1) := by decide +kernel
theorem dL_remake_3 : decode cL_remake 3 = .ok (.iload_n 1, 1) := by decide +kernel
theorem dL_remake_4 : decode cL_remake 4 = .ok (.invokevirtual 89, 3) := by decide +kernel
theorem dL_remake_7 : decode cL_remake 7 = .ok (.i2l, 1) := by decide +kernel
theorem dL_remake_8 : decode cL_remake 8 = .ok (.lastore, 1) := by decide +kernel
theorem dL_remake_9 : decode cL_remake 9 = .ok (.goto 6, 3) := by decide +kernel
theorem dL_remake_12 : decode cL_remake 12 = .ok (.astore_n 3, 1) := by decide +kernel
theorem dL_remake_13 : decode cL_remake 13 = .ok (.iconst 1, 1) := by decide +kernel
theorem dL_remake_14 : decode cL_remake 14 = .ok (.ireturn, 1) := by decide +kernel
theorem dL_remake_15 : decode cL_remake 15 = .ok (.iconst 0, 1) := by decide +kernel
theorem dL_remake_16 : decode cL_remake 16 = .ok (.ireturn, 1) := by decide +kernel
theorem dL_remakeBy_0 : decode cL_remakeBy 0 = .ok (.aload_n 2, 1) := by decide +kernel
theorem dL_remakeBy_1 : decode cL_remakeBy 1 = .ok (.iconst 0, 1) := by decide +kernel
theorem dL_remakeBy_2 : decode cL_remakeBy 2 = .ok (.aload_n 0, 1) := by decide +kernel
theorem dL_remakeBy_3 : decode cL_remakeBy 3 = .ok (.iload_n 1, 1) := by decide +kernel
theorem dL_remakeBy_4 : decode cL_remakeBy 4 = .ok (.invokevirtual 92, 3) := by decide +kernel
theorem dL_remakeBy_7 : decode cL_remakeBy 7 = .ok (.i2l, 1) := by decide +kernel
theorem dL_remakeBy_8 : decode cL_remakeBy 8 = .ok (.lastore, 1) := by decide +kernel
theorem dL_remakeBy_9 : decode cL_remakeBy 9 = .ok (.goto 6, 3) := by decide +kernel
theorem dL_remakeBy_12 : decode cL_remakeBy 12 = .ok (.astore_n 3, 1) := by decide +kernel
theorem dL_remakeBy_13 : decode cL_remakeBy 13 = .ok (.iconst 1, 1) := by decide +kernel
theorem dL_remakeBy_14 : decode cL_remakeBy 14 = .ok (.ireturn, 1) := by decide +kernel
theorem dL_remakeBy_15 : decode cL_remakeBy 15 = .ok (.iconst 0, 1) := by decide +kernel
theorem dL_remakeBy_16 : decode cL_remakeBy 16 = .ok (.ireturn, 1) := by decide +kernel
theorem dL_haul_0 : decode cL_haul 0 = .ok (.aload_n 2, 1) := by decide +kernel
theorem dL_haul_1 : decode cL_haul 1 = .ok (.iconst 0, 1) := by decide +kernel
theorem dL_haul_2 : decode cL_haul 2 = .ok (.aload_n 0, 1) := by decide +kernel
theorem dL_haul_3 : decode cL_haul 3 = .ok (.iload_n 1, 1) := by decide +kernel
theorem dL_haul_4 : decode cL_haul 4 = .ok (.invokevirtual 95, 3) := by decide +kernel
theorem dL_haul_7 : decode cL_haul 7 = .ok (.i2l, 1) := by decide +kernel
theorem dL_haul_8 : decode cL_haul 8 = .ok (.lastore, 1) := by decide +kernel
theorem dL_haul_9 : decode cL_haul 9 = .ok (.goto 6, 3) := by decide +kernel
theorem dL_haul_12 : decode cL_haul 12 = .ok (.astore_n 3, 1) := by decide +kernel
theorem dL_haul_13 : decode cL_haul 13 = .ok (.iconst 1, 1) := by decide +kernel
theorem dL_haul_14 : decode cL_haul 14 = .ok (.ireturn, 1) := by decide +kernel
theorem dL_haul_15 : decode cL_haul 15 = .ok (.iconst 0, 1) := by decide +kernel
theorem dL_haul_16 : decode cL_haul 16 = .ok (.ireturn, 1) := by decide +kernel
theorem dL_addStock_0 : decode cL_addStock 0 = .ok (.aload_n 2, 1) := by decide +kernel
theorem dL_addStock_1 : decode cL_addStock 1 = .ok (.iconst 0, 1) := by decide +kernel
theorem dL_addStock_2 : decode cL_addStock 2 = .ok (.aload_n 0, 1) := by decide +kernel
theorem dL_addStock_3 : decode cL_addStock 3 = .ok (.iload_n 1, 1) := by decide +kernel
theorem dL_addStock_4 : decode cL_addStock 4 = .ok (.invokevirtual 98, 3) := by decide +kernel
theorem dL_addStock_7 : decode cL_addStock 7 = .ok (.i2l, 1) := by decide +kernel
theorem dL_addStock_8 : decode cL_addStock 8 = .ok (.lastore, 1) := by decide +kernel
theorem dL_addStock_9 : decode cL_addStock 9 = .ok (.goto 6, 3) := by decide +kernel
theorem dL_addStock_12 : decode cL_addStock 12 = .ok (.astore_n 3, 1) := by decide +kernel
theorem dL_addStock_13 : decode cL_addStock 13 = .ok (.iconst 1, 1) := by decide +kernel
theorem dL_addStock_14 : decode cL_addStock 14 = .ok (.ireturn, 1) := by decide +kernel
theorem dL_addStock_15 : decode cL_addStock 15 = .ok (.iconst 0, 1) := by decide +kernel
theorem dL_addStock_16 : decode cL_addStock 16 = .ok (.ireturn, 1) := by decide +kernel
theorem dL_setOffset_0 : decode cL_setOffset 0 = .ok (.aload_n 3, 1) := by decide +kernel
theorem dL_setOffset_1 : decode cL_setOffset 1 = .ok (.iconst 0, 1) := by decide +kernel
theorem dL_setOffset_2 : decode cL_setOffset 2 = .ok (.aload_n 0, 1) := by decide +kernel
theorem dL_setOffset_3 : decode cL_setOffset 3 = .ok (.iload_n 1, 1) := by decide +kernel
theorem dL_setOffset_4 : decode cL_setOffset 4 = .ok (.iload_n 2, 1) := by decide +kernel
theorem dL_setOffset_5 : decode cL_setOffset 5 = .ok (.invokevirtual 101, 3) := by decide +kernel
theorem dL_setOffset_8 : decode cL_setOffset 8 = .ok (.i2l, 1) := by decide +kernel
theorem dL_setOffset_9 : decode cL_setOffset 9 = .ok (.lastore, 1) := by decide +kernel
theorem dL_setOffset_10 : decode cL_setOffset 10 = .ok (.goto 11, 3) := by decide +kernel
theorem dL_setOffset_13 : decode cL_setOffset 13 = .ok (.astore 4, 2) := by decide +kernel
theorem dL_setOffset_15 : decode cL_setOffset 15 = .ok (.iconst 1, 1) := by decide +kernel
theorem dL_setOffset_16 : decode cL_setOffset 16 = .ok (.ireturn, 1) := by decide +kernel
theorem dL_setOffset_17 : decode cL_setOffset 17 = .ok (.astore 4, 2) := by decide +kernel
theorem dL_setOffset_19 : decode cL_setOffset 19 = .ok (.iconst 2, 1) := by decide +kernel
theorem dL_setOffset_20 : decode cL_setOffset 20 = .ok (.ireturn, 1) := by decide +kernel
theorem dL_setOffset_21 : decode cL_setOffset 21 = .ok (.iconst 0, 1) := by decide +kernel
theorem dL_setOffset_22 : decode cL_setOffset 22 = .ok (.ireturn, 1) := by decide +kernel
theorem dL_setHold_0 : decode cL_setHold 0 = .ok (.aload_n 3, 1) := by decide +kernel
theorem dL_setHold_1 : decode cL_setHold 1 = .ok (.iconst 0, 1) := by decide +kernel
theorem dL_setHold_2 : decode cL_setHold 2 = .ok (.aload_n 0, 1) := by decide +kernel
theorem dL_setHold_3 : decode cL_setHold 3 = .ok (.iload_n 1, 1) := by decide +kernel
theorem dL_setHold_4 : decode cL_setHold 4 = .ok (.iload_n 2, 1) := by decide +kernel
theorem dL_setHold_5 : decode cL_setHold 5 = .ok (.invokevirtual 104, 3) := by decide +kernel
theorem dL_setHold_8 : decode cL_setHold 8 = .ok (.i2l, 1) := by decide +kernel
theorem dL_setHold_9 : decode cL_setHold 9 = .ok (.lastore, 1) := by decide +kernel
theorem dL_setHold_10 : decode cL_setHold 10 = .ok (.goto 11, 3) := by decide +kernel
theorem dL_setHold_13 : decode cL_setHold 13 = .ok (.astore 4, 2) := by decide +kernel
theorem dL_setHold_15 : decode cL_setHold 15 = .ok (.iconst 1, 1) := by decide +kernel
theorem dL_setHold_16 : decode cL_setHold 16 = .ok (.ireturn, 1) := by decide +kernel
theorem dL_setHold_17 : decode cL_setHold 17 = .ok (.astore 4, 2) := by decide +kernel
theorem dL_setHold_19 : decode cL_setHold 19 = .ok (.iconst 2, 1) := by decide +kernel
theorem dL_setHold_20 : decode cL_setHold 20 = .ok (.ireturn, 1) := by decide +kernel
theorem dL_setHold_21 : decode cL_setHold 21 = .ok (.iconst 0, 1) := by decide +kernel
theorem dL_setHold_22 : decode cL_setHold 22 = .ok (.ireturn, 1) := by decide +kernel
theorem dL_setTerms_0 : decode cL_setTerms 0 = .ok (.aload 4, 2) := by decide +kernel
theorem dL_setTerms_2 : decode cL_setTerms 2 = .ok (.iconst 0, 1) := by decide +kernel
theorem dL_setTerms_3 : decode cL_setTerms 3 = .ok (.aload_n 0, 1) := by decide +kernel
theorem dL_setTerms_4 : decode cL_setTerms 4 = .ok (.iload_n 1, 1) := by decide +kernel
theorem dL_setTerms_5 : decode cL_setTerms 5 = .ok (.iload_n 2, 1) := by decide +kernel
theorem dL_setTerms_6 : decode cL_setTerms 6 = .ok (.iload_n 3, 1) := by decide +kernel
theorem dL_setTerms_7 : decode cL_setTerms 7 = .ok (.invokevirtual 107, 3) := by decide +kernel
theorem dL_setTerms_10 : decode cL_setTerms 10 = .ok (.i2l, 1) := by decide +kernel
theorem dL_setTerms_11 : decode cL_setTerms 11 = .ok (.lastore, 1) := by decide +kernel
theorem dL_setTerms_12 : decode cL_setTerms 12 = .ok (.goto 7, 3) := by decide +kernel
theorem dL_setTerms_15 : decode cL_setTerms 15 = .ok (.astore 5, 2) := by decide +kernel
theorem dL_setTerms_17 : decode cL_setTerms 17 = .ok (.iconst 1, 1) := by decide +kernel
theorem dL_setTerms_18 : decode cL_setTerms 18 = .ok (.ireturn, 1) := by decide +kernel
theorem dL_setTerms_19 : decode cL_setTerms 19 = .ok (.iconst 0, 1) := by decide +kernel
theorem dL_setTerms_20 : decode cL_setTerms 20 = .ok (.ireturn, 1) := by decide +kernel
theorem dL_output_0 : decode cL_output 0 = .ok (.aload_n 2, 1) := by decide +kernel
theorem dL_output_1 : decode cL_output 1 = .ok (.iconst 0, 1) := by decide +kernel
theorem dL_output_2 : decode cL_output 2 = .ok (.aload_n 0, 1) := by decide +kernel
theorem dL_output_3 : decode cL_output 3 = .ok (.iload_n 1, 1) := by decide +kernel
theorem dL_output_4 : decode cL_output 4 = .ok (.invokevirtual 110, 3) := by decide +kernel
theorem dL_output_7 : decode cL_output 7 = .ok (.i2l, 1) := by decide +kernel
theorem dL_output_8 : decode cL_output 8 = .ok (.lastore, 1) := by decide +kernel
theorem dL_output_9 : decode cL_output 9 = .ok (.goto 6, 3) := by decide +kernel
theorem dL_output_12 : decode cL_output 12 = .ok (.astore_n 3, 1) := by decide +kernel
theorem dL_output_13 : decode cL_output 13 = .ok (.iconst 1, 1) := by decide +kernel
theorem dL_output_14 : decode cL_output 14 = .ok (.ireturn, 1) := by decide +kernel
theorem dL_output_15 : decode cL_output 15 = .ok (.iconst 0, 1) := by decide +kernel
theorem dL_output_16 : decode cL_output 16 = .ok (.ireturn, 1) := by decide +kernel
theorem dL_undo_0 : decode cL_undo 0 = .ok (.aload_n 1, 1) := by decide +kernel
theorem dL_undo_1 : decode cL_undo 1 = .ok (.iconst 0, 1) := by decide +kernel
theorem dL_undo_2 : decode cL_undo 2 = .ok (.aload_n 0, 1) := by decide +kernel
theorem dL_undo_3 : decode cL_undo 3 = .ok (.invokevirtual 113, 3) := by decide +kernel
theorem dL_undo_6 : decode cL_undo 6 = .ok (.i2l, 1) := by decide +kernel
theorem dL_undo_7 : decode cL_undo 7 = .ok (.lastore, 1) := by decide +kernel
theorem dL_undo_8 : decode cL_undo 8 = .ok (.goto 6, 3) := by decide +kernel
theorem dL_undo_11 : decode cL_undo 11 = .ok (.astore_n 2, 1) := by decide +kernel
theorem dL_undo_12 : decode cL_undo 12 = .ok (.iconst 1, 1) := by decide +kernel
theorem dL_undo_13 : decode cL_undo 13 = .ok (.ireturn, 1) := by decide +kernel
theorem dL_undo_14 : decode cL_undo 14 = .ok (.iconst 0, 1) := by decide +kernel
theorem dL_undo_15 : decode cL_undo 15 = .ok (.ireturn, 1) := by decide +kernel
theorem dL_save_0 : decode cL_save 0 = .ok (.aload_n 2, 1) := by decide +kernel
theorem dL_save_1 : decode cL_save 1 = .ok (.iconst 0, 1) := by decide +kernel
theorem dL_save_2 : decode cL_save 2 = .ok (.aload_n 0, 1) := by decide +kernel
theorem dL_save_3 : decode cL_save 3 = .ok (.iload_n 1, 1) := by decide +kernel
theorem dL_save_4 : decode cL_save 4 = .ok (.invokevirtual 116, 3) := by decide +kernel
theorem dL_save_7 : decode cL_save 7 = .ok (.i2l, 1) := by decide +kernel
theorem dL_save_8 : decode cL_save 8 = .ok (.lastore, 1) := by decide +kernel
theorem dL_save_9 : decode cL_save 9 = .ok (.goto 6, 3) := by decide +kernel
theorem dL_save_12 : decode cL_save 12 = .ok (.astore_n 3, 1) := by decide +kernel
theorem dL_save_13 : decode cL_save 13 = .ok (.iconst 1, 1) := by decide +kernel
theorem dL_save_14 : decode cL_save 14 = .ok (.ireturn, 1) := by decide +kernel
theorem dL_save_15 : decode cL_save 15 = .ok (.iconst 0, 1) := by decide +kernel
theorem dL_save_16 : decode cL_save 16 = .ok (.ireturn, 1) := by decide +kernel
theorem dL_restore_0 : decode cL_restore 0 = .ok (.aload_n 2, 1) := by decide +kernel
theorem dL_restore_1 : decode cL_restore 1 = .ok (.iconst 0, 1) := by decide +kernel
theorem dL_restore_2 : decode cL_restore 2 = .ok (.aload_n 0, 1) := by decide +kernel
theorem dL_restore_3 : decode cL_restore 3 = .ok (.iload_n 1, 1) := by decide +kernel
theorem dL_restore_4 : decode cL_restore 4 = .ok (.invokevirtual 119, 3) := by decide +kernel
theorem dL_restore_7 : decode cL_restore 7 = .ok (.i2l, 1) := by decide +kernel
theorem dL_restore_8 : decode cL_restore 8 = .ok (.lastore, 1) := by decide +kernel
theorem dL_restore_9 : decode cL_restore 9 = .ok (.goto 9, 3) := by decide +kernel
theorem dL_restore_12 : decode cL_restore 12 = .ok (.astore_n 3, 1) := by decide +kernel
theorem dL_restore_13 : decode cL_restore 13 = .ok (.iconst 1, 1) := by decide +kernel
theorem dL_restore_14 : decode cL_restore 14 = .ok (.ireturn, 1) := by decide +kernel
theorem dL_restore_15 : decode cL_restore 15 = .ok (.astore_n 3, 1) := by decide +kernel
theorem dL_restore_16 : decode cL_restore 16 = .ok (.iconst 2, 1) := by decide +kernel
theorem dL_restore_17 : decode cL_restore 17 = .ok (.ireturn, 1) := by decide +kernel
theorem dL_restore_18 : decode cL_restore 18 = .ok (.iconst 0, 1) := by decide +kernel
theorem dL_restore_19 : decode cL_restore 19 = .ok (.ireturn, 1) := by decide +kernel
