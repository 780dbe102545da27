theorem dX0_init_0 : decode cX0_init 0 = .ok (.aload_n 0, 1) := by decide +kernel
theorem dX0_init_1 : decode cX0_init 1 = .ok (.invokespecial 3, 3) := by decide +kernel
theorem dX0_init_4 : decode cX0_init 4 = .ok (.aload_n 0, 1) := by decide +kernel
theorem dX0_init_5 : decode cX0_init 5 = .ok (.iconst 0, 1) := by decide +kernel
theorem dX0_init_6 : decode cX0_init 6 = .ok (.putfield 9, 3) := by decide +kernel
theorem dX0_init_9 : decode cX0_init 9 = .ok (.aload_n 0, 1) := by decide +kernel
theorem dX0_init_10 : decode cX0_init 10 = .ok (.iconst 0, 1) := by decide +kernel
theorem dX0_init_11 : decode cX0_init 11 = .ok (.putfield 15, 3) := by decide +kernel
theorem dX0_init_14 : decode cX0_init 14 = .ok (.aload_n 0, 1) := by decide +kernel
theorem dX0_init_15 : decode cX0_init 15 = .ok (.bipush 10, 2) := by decide +kernel
theorem dX0_init_17 : decode cX0_init 17 = .ok (.newarray .int, 2) := by decide +kernel
theorem dX0_init_19 : decode cX0_init 19 = .ok (.putfield 18, 3) := by decide +kernel
theorem dX0_init_22 : decode cX0_init 22 = .ok (.aload_n 0, 1) := by decide +kernel
theorem dX0_init_23 : decode cX0_init 23 = .ok (.bipush 10, 2) := by decide +kernel
theorem dX0_init_25 : decode cX0_init 25 = .ok (.newarray .int, 2) := by decide +kernel
theorem dX0_init_27 : decode cX0_init 27 = .ok (.putfield 22, 3) := by decide +kernel
theorem dX0_init_30 : decode cX0_init 30 = .ok (.aload_n 0, 1) := by decide +kernel
theorem dX0_init_31 : decode cX0_init 31 = .ok (.bipush 10, 2) := by decide +kernel
theorem dX0_init_33 : decode cX0_init 33 = .ok (.newarray .int, 2) := by decide +kernel
theorem dX0_init_35 : decode cX0_init 35 = .ok (.putfield 25, 3) := by decide +kernel
theorem dX0_init_38 : decode cX0_init 38 = .ok (.aload_n 0, 1) := by decide +kernel
theorem dX0_init_39 : decode cX0_init 39 = .ok (.bipush 10, 2) := by decide +kernel
theorem dX0_init_41 : decode cX0_init 41 = .ok (.newarray .int, 2) := by decide +kernel
theorem dX0_init_43 : decode cX0_init 43 = .ok (.putfield 28, 3) := by decide +kernel
theorem dX0_init_46 : decode cX0_init 46 = .ok (.aload_n 0, 1) := by decide +kernel
theorem dX0_init_47 : decode cX0_init 47 = .ok (.bipush 10, 2) := by decide +kernel
theorem dX0_init_49 : decode cX0_init 49 = .ok (.newarray .int, 2) := by decide +kernel
theorem dX0_init_51 : decode cX0_init 51 = .ok (.putfield 31, 3) := by decide +kernel
theorem dX0_init_54 : decode cX0_init 54 = .ok (.aload_n 0, 1) := by decide +kernel
theorem dX0_init_55 : decode cX0_init 55 = .ok (.bipush 10, 2) := by decide +kernel
theorem dX0_init_57 : decode cX0_init 57 = .ok (.newarray .int, 2) := by decide +kernel
theorem dX0_init_59 : decode cX0_init 59 = .ok (.putfield 34, 3) := by decide +kernel
theorem dX0_init_62 : decode cX0_init 62 = .ok (.aload_n 0, 1) := by decide +kernel
theorem dX0_init_63 : decode cX0_init 63 = .ok (.bipush 10, 2) := by decide +kernel
theorem dX0_init_65 : decode cX0_init 65 = .ok (.newarray .int, 2) := by decide +kernel
theorem dX0_init_67 : decode cX0_init 67 = .ok (.putfield 37, 3) := by decide +kernel
theorem dX0_init_70 : decode cX0_init 70 = .ok (.aload_n 0, 1) := by decide +kernel
theorem dX0_init_71 : decode cX0_init 71 = .ok (.bipush 10, 2) := by decide +kernel
theorem dX0_init_73 : decode cX0_init 73 = .ok (.newarray .int, 2) := by decide +kernel
theorem dX0_init_75 : decode cX0_init 75 = .ok (.putfield 40, 3) := by decide +kernel
theorem dX0_init_78 : decode cX0_init 78 = .ok (.aload_n 0, 1) := by decide +kernel
theorem dX0_init_79 : decode cX0_init 79 = .ok (.bipush 10, 2) := by decide +kernel
theorem dX0_init_81 : decode cX0_init 81 = .ok (.newarray .int, 2) := by decide +kernel
theorem dX0_init_83 : decode cX0_init 83 = .ok (.putfield 43, 3) := by decide +kernel
theorem dX0_init_86 : decode cX0_init 86 = .ok (.return_, 1) := by decide +kernel
theorem dX0_copyFrom_0 : decode cX0_copyFrom 0 = .ok (.aload_n 0, 1) := by decide +kernel
theorem dX0_copyFrom_1 : decode cX0_copyFrom 1 = .ok (.aload_n 1, 1) := by decide +kernel
theorem dX0_copyFrom_2 : decode cX0_copyFrom 2 = .ok (.getfield 9, 3) := by decide +kernel
theorem dX0_copyFrom_5 : decode cX0_copyFrom 5 = .ok (.putfield 9, 3) := by decide +kernel
theorem dX0_copyFrom_8 : decode cX0_copyFrom 8 = .ok (.aload_n 0, 1) := by decide +kernel
theorem dX0_copyFrom_9 : decode cX0_copyFrom 9 = .ok (.aload_n 1, 1) := by decide +kernel
theorem dX0_copyFrom_10 : decode cX0_copyFrom 10 = .ok (.getfield 15, 3) := by decide +kernel
theorem dX0_copyFrom_13 : decode cX0_copyFrom 13 = .ok (.putfield 15, 3) := by decide +kernel
theorem dX0_copyFrom_16 : decode cX0_copyFrom 16 = .ok (.aload_n 1, 1) := by decide +kernel
theorem dX0_copyFrom_17 : decode cX0_copyFrom 17 = .ok (.getfield 18, 3) := by decide +kernel
theorem dX0_copyFrom_20 : decode cX0_copyFrom 20 = .ok (.iconst 0, 1) := by decide +kernel
theorem dX0_copyFrom_21 : decode cX0_copyFrom 21 = .ok (.aload_n 0, 1) := by decide +kernel
theorem dX0_copyFrom_22 : decode cX0_copyFrom 22 = .ok (.getfield 18, 3) := by decide +kernel
theorem dX0_copyFrom_25 : decode cX0_copyFrom 25 = .ok (.iconst 0, 1) := by decide +kernel
theorem dX0_copyFrom_26 : decode cX0_copyFrom 26 = .ok (.bipush 10, 2) := by decide +kernel
theorem dX0_copyFrom_28 : decode cX0_copyFrom 28 = .ok (.invokestatic 46, 3) := by decide +kernel
theorem dX0_copyFrom_31 : decode cX0_copyFrom 31 = .ok (.aload_n 1, 1) := by decide +kernel
theorem dX0_copyFrom_32 : decode cX0_copyFrom 32 = .ok (.getfield 22, 3) := by decide +kernel
theorem dX0_copyFrom_35 : decode cX0_copyFrom 35 = .ok (.iconst 0, 1) := by decide +kernel
theorem dX0_copyFrom_36 : decode cX0_copyFrom 36 = .ok (.aload_n 0, 1) := by decide +kernel
theorem dX0_copyFrom_37 : decode cX0_copyFrom 37 = .ok (.getfield 22, 3) := by decide +kernel
theorem dX0_copyFrom_40 : decode cX0_copyFrom 40 = .ok (.iconst 0, 1) := by decide +kernel
theorem dX0_copyFrom_41 : decode cX0_copyFrom 41 = .ok (.bipush 10, 2) := by decide +kernel
theorem dX0_copyFrom_43 : decode cX0_copyFrom 43 = .ok (.invokestatic 46, 3) := by decide +kernel
theorem dX0_copyFrom_46 : decode cX0_copyFrom 46 = .ok (.aload_n 1, 1) := by decide +kernel
theorem dX0_copyFrom_47 : decode cX0_copyFrom 47 = .ok (.getfield 25, 3) := by decide +kernel
theorem dX0_copyFrom_50 : decode cX0_copyFrom 50 = .ok (.iconst 0, 1) := by decide +kernel
theorem dX0_copyFrom_51 : decode cX0_copyFrom 51 = .ok (.aload_n 0, 1) := by decide +kernel
theorem dX0_copyFrom_52 : decode cX0_copyFrom 52 = .ok (.getfield 25, 3) := by decide +kernel
theorem dX0_copyFrom_55 : decode cX0_copyFrom 55 = .ok (.iconst 0, 1) := by decide +kernel
theorem dX0_copyFrom_56 : decode cX0_copyFrom 56 = .ok (.bipush 10, 2) := by decide +kernel
theorem dX0_copyFrom_58 : decode cX0_copyFrom 58 = .ok (.invokestatic 46, 3) := by decide +kernel
theorem dX0_copyFrom_61 : decode cX0_copyFrom 61 = .ok (.aload_n 1, 1) := by decide +kernel
theorem dX0_copyFrom_62 : decode cX0_copyFrom 62 = .ok (.getfield 28, 3) := by decide +kernel
theorem dX0_copyFrom_65 : decode cX0_copyFrom 65 = .ok (.iconst 0, 1) := by decide +kernel
theorem dX0_copyFrom_66 : decode cX0_copyFrom 66 = .ok (.aload_n 0, 1) := by decide +kernel
theorem dX0_copyFrom_67 : decode cX0_copyFrom 67 = .ok (.getfield 28, 3) := by decide +kernel
theorem dX0_copyFrom_70 : decode cX0_copyFrom 70 = .ok (.iconst 0, 1) := by decide +kernel
theorem dX0_copyFrom_71 : decode cX0_copyFrom 71 = .ok (.bipush 10, 2) := by decide +kernel
theorem dX0_copyFrom_73 : decode cX0_copyFrom 73 = .ok (.invokestatic 46, 3) := by decide +kernel
theorem dX0_copyFrom_76 : decode cX0_copyFrom 76 = .ok (.aload_n 1, 1) := by decide +kernel
theorem dX0_copyFrom_77 : decode cX0_copyFrom 77 = .ok (.getfield 31, 3) := by decide +kernel
theorem dX0_copyFrom_80 : decode cX0_copyFrom 80 = .ok (.iconst 0, 1) := by decide +kernel
theorem dX0_copyFrom_81 : decode cX0_copyFrom 81 = .ok (.aload_n 0, 1) := by decide +kernel
theorem dX0_copyFrom_82 : decode cX0_copyFrom 82 = .ok (.getfield 31, 3) := by decide +kernel
theorem dX0_copyFrom_85 : decode cX0_copyFrom 85 = .ok (.iconst 0, 1) := by decide +kernel
theorem dX0_copyFrom_86 : decode cX0_copyFrom 86 = .ok (.bipush 10, 2) := by decide +kernel
theorem dX0_copyFrom_88 : decode cX0_copyFrom 88 = .ok (.invokestatic 46, 3) := by decide +kernel
theorem dX0_copyFrom_91 : decode cX0_copyFrom 91 = .ok (.aload_n 1, 1) := by decide +kernel
theorem dX0_copyFrom_92 : decode cX0_copyFrom 92 = .ok (.getfield 34, 3) := by decide +kernel
theorem dX0_copyFrom_95 : decode cX0_copyFrom 95 = .ok (.iconst 0, 1) := by decide +kernel
theorem dX0_copyFrom_96 : decode cX0_copyFrom 96 = .ok (.aload_n 0, 1) := by decide +kernel
theorem dX0_copyFrom_97 : decode cX0_copyFrom 97 = .ok (.getfield 34, 3) := by decide +kernel
theorem dX0_copyFrom_100 : decode cX0_copyFrom 100 = .ok (.iconst 0, 1) := by decide +kernel
theorem dX0_copyFrom_101 : decode cX0_copyFrom 101 = .ok (.bipush 10, 2) := by decide +kernel
theorem dX0_copyFrom_103 : decode cX0_copyFrom 103 = .ok (.invokestatic 46, 3) := by decide +kernel
theorem dX0_copyFrom_106 : decode cX0_copyFrom 106 = .ok (.aload_n 1, 1) := by decide +kernel
theorem dX0_copyFrom_107 : decode cX0_copyFrom 107 = .ok (.getfield 37, 3) := by decide +kernel
theorem dX0_copyFrom_110 : decode cX0_copyFrom 110 = .ok (.iconst 0, 1) := by decide +kernel
theorem dX0_copyFrom_111 : decode cX0_copyFrom 111 = .ok (.aload_n 0, 1) := by decide +kernel
theorem dX0_copyFrom_112 : decode cX0_copyFrom 112 = .ok (.getfield 37, 3) := by decide +kernel
theorem dX0_copyFrom_115 : decode cX0_copyFrom 115 = .ok (.iconst 0, 1) := by decide +kernel
theorem dX0_copyFrom_116 : decode cX0_copyFrom 116 = .ok (.bipush 10, 2) := by decide +kernel
theorem dX0_copyFrom_118 : decode cX0_copyFrom 118 = .ok (.invokestatic 46, 3) := by decide +kernel
theorem dX0_copyFrom_121 : decode cX0_copyFrom 121 = .ok (.aload_n 1, 1) := by decide +kernel
theorem dX0_copyFrom_122 : decode cX0_copyFrom 122 = .ok (.getfield 40, 3) := by decide +kernel
theorem dX0_copyFrom_125 : decode cX0_copyFrom 125 = .ok (.iconst 0, 1) := by decide +kernel
theorem dX0_copyFrom_126 : decode cX0_copyFrom 126 = .ok (.aload_n 0, 1) := by decide +kernel
theorem dX0_copyFrom_127 : decode cX0_copyFrom 127 = .ok (.getfield 40, 3) := by decide +kernel
theorem dX0_copyFrom_130 : decode cX0_copyFrom 130 = .ok (.iconst 0, 1) := by decide +kernel
theorem dX0_copyFrom_131 : decode cX0_copyFrom 131 = .ok (.bipush 10, 2) := by decide +kernel
theorem dX0_copyFrom_133 : decode cX0_copyFrom 133 = .ok (.invokestatic 46, 3) := by decide +kernel
theorem dX0_copyFrom_136 : decode cX0_copyFrom 136 = .ok (.aload_n 1, 1) := by decide +kernel
theorem dX0_copyFrom_137 : decode cX0_copyFrom 137 = .ok (.getfield 43, 3) := by decide +kernel
theorem dX0_copyFrom_140 : decode cX0_copyFrom 140 = .ok (.iconst 0, 1) := by decide +kernel
theorem dX0_copyFrom_141 : decode cX0_copyFrom 141 = .ok (.aload_n 0, 1) := by decide +kernel
theorem dX0_copyFrom_142 : decode cX0_copyFrom 142 = .ok (.getfield 43, 3) := by decide +kernel
theorem dX0_copyFrom_145 : decode cX0_copyFrom 145 = .ok (.iconst 0, 1) := by decide +kernel
theorem dX0_copyFrom_146 : decode cX0_copyFrom 146 = .ok (.bipush 10, 2) := by decide +kernel
theorem dX0_copyFrom_148 : decode cX0_copyFrom 148 = .ok (.invokestatic 46, 3) := by decide +kernel
theorem dX0_copyFrom_151 : decode cX0_copyFrom 151 = .ok (.return_, 1) := by decide +kernel
theorem dX0_add_0 : decode cX0_add 0 = .ok (.aload_n 0, 1) := by decide +kernel
theorem dX0_add_1 : decode cX0_add 1 = .ok (.getfield 9, 3) := by decide +kernel
theorem dX0_add_4 : decode cX0_add 4 = .ok (.bipush 10, 2) := by decide +kernel
theorem dX0_add_6 : decode cX0_add 6 = .ok (.if_icmp .lt 4, 3) := by decide +kernel
theorem dX0_add_9 : decode cX0_add 9 = .ok (.return_, 1) := by decide +kernel
theorem dX0_add_10 : decode cX0_add 10 = .ok (.aload_n 0, 1) := by decide +kernel
theorem dX0_add_11 : decode cX0_add 11 = .ok (.getfield 18, 3) := by decide +kernel
theorem dX0_add_14 : decode cX0_add 14 = .ok (.aload_n 0, 1) := by decide +kernel
theorem dX0_add_15 : decode cX0_add 15 = .ok (.getfield 9, 3) := by decide +kernel
theorem dX0_add_18 : decode cX0_add 18 = .ok (.iload_n 1, 1) := by decide +kernel
theorem dX0_add_19 : decode cX0_add 19 = .ok (.iastore, 1) := by decide +kernel
theorem dX0_add_20 : decode cX0_add 20 = .ok (.aload_n 0, 1) := by decide +kernel
theorem dX0_add_21 : decode cX0_add 21 = .ok (.getfield 22, 3) := by decide +kernel
theorem dX0_add_24 : decode cX0_add 24 = .ok (.aload_n 0, 1) := by decide +kernel
theorem dX0_add_25 : decode cX0_add 25 = .ok (.getfield 9, 3) := by decide +kernel
theorem dX0_add_28 : decode cX0_add 28 = .ok (.iload_n 2, 1) := by decide +kernel
theorem dX0_add_29 : decode cX0_add 29 = .ok (.iastore, 1) := by decide +kernel
theorem dX0_add_30 : decode cX0_add 30 = .ok (.aload_n 0, 1) := by decide +kernel
theorem dX0_add_31 : decode cX0_add 31 = .ok (.getfield 25, 3) := by decide +kernel
theorem dX0_add_34 : decode cX0_add 34 = .ok (.aload_n 0, 1) := by decide +kernel
theorem dX0_add_35 : decode cX0_add 35 = .ok (.getfield 9, 3) := by decide +kernel
theorem dX0_add_38 : decode cX0_add 38 = .ok (.iload_n 3, 1) := by decide +kernel
theorem dX0_add_39 : decode cX0_add 39 = .ok (.iastore, 1) := by decide +kernel
theorem dX0_add_40 : decode cX0_add 40 = .ok (.aload_n 0, 1) := by decide +kernel
theorem dX0_add_41 : decode cX0_add 41 = .ok (.getfield 28, 3) := by decide +kernel
theorem dX0_add_44 : decode cX0_add 44 = .ok (.aload_n 0, 1) := by decide +kernel
theorem dX0_add_45 : decode cX0_add 45 = .ok (.getfield 9, 3) := by decide +kernel
theorem dX0_add_48 : decode cX0_add 48 = .ok (.iload 4, 2) := by decide +kernel
theorem dX0_add_50 : decode cX0_add 50 = .ok (.iastore, 1) := by decide +kernel
theorem dX0_add_51 : decode cX0_add 51 = .ok (.aload_n 0, 1) := by decide +kernel
theorem dX0_add_52 : decode cX0_add 52 = .ok (.getfield 31, 3) := by decide +kernel
theorem dX0_add_55 : decode cX0_add 55 = .ok (.aload_n 0, 1) := by decide +kernel
theorem dX0_add_56 : decode cX0_add 56 = .ok (.getfield 9, 3) := by decide +kernel
theorem dX0_add_59 : decode cX0_add 59 = .ok (.iconst 0, 1) := by decide +kernel
theorem dX0_add_60 : decode cX0_add 60 = .ok (.iastore, 1) := by decide +kernel
theorem dX0_add_61 : decode cX0_add 61 = .ok (.aload_n 0, 1) := by decide +kernel
theorem dX0_add_62 : decode cX0_add 62 = .ok (.getfield 34, 3) := by decide +kernel
theorem dX0_add_65 : decode cX0_add 65 = .ok (.aload_n 0, 1) := by decide +kernel
theorem dX0_add_66 : decode cX0_add 66 = .ok (.getfield 9, 3) := by decide +kernel
theorem dX0_add_69 : decode cX0_add 69 = .ok (.iconst 0, 1) := by decide +kernel
theorem dX0_add_70 : decode cX0_add 70 = .ok (.iastore, 1) := by decide +kernel
theorem dX0_add_71 : decode cX0_add 71 = .ok (.aload_n 0, 1) := by decide +kernel
theorem dX0_add_72 : decode cX0_add 72 = .ok (.getfield 37, 3) := by decide +kernel
theorem dX0_add_75 : decode cX0_add 75 = .ok (.aload_n 0, 1) := by decide +kernel
theorem dX0_add_76 : decode cX0_add 76 = .ok (.getfield 9, 3) := by decide +kernel
theorem dX0_add_79 : decode cX0_add 79 = .ok (.iconst 0, 1) := by decide +kernel
theorem dX0_add_80 : decode cX0_add 80 = .ok (.iastore, 1) := by decide +kernel
theorem dX0_add_81 : decode cX0_add 81 = .ok (.aload_n 0, 1) := by decide +kernel
theorem dX0_add_82 : decode cX0_add 82 = .ok (.getfield 40, 3) := by decide +kernel
theorem dX0_add_85 : decode cX0_add 85 = .ok (.aload_n 0, 1) := by decide +kernel
theorem dX0_add_86 : decode cX0_add 86 = .ok (.getfield 9, 3) := by decide +kernel
theorem dX0_add_89 : decode cX0_add 89 = .ok (.iconst (-1), 1) := by decide +kernel
theorem dX0_add_90 : decode cX0_add 90 = .ok (.iastore, 1) := by decide +kernel
theorem dX0_add_91 : decode cX0_add 91 = .ok (.aload_n 0, 1) := by decide +kernel
theorem dX0_add_92 : decode cX0_add 92 = .ok (.getfield 43, 3) := by decide +kernel
theorem dX0_add_95 : decode cX0_add 95 = .ok (.aload_n 0, 1) := by decide +kernel
theorem dX0_add_96 : decode cX0_add 96 = .ok (.getfield 9, 3) := by decide +kernel
theorem dX0_add_99 : decode cX0_add 99 = .ok (.iconst 0, 1) := by decide +kernel
theorem dX0_add_100 : decode cX0_add 100 = .ok (.iastore, 1) := by decide +kernel
theorem dX0_add_101 : decode cX0_add 101 = .ok (.aload_n 0, 1) := by decide +kernel
theorem dX0_add_102 : decode cX0_add 102 = .ok (.dup, 1) := by decide +kernel
theorem dX0_add_103 : decode cX0_add 103 = .ok (.getfield 9, 3) := by decide +kernel
theorem dX0_add_106 : decode cX0_add 106 = .ok (.iconst 1, 1) := by decide +kernel
theorem dX0_add_107 : decode cX0_add 107 = .ok (.iadd, 1) := by decide +kernel
theorem dX0_add_108 : decode cX0_add 108 = .ok (.putfield 9, 3) := by decide +kernel
theorem dX0_add_111 : decode cX0_add 111 = .ok (.return_, 1) := by decide +kernel
theorem dX0_lastHome_0 : decode cX0_lastHome 0 = .ok (.aload_n 0, 1) := by decide +kernel
theorem dX0_lastHome_1 : decode cX0_lastHome 1 = .ok (.getfield 9, 3) := by decide +kernel
theorem dX0_lastHome_4 : decode cX0_lastHome 4 = .ok (.ifCond .le 17, 3) := by decide +kernel
theorem dX0_lastHome_7 : decode cX0_lastHome 7 = .ok (.aload_n 0, 1) := by decide +kernel
theorem dX0_lastHome_8 : decode cX0_lastHome 8 = .ok (.getfield 18, 3) := by decide +kernel
theorem dX0_lastHome_11 : decode cX0_lastHome 11 = .ok (.aload_n 0, 1) := by decide +kernel
theorem dX0_lastHome_12 : decode cX0_lastHome 12 = .ok (.getfield 9, 3) := by decide +kernel
theorem dX0_lastHome_15 : decode cX0_lastHome 15 = .ok (.iconst 1, 1) := by decide +kernel
theorem dX0_lastHome_16 : decode cX0_lastHome 16 = .ok (.isub, 1) := by decide +kernel
theorem dX0_lastHome_17 : decode cX0_lastHome 17 = .ok (.iaload, 1) := by decide +kernel
theorem dX0_lastHome_18 : decode cX0_lastHome 18 = .ok (.goto 4, 3) := by decide +kernel
theorem dX0_lastHome_21 : decode cX0_lastHome 21 = .ok (.iconst (-1), 1) := by decide +kernel
theorem dX0_lastHome_22 : decode cX0_lastHome 22 = .ok (.ireturn, 1) := by decide +kernel
theorem dX0_distanceBehind_0 : decode cX0_distanceBehind 0 = .ok (.iload_n 1, 1) := by decide +kernel
theorem dX0_distanceBehind_1 : decode cX0_distanceBehind 1 = .ok (.ifCond .lt 31, 3) := by decide +kernel
theorem dX0_distanceBehind_4 : decode cX0_distanceBehind 4 = .ok (.iload_n 1, 1) := by decide +kernel
theorem dX0_distanceBehind_5 : decode cX0_distanceBehind 5 = .ok (.iconst 1, 1) := by decide +kernel
theorem dX0_distanceBehind_6 : decode cX0_distanceBehind 6 = .ok (.iadd, 1) := by decide +kernel
theorem dX0_distanceBehind_7 : decode cX0_distanceBehind 7 = .ok (.aload_n 0, 1) := by decide +kernel
theorem dX0_distanceBehind_8 : decode cX0_distanceBehind 8 = .ok (.getfield 9, 3) := by decide +kernel
theorem dX0_distanceBehind_11 : decode cX0_distanceBehind 11 = .ok (.if_icmp .ge 21, 3) := by decide +kernel
theorem dX0_distanceBehind_14 : decode cX0_distanceBehind 14 = .ok (.aload_n 0, 1) := by decide +kernel
theorem dX0_distanceBehind_15 : decode cX0_distanceBehind 15 = .ok (.getfield 18, 3) := by decide +kernel
theorem dX0_distanceBehind_18 : decode cX0_distanceBehind 18 = .ok (.iload_n 1, 1) := by decide +kernel
theorem dX0_distanceBehind_19 : decode cX0_distanceBehind 19 = .ok (.iconst 1, 1) := by decide +kernel
theorem dX0_distanceBehind_20 : decode cX0_distanceBehind 20 = .ok (.iadd, 1) := by decide +kernel
theorem dX0_distanceBehind_21 : decode cX0_distanceBehind 21 = .ok (.iaload, 1) := by decide +kernel
theorem dX0_distanceBehind_22 : decode cX0_distanceBehind 22 = .ok (.aload_n 0, 1) := by decide +kernel
theorem dX0_distanceBehind_23 : decode cX0_distanceBehind 23 = .ok (.getfield 18, 3) := by decide +kernel
theorem dX0_distanceBehind_26 : decode cX0_distanceBehind 26 = .ok (.iload_n 1, 1) := by decide +kernel
theorem dX0_distanceBehind_27 : decode cX0_distanceBehind 27 = .ok (.iaload, 1) := by decide +kernel
theorem dX0_distanceBehind_28 : decode cX0_distanceBehind 28 = .ok (.isub, 1) := by decide +kernel
theorem dX0_distanceBehind_29 : decode cX0_distanceBehind 29 = .ok (.goto 4, 3) := by decide +kernel
theorem dX0_distanceBehind_32 : decode cX0_distanceBehind 32 = .ok (.iconst 0, 1) := by decide +kernel
theorem dX0_distanceBehind_33 : decode cX0_distanceBehind 33 = .ok (.ireturn, 1) := by decide +kernel
theorem dX0_membersIn_0 : decode cX0_membersIn 0 = .ok (.iconst 0, 1) := by decide +kernel
theorem dX0_membersIn_1 : decode cX0_membersIn 1 = .ok (.istore_n 2, 1) := by decide +kernel
theorem dX0_membersIn_2 : decode cX0_membersIn 2 = .ok (.iconst 0, 1) := by decide +kernel
theorem dX0_membersIn_3 : decode cX0_membersIn 3 = .ok (.istore_n 3, 1) := by decide +kernel
theorem dX0_membersIn_4 : decode cX0_membersIn 4 = .ok (.iload_n 3, 1) := by decide +kernel
theorem dX0_membersIn_5 : decode cX0_membersIn 5 = .ok (.aload_n 0, 1) := by decide +kernel
theorem dX0_membersIn_6 : decode cX0_membersIn 6 = .ok (.getfield 9, 3) := by decide +kernel
theorem dX0_membersIn_9 : decode cX0_membersIn 9 = .ok (.if_icmp .ge 25, 3) := by decide +kernel
theorem dX0_membersIn_12 : decode cX0_membersIn 12 = .ok (.aload_n 0, 1) := by decide +kernel
theorem dX0_membersIn_13 : decode cX0_membersIn 13 = .ok (.getfield 31, 3) := by decide +kernel
theorem dX0_membersIn_16 : decode cX0_membersIn 16 = .ok (.iload_n 3, 1) := by decide +kernel
theorem dX0_membersIn_17 : decode cX0_membersIn 17 = .ok (.iaload, 1) := by decide +kernel
theorem dX0_membersIn_18 : decode cX0_membersIn 18 = .ok (.iload_n 1, 1) := by decide +kernel
theorem dX0_membersIn_19 : decode cX0_membersIn 19 = .ok (.if_icmp .ne 9, 3) := by decide +kernel
theorem dX0_membersIn_22 : decode cX0_membersIn 22 = .ok (.iload_n 2, 1) := by decide +kernel
theorem dX0_membersIn_23 : decode cX0_membersIn 23 = .ok (.iconst 1, 1) := by decide +kernel
theorem dX0_membersIn_24 : decode cX0_membersIn 24 = .ok (.iload_n 3, 1) := by decide +kernel
theorem dX0_membersIn_25 : decode cX0_membersIn 25 = .ok (.ishl, 1) := by decide +kernel
theorem dX0_membersIn_26 : decode cX0_membersIn 26 = .ok (.ior, 1) := by decide +kernel
theorem dX0_membersIn_27 : decode cX0_membersIn 27 = .ok (.istore_n 2, 1) := by decide +kernel
theorem dX0_membersIn_28 : decode cX0_membersIn 28 = .ok (.iinc 3 1, 3) := by decide +kernel
theorem dX0_membersIn_31 : decode cX0_membersIn 31 = .ok (.goto (-27), 3) := by decide +kernel
theorem dX0_membersIn_34 : decode cX0_membersIn 34 = .ok (.iload_n 2, 1) := by decide +kernel
theorem dX0_membersIn_35 : decode cX0_membersIn 35 = .ok (.ireturn, 1) := by decide +kernel
theorem dX0_votesOf_0 : decode cX0_votesOf 0 = .ok (.iconst 0, 1) := by decide +kernel
theorem dX0_votesOf_1 : decode cX0_votesOf 1 = .ok (.istore_n 2, 1) := by decide +kernel
theorem dX0_votesOf_2 : decode cX0_votesOf 2 = .ok (.iconst 0, 1) := by decide +kernel
theorem dX0_votesOf_3 : decode cX0_votesOf 3 = .ok (.istore_n 3, 1) := by decide +kernel
theorem dX0_votesOf_4 : decode cX0_votesOf 4 = .ok (.iload_n 3, 1) := by decide +kernel
theorem dX0_votesOf_5 : decode cX0_votesOf 5 = .ok (.aload_n 0, 1) := by decide +kernel
theorem dX0_votesOf_6 : decode cX0_votesOf 6 = .ok (.getfield 9, 3) := by decide +kernel
theorem dX0_votesOf_9 : decode cX0_votesOf 9 = .ok (.if_icmp .ge 26, 3) := by decide +kernel
theorem dX0_votesOf_12 : decode cX0_votesOf 12 = .ok (.iload_n 1, 1) := by decide +kernel
theorem dX0_votesOf_13 : decode cX0_votesOf 13 = .ok (.iload_n 3, 1) := by decide +kernel
theorem dX0_votesOf_14 : decode cX0_votesOf 14 = .ok (.invokestatic 52, 3) := by decide +kernel
theorem dX0_votesOf_17 : decode cX0_votesOf 17 = .ok (.ifCond .eq 12, 3) := by decide +kernel
theorem dX0_votesOf_20 : decode cX0_votesOf 20 = .ok (.iload_n 2, 1) := by decide +kernel
theorem dX0_votesOf_21 : decode cX0_votesOf 21 = .ok (.aload_n 0, 1) := by decide +kernel
theorem dX0_votesOf_22 : decode cX0_votesOf 22 = .ok (.getfield 22, 3) := by decide +kernel
theorem dX0_votesOf_25 : decode cX0_votesOf 25 = .ok (.iload_n 3, 1) := by decide +kernel
theorem dX0_votesOf_26 : decode cX0_votesOf 26 = .ok (.iaload, 1) := by decide +kernel
theorem dX0_votesOf_27 : decode cX0_votesOf 27 = .ok (.iadd, 1) := by decide +kernel
theorem dX0_votesOf_28 : decode cX0_votesOf 28 = .ok (.istore_n 2, 1) := by decide +kernel
theorem dX0_votesOf_29 : decode cX0_votesOf 29 = .ok (.iinc 3 1, 3) := by decide +kernel
theorem dX0_votesOf_32 : decode cX0_votesOf 32 = .ok (.goto (-28), 3) := by decide +kernel
theorem dX0_votesOf_35 : decode cX0_votesOf 35 = .ok (.iload_n 2, 1) := by decide +kernel
theorem dX0_votesOf_36 : decode cX0_votesOf 36 = .ok (.ireturn, 1) := by decide +kernel
theorem dX0_tellValues_0 : decode cX0_tellValues 0 = .ok (.iconst 0, 1) := by decide +kernel
theorem dX0_tellValues_1 : decode cX0_tellValues 1 = .ok (.istore_n 3, 1) := by decide +kernel
theorem dX0_tellValues_2 : decode cX0_tellValues 2 = .ok (.iload_n 3, 1) := by decide +kernel
theorem dX0_tellValues_3 : decode cX0_tellValues 3 = .ok (.aload_n 0, 1) := by decide +kernel
theorem dX0_tellValues_4 : decode cX0_tellValues 4 = .ok (.getfield 9, 3) := by decide +kernel
theorem dX0_tellValues_7 : decode cX0_tellValues 7 = .ok (.if_icmp .ge 54, 3) := by decide +kernel
theorem dX0_tellValues_10 : decode cX0_tellValues 10 = .ok (.iload_n 2, 1) := by decide +kernel
theorem dX0_tellValues_11 : decode cX0_tellValues 11 = .ok (.ifCond .lt 44, 3) := by decide +kernel
theorem dX0_tellValues_14 : decode cX0_tellValues 14 = .ok (.iload_n 2, 1) := by decide +kernel
theorem dX0_tellValues_15 : decode cX0_tellValues 15 = .ok (.iload_n 3, 1) := by decide +kernel
theorem dX0_tellValues_16 : decode cX0_tellValues 16 = .ok (.iadd, 1) := by decide +kernel
theorem dX0_tellValues_17 : decode cX0_tellValues 17 = .ok (.aload_n 1, 1) := by decide +kernel
theorem dX0_tellValues_18 : decode cX0_tellValues 18 = .ok (.arraylength, 1) := by decide +kernel
theorem dX0_tellValues_19 : decode cX0_tellValues 19 = .ok (.if_icmp .ge 36, 3) := by decide +kernel
theorem dX0_tellValues_22 : decode cX0_tellValues 22 = .ok (.aload_n 1, 1) := by decide +kernel
theorem dX0_tellValues_23 : decode cX0_tellValues 23 = .ok (.iload_n 2, 1) := by decide +kernel
theorem dX0_tellValues_24 : decode cX0_tellValues 24 = .ok (.iload_n 3, 1) := by decide +kernel
theorem dX0_tellValues_25 : decode cX0_tellValues 25 = .ok (.iadd, 1) := by decide +kernel
theorem dX0_tellValues_26 : decode cX0_tellValues 26 = .ok (.aload_n 0, 1) := by decide +kernel
theorem dX0_tellValues_27 : decode cX0_tellValues 27 = .ok (.getfield 15, 3) := by decide +kernel
theorem dX0_tellValues_30 : decode cX0_tellValues 30 = .ok (.iload_n 3, 1) := by decide +kernel
theorem dX0_tellValues_31 : decode cX0_tellValues 31 = .ok (.invokestatic 52, 3) := by decide +kernel
theorem dX0_tellValues_34 : decode cX0_tellValues 34 = .ok (.ifCond .eq 19, 3) := by decide +kernel
theorem dX0_tellValues_37 : decode cX0_tellValues 37 = .ok (.aload_n 0, 1) := by decide +kernel
theorem dX0_tellValues_38 : decode cX0_tellValues 38 = .ok (.getfield 43, 3) := by decide +kernel
theorem dX0_tellValues_41 : decode cX0_tellValues 41 = .ok (.iload_n 3, 1) := by decide +kernel
theorem dX0_tellValues_42 : decode cX0_tellValues 42 = .ok (.iaload, 1) := by decide +kernel
theorem dX0_tellValues_43 : decode cX0_tellValues 43 = .ok (.aload_n 0, 1) := by decide +kernel
theorem dX0_tellValues_44 : decode cX0_tellValues 44 = .ok (.getfield 28, 3) := by decide +kernel
theorem dX0_tellValues_47 : decode cX0_tellValues 47 = .ok (.iload_n 3, 1) := by decide +kernel
theorem dX0_tellValues_48 : decode cX0_tellValues 48 = .ok (.iaload, 1) := by decide +kernel
theorem dX0_tellValues_49 : decode cX0_tellValues 49 = .ok (.isub, 1) := by decide +kernel
theorem dX0_tellValues_50 : decode cX0_tellValues 50 = .ok (.goto 4, 3) := by decide +kernel
theorem dX0_tellValues_53 : decode cX0_tellValues 53 = .ok (.iconst 0, 1) := by decide +kernel
theorem dX0_tellValues_54 : decode cX0_tellValues 54 = .ok (.iastore, 1) := by decide +kernel
theorem dX0_tellValues_55 : decode cX0_tellValues 55 = .ok (.iinc 3 1, 3) := by decide +kernel
theorem dX0_tellValues_58 : decode cX0_tellValues 58 = .ok (.goto (-56), 3) := by decide +kernel
theorem dX0_tellValues_61 : decode cX0_tellValues 61 = .ok (.return_, 1) := by decide +kernel
theorem dX0_forgetReports_0 : decode cX0_forgetReports 0 = .ok (.aload_n 0, 1) := by decide +kernel
theorem dX0_forgetReports_1 : decode cX0_forgetReports 1 = .ok (.iconst 0, 1) := by decide +kernel
theorem dX0_forgetReports_2 : decode cX0_forgetReports 2 = .ok (.putfield 15, 3) := by decide +kernel
theorem dX0_forgetReports_5 : decode cX0_forgetReports 5 = .ok (.iconst 0, 1) := by decide +kernel
theorem dX0_forgetReports_6 : decode cX0_forgetReports 6 = .ok (.istore_n 1, 1) := by decide +kernel
theorem dX0_forgetReports_7 : decode cX0_forgetReports 7 = .ok (.iload_n 1, 1) := by decide +kernel
theorem dX0_forgetReports_8 : decode cX0_forgetReports 8 = .ok (.bipush 10, 2) := by decide +kernel
theorem dX0_forgetReports_10 : decode cX0_forgetReports 10 = .ok (.if_icmp .ge 16, 3) := by decide +kernel
theorem dX0_forgetReports_13 : decode cX0_forgetReports 13 = .ok (.aload_n 0, 1) := by decide +kernel
theorem dX0_forgetReports_14 : decode cX0_forgetReports 14 = .ok (.getfield 43, 3) := by decide +kernel
theorem dX0_forgetReports_17 : decode cX0_forgetReports 17 = .ok (.iload_n 1, 1) := by decide +kernel
theorem dX0_forgetReports_18 : decode cX0_forgetReports 18 = .ok (.iconst 0, 1) := by decide +kernel
theorem dX0_forgetReports_19 : decode cX0_forgetReports 19 = .ok (.iastore, 1) := by decide +kernel
theorem dX0_forgetReports_20 : decode cX0_forgetReports 20 = .ok (.iinc 1 1, 3) := by decide +kernel
theorem dX0_forgetReports_23 : decode cX0_forgetReports 23 = .ok (.goto (-16), 3) := by decide +kernel
theorem dX0_forgetReports_26 : decode cX0_forgetReports 26 = .ok (.return_, 1) := by decide +kernel
theorem dX0_putUnderSuspicion_0 : decode cX0_putUnderSuspicion 0 = .ok (.iload_n 1, 1) := by decide +kernel
theorem dX0_putUnderSuspicion_1 : decode cX0_putUnderSuspicion 1 = .ok (.ifCond .lt 11, 3) := by decide +kernel
theorem dX0_putUnderSuspicion_4 : decode cX0_putUnderSuspicion 4 = .ok (.iload_n 1, 1) := by decide +kernel
theorem dX0_putUnderSuspicion_5 : decode cX0_putUnderSuspicion 5 = .ok (.aload_n 0, 1) := by decide +kernel
theorem dX0_putUnderSuspicion_6 : decode cX0_putUnderSuspicion 6 = .ok (.getfield 9, 3) := by decide +kernel
theorem dX0_putUnderSuspicion_9 : decode cX0_putUnderSuspicion 9 = .ok (.if_icmp .lt 4, 3) := by decide +kernel
theorem dX0_putUnderSuspicion_12 : decode cX0_putUnderSuspicion 12 = .ok (.return_, 1) := by decide +kernel
theorem dX0_putUnderSuspicion_13 : decode cX0_putUnderSuspicion 13 = .ok (.aload_n 0, 1) := by decide +kernel
theorem dX0_putUnderSuspicion_14 : decode cX0_putUnderSuspicion 14 = .ok (.getfield 31, 3) := by decide +kernel
theorem dX0_putUnderSuspicion_17 : decode cX0_putUnderSuspicion 17 = .ok (.iload_n 1, 1) := by decide +kernel
theorem dX0_putUnderSuspicion_18 : decode cX0_putUnderSuspicion 18 = .ok (.iconst 1, 1) := by decide +kernel
theorem dX0_putUnderSuspicion_19 : decode cX0_putUnderSuspicion 19 = .ok (.iastore, 1) := by decide +kernel
theorem dX0_putUnderSuspicion_20 : decode cX0_putUnderSuspicion 20 = .ok (.aload_n 0, 1) := by decide +kernel
theorem dX0_putUnderSuspicion_21 : decode cX0_putUnderSuspicion 21 = .ok (.getfield 34, 3) := by decide +kernel
theorem dX0_putUnderSuspicion_24 : decode cX0_putUnderSuspicion 24 = .ok (.iload_n 1, 1) := by decide +kernel
theorem dX0_putUnderSuspicion_25 : decode cX0_putUnderSuspicion 25 = .ok (.iconst 0, 1) := by decide +kernel
theorem dX0_putUnderSuspicion_26 : decode cX0_putUnderSuspicion 26 = .ok (.iastore, 1) := by decide +kernel
theorem dX0_putUnderSuspicion_27 : decode cX0_putUnderSuspicion 27 = .ok (.aload_n 0, 1) := by decide +kernel
theorem dX0_putUnderSuspicion_28 : decode cX0_putUnderSuspicion 28 = .ok (.getfield 37, 3) := by decide +kernel
theorem dX0_putUnderSuspicion_31 : decode cX0_putUnderSuspicion 31 = .ok (.iload_n 1, 1) := by decide +kernel
theorem dX0_putUnderSuspicion_32 : decode cX0_putUnderSuspicion 32 = .ok (.iconst 0, 1) := by decide +kernel
theorem dX0_putUnderSuspicion_33 : decode cX0_putUnderSuspicion 33 = .ok (.iastore, 1) := by decide +kernel
theorem dX0_putUnderSuspicion_34 : decode cX0_putUnderSuspicion 34 = .ok (.aload_n 0, 1) := by decide +kernel
theorem dX0_putUnderSuspicion_35 : decode cX0_putUnderSuspicion 35 = .ok (.getfield 40, 3) := by decide +kernel
theorem dX0_putUnderSuspicion_38 : decode cX0_putUnderSuspicion 38 = .ok (.iload_n 1, 1) := by decide +kernel
theorem dX0_putUnderSuspicion_39 : decode cX0_putUnderSuspicion 39 = .ok (.iconst (-1), 1) := by decide +kernel
theorem dX0_putUnderSuspicion_40 : decode cX0_putUnderSuspicion 40 = .ok (.iastore, 1) := by decide +kernel
theorem dX0_putUnderSuspicion_41 : decode cX0_putUnderSuspicion 41 = .ok (.return_, 1) := by decide +kernel
theorem dX1_init_0 : decode cX1_init 0 = .ok (.aload_n 0, 1) := by decide +kernel
theorem dX1_init_1 : decode cX1_init 1 = .ok (.invokespecial 3, 3) := by decide +kernel
theorem dX1_init_4 : decode cX1_init 4 = .ok (.aload_n 0, 1) := by decide +kernel
theorem dX1_init_5 : decode cX1_init 5 = .ok (.bipush 24, 2) := by decide +kernel
theorem dX1_init_7 : decode cX1_init 7 = .ok (.newarray .int, 2) := by decide +kernel
theorem dX1_init_9 : decode cX1_init 9 = .ok (.putfield 9, 3) := by decide +kernel
theorem dX1_init_12 : decode cX1_init 12 = .ok (.aload_n 0, 1) := by decide +kernel
theorem dX1_init_13 : decode cX1_init 13 = .ok (.bipush 24, 2) := by decide +kernel
theorem dX1_init_15 : decode cX1_init 15 = .ok (.newarray .int, 2) := by decide +kernel
theorem dX1_init_17 : decode cX1_init 17 = .ok (.putfield 15, 3) := by decide +kernel
theorem dX1_init_20 : decode cX1_init 20 = .ok (.aload_n 0, 1) := by decide +kernel
theorem dX1_init_21 : decode cX1_init 21 = .ok (.bipush 24, 2) := by decide +kernel
theorem dX1_init_23 : decode cX1_init 23 = .ok (.newarray .int, 2) := by decide +kernel
theorem dX1_init_25 : decode cX1_init 25 = .ok (.putfield 18, 3) := by decide +kernel
theorem dX1_init_28 : decode cX1_init 28 = .ok (.aload_n 0, 1) := by decide +kernel
theorem dX1_init_29 : decode cX1_init 29 = .ok (.bipush 24, 2) := by decide +kernel
theorem dX1_init_31 : decode cX1_init 31 = .ok (.newarray .int, 2) := by decide +kernel
theorem dX1_init_33 : decode cX1_init 33 = .ok (.putfield 21, 3) := by decide +kernel
theorem dX1_init_36 : decode cX1_init 36 = .ok (.aload_n 0, 1) := by decide +kernel
theorem dX1_init_37 : decode cX1_init 37 = .ok (.bipush 24, 2) := by decide +kernel
theorem dX1_init_39 : decode cX1_init 39 = .ok (.newarray .int, 2) := by decide +kernel
theorem dX1_init_41 : decode cX1_init 41 = .ok (.putfield 24, 3) := by decide +kernel
theorem dX1_init_44 : decode cX1_init 44 = .ok (.aload_n 0, 1) := by decide +kernel
theorem dX1_init_45 : decode cX1_init 45 = .ok (.bipush 24, 2) := by decide +kernel
theorem dX1_init_47 : decode cX1_init 47 = .ok (.newarray .int, 2) := by decide +kernel
theorem dX1_init_49 : decode cX1_init 49 = .ok (.putfield 27, 3) := by decide +kernel
theorem dX1_init_52 : decode cX1_init 52 = .ok (.aload_n 0, 1) := by decide +kernel
theorem dX1_init_53 : decode cX1_init 53 = .ok (.bipush 24, 2) := by decide +kernel
theorem dX1_init_55 : decode cX1_init 55 = .ok (.newarray .int, 2) := by decide +kernel
theorem dX1_init_57 : decode cX1_init 57 = .ok (.putfield 30, 3) := by decide +kernel
theorem dX1_init_60 : decode cX1_init 60 = .ok (.aload_n 0, 1) := by decide +kernel
theorem dX1_init_61 : decode cX1_init 61 = .ok (.bipush 24, 2) := by decide +kernel
theorem dX1_init_63 : decode cX1_init 63 = .ok (.newarray .int, 2) := by decide +kernel
theorem dX1_init_65 : decode cX1_init 65 = .ok (.putfield 33, 3) := by decide +kernel
theorem dX1_init_68 : decode cX1_init 68 = .ok (.aload_n 0, 1) := by decide +kernel
theorem dX1_init_69 : decode cX1_init 69 = .ok (.sipush 240, 3) := by decide +kernel
theorem dX1_init_72 : decode cX1_init 72 = .ok (.newarray .int, 2) := by decide +kernel
theorem dX1_init_74 : decode cX1_init 74 = .ok (.putfield 36, 3) := by decide +kernel
theorem dX1_init_77 : decode cX1_init 77 = .ok (.return_, 1) := by decide +kernel
theorem dX1_copyFrom_0 : decode cX1_copyFrom 0 = .ok (.aload_n 1, 1) := by decide +kernel
theorem dX1_copyFrom_1 : decode cX1_copyFrom 1 = .ok (.getfield 9, 3) := by decide +kernel
theorem dX1_copyFrom_4 : decode cX1_copyFrom 4 = .ok (.iconst 0, 1) := by decide +kernel
theorem dX1_copyFrom_5 : decode cX1_copyFrom 5 = .ok (.aload_n 0, 1) := by decide +kernel
theorem dX1_copyFrom_6 : decode cX1_copyFrom 6 = .ok (.getfield 9, 3) := by decide +kernel
theorem dX1_copyFrom_9 : decode cX1_copyFrom 9 = .ok (.iconst 0, 1) := by decide +kernel
theorem dX1_copyFrom_10 : decode cX1_copyFrom 10 = .ok (.bipush 24, 2) := by decide +kernel
theorem dX1_copyFrom_12 : decode cX1_copyFrom 12 = .ok (.invokestatic 39, 3) := by decide +kernel
theorem dX1_copyFrom_15 : decode cX1_copyFrom 15 = .ok (.aload_n 1, 1) := by decide +kernel
theorem dX1_copyFrom_16 : decode cX1_copyFrom 16 = .ok (.getfield 15, 3) := by decide +kernel
theorem dX1_copyFrom_19 : decode cX1_copyFrom 19 = .ok (.iconst 0, 1) := by decide +kernel
theorem dX1_copyFrom_20 : decode cX1_copyFrom 20 = .ok (.aload_n 0, 1) := by decide +kernel
theorem dX1_copyFrom_21 : decode cX1_copyFrom 21 = .ok (.getfield 15, 3) := by decide +kernel
theorem dX1_copyFrom_24 : decode cX1_copyFrom 24 = .ok (.iconst 0, 1) := by decide +kernel
theorem dX1_copyFrom_25 : decode cX1_copyFrom 25 = .ok (.bipush 24, 2) := by decide +kernel
theorem dX1_copyFrom_27 : decode cX1_copyFrom 27 = .ok (.invokestatic 39, 3) := by decide +kernel
theorem dX1_copyFrom_30 : decode cX1_copyFrom 30 = .ok (.aload_n 1, 1) := by decide +kernel
theorem dX1_copyFrom_31 : decode cX1_copyFrom 31 = .ok (.getfield 18, 3) := by decide +kernel
theorem dX1_copyFrom_34 : decode cX1_copyFrom 34 = .ok (.iconst 0, 1) := by decide +kernel
theorem dX1_copyFrom_35 : decode cX1_copyFrom 35 = .ok (.aload_n 0, 1) := by decide +kernel
theorem dX1_copyFrom_36 : decode cX1_copyFrom 36 = .ok (.getfield 18, 3) := by decide +kernel
theorem dX1_copyFrom_39 : decode cX1_copyFrom 39 = .ok (.iconst 0, 1) := by decide +kernel
theorem dX1_copyFrom_40 : decode cX1_copyFrom 40 = .ok (.bipush 24, 2) := by decide +kernel
theorem dX1_copyFrom_42 : decode cX1_copyFrom 42 = .ok (.invokestatic 39, 3) := by decide +kernel
theorem dX1_copyFrom_45 : decode cX1_copyFrom 45 = .ok (.aload_n 1, 1) := by decide +kernel
theorem dX1_copyFrom_46 : decode cX1_copyFrom 46 = .ok (.getfield 21, 3) := by decide +kernel
theorem dX1_copyFrom_49 : decode cX1_copyFrom 49 = .ok (.iconst 0, 1) := by decide +kernel
theorem dX1_copyFrom_50 : decode cX1_copyFrom 50 = .ok (.aload_n 0, 1) := by decide +kernel
theorem dX1_copyFrom_51 : decode cX1_copyFrom 51 = .ok (.getfield 21, 3) := by decide +kernel
theorem dX1_copyFrom_54 : decode cX1_copyFrom 54 = .ok (.iconst 0, 1) := by decide +kernel
theorem dX1_copyFrom_55 : decode cX1_copyFrom 55 = .ok (.bipush 24, 2) := by decide +kernel
theorem dX1_copyFrom_57 : decode cX1_copyFrom 57 = .ok (.invokestatic 39, 3) := by decide +kernel
theorem dX1_copyFrom_60 : decode cX1_copyFrom 60 = .ok (.aload_n 1, 1) := by decide +kernel
theorem dX1_copyFrom_61 : decode cX1_copyFrom 61 = .ok (.getfield 24, 3) := by decide +kernel
theorem dX1_copyFrom_64 : decode cX1_copyFrom 64 = .ok (.iconst 0, 1) := by decide +kernel
theorem dX1_copyFrom_65 : decode cX1_copyFrom 65 = .ok (.aload_n 0, 1) := by decide +kernel
theorem dX1_copyFrom_66 : decode cX1_copyFrom 66 = .ok (.getfield 24, 3) := by decide +kernel
theorem dX1_copyFrom_69 : decode cX1_copyFrom 69 = .ok (.iconst 0, 1) := by decide +kernel
theorem dX1_copyFrom_70 : decode cX1_copyFrom 70 = .ok (.bipush 24, 2) := by decide +kernel
theorem dX1_copyFrom_72 : decode cX1_copyFrom 72 = .ok (.invokestatic 39, 3) := by decide +kernel
theorem dX1_copyFrom_75 : decode cX1_copyFrom 75 = .ok (.aload_n 1, 1) := by decide +kernel
theorem dX1_copyFrom_76 : decode cX1_copyFrom 76 = .ok (.getfield 27, 3) := by decide +kernel
theorem dX1_copyFrom_79 : decode cX1_copyFrom 79 = .ok (.iconst 0, 1) := by decide +kernel
theorem dX1_copyFrom_80 : decode cX1_copyFrom 80 = .ok (.aload_n 0, 1) := by decide +kernel
theorem dX1_copyFrom_81 : decode cX1_copyFrom 81 = .ok (.getfield 27, 3) := by decide +kernel
theorem dX1_copyFrom_84 : decode cX1_copyFrom 84 = .ok (.iconst 0, 1) := by decide +kernel
theorem dX1_copyFrom_85 : decode cX1_copyFrom 85 = .ok (.bipush 24, 2) := by decide +kernel
theorem dX1_copyFrom_87 : decode cX1_copyFrom 87 = .ok (.invokestatic 39, 3) := by decide +kernel
theorem dX1_copyFrom_90 : decode cX1_copyFrom 90 = .ok (.aload_n 1, 1) := by decide +kernel
theorem dX1_copyFrom_91 : decode cX1_copyFrom 91 = .ok (.getfield 30, 3) := by decide +kernel
theorem dX1_copyFrom_94 : decode cX1_copyFrom 94 = .ok (.iconst 0, 1) := by decide +kernel
theorem dX1_copyFrom_95 : decode cX1_copyFrom 95 = .ok (.aload_n 0, 1) := by decide +kernel
theorem dX1_copyFrom_96 : decode cX1_copyFrom 96 = .ok (.getfield 30, 3) := by decide +kernel
theorem dX1_copyFrom_99 : decode cX1_copyFrom 99 = .ok (.iconst 0, 1) := by decide +kernel
theorem dX1_copyFrom_100 : decode cX1_copyFrom 100 = .ok (.bipush 24, 2) := by decide +kernel
theorem dX1_copyFrom_102 : decode cX1_copyFrom 102 = .ok (.invokestatic 39, 3) := by decide +kernel
theorem dX1_copyFrom_105 : decode cX1_copyFrom 105 = .ok (.aload_n 1, 1) := by decide +kernel
theorem dX1_copyFrom_106 : decode cX1_copyFrom 106 = .ok (.getfield 33, 3) := by decide +kernel
theorem dX1_copyFrom_109 : decode cX1_copyFrom 109 = .ok (.iconst 0, 1) := by decide +kernel
theorem dX1_copyFrom_110 : decode cX1_copyFrom 110 = .ok (.aload_n 0, 1) := by decide +kernel
theorem dX1_copyFrom_111 : decode cX1_copyFrom 111 = .ok (.getfield 33, 3) := by decide +kernel
theorem dX1_copyFrom_114 : decode cX1_copyFrom 114 = .ok (.iconst 0, 1) := by decide +kernel
theorem dX1_copyFrom_115 : decode cX1_copyFrom 115 = .ok (.bipush 24, 2) := by decide +kernel
theorem dX1_copyFrom_117 : decode cX1_copyFrom 117 = .ok (.invokestatic 39, 3) := by decide +kernel
theorem dX1_copyFrom_120 : decode cX1_copyFrom 120 = .ok (.aload_n 1, 1) := by decide +kernel
theorem dX1_copyFrom_121 : decode cX1_copyFrom 121 = .ok (.getfield 36, 3) := by decide +kernel
theorem dX1_copyFrom_124 : decode cX1_copyFrom 124 = .ok (.iconst 0, 1) := by decide +kernel
theorem dX1_copyFrom_125 : decode cX1_copyFrom 125 = .ok (.aload_n 0, 1) := by decide +kernel
theorem dX1_copyFrom_126 : decode cX1_copyFrom 126 = .ok (.getfield 36, 3) := by decide +kernel
theorem dX1_copyFrom_129 : decode cX1_copyFrom 129 = .ok (.iconst 0, 1) := by decide +kernel
theorem dX1_copyFrom_130 : decode cX1_copyFrom 130 = .ok (.sipush 240, 3) := by decide +kernel
theorem dX1_copyFrom_133 : decode cX1_copyFrom 133 = .ok (.invokestatic 39, 3) := by decide +kernel
theorem dX1_copyFrom_136 : decode cX1_copyFrom 136 = .ok (.return_, 1) := by decide +kernel
theorem dX2_init_0 : decode cX2_init 0 = .ok (.aload_n 0, 1) := by decide +kernel
theorem dX2_init_1 : decode cX2_init 1 = .ok (.invokespecial 3, 3) := by decide +kernel
theorem dX2_init_4 : decode cX2_init 4 = .ok (.aload_n 0, 1) := by decide +kernel
theorem dX2_init_5 : decode cX2_init 5 = .ok (.sipush 500, 3) := by decide +kernel
theorem dX2_init_8 : decode cX2_init 8 = .ok (.newarray .int, 2) := by decide +kernel
theorem dX2_init_10 : decode cX2_init 10 = .ok (.putfield 9, 3) := by decide +kernel
theorem dX2_init_13 : decode cX2_init 13 = .ok (.aload_n 0, 1) := by decide +kernel
theorem dX2_init_14 : decode cX2_init 14 = .ok (.iconst 0, 1) := by decide +kernel
theorem dX2_init_15 : decode cX2_init 15 = .ok (.putfield 15, 3) := by decide +kernel
theorem dX2_init_18 : decode cX2_init 18 = .ok (.aload_n 0, 1) := by decide +kernel
theorem dX2_init_19 : decode cX2_init 19 = .ok (.sipush 501, 3) := by decide +kernel
theorem dX2_init_22 : decode cX2_init 22 = .ok (.newarray .int, 2) := by decide +kernel
theorem dX2_init_24 : decode cX2_init 24 = .ok (.putfield 19, 3) := by decide +kernel
theorem dX2_init_27 : decode cX2_init 27 = .ok (.aload_n 0, 1) := by decide +kernel
theorem dX2_init_28 : decode cX2_init 28 = .ok (.sipush 501, 3) := by decide +kernel
theorem dX2_init_31 : decode cX2_init 31 = .ok (.newarray .int, 2) := by decide +kernel
theorem dX2_init_33 : decode cX2_init 33 = .ok (.putfield 22, 3) := by decide +kernel
theorem dX2_init_36 : decode cX2_init 36 = .ok (.aload_n 0, 1) := by decide +kernel
theorem dX2_init_37 : decode cX2_init 37 = .ok (.sipush 501, 3) := by decide +kernel
theorem dX2_init_40 : decode cX2_init 40 = .ok (.newarray .int, 2) := by decide +kernel
theorem dX2_init_42 : decode cX2_init 42 = .ok (.putfield 25, 3) := by decide +kernel
theorem dX2_init_45 : decode cX2_init 45 = .ok (.aload_n 0, 1) := by decide +kernel
theorem dX2_init_46 : decode cX2_init 46 = .ok (.iconst 0, 1) := by decide +kernel
theorem dX2_init_47 : decode cX2_init 47 = .ok (.putfield 28, 3) := by decide +kernel
theorem dX2_init_50 : decode cX2_init 50 = .ok (.aload_n 0, 1) := by decide +kernel
theorem dX2_init_51 : decode cX2_init 51 = .ok (.iconst 0, 1) := by decide +kernel
theorem dX2_init_52 : decode cX2_init 52 = .ok (.putfield 31, 3) := by decide +kernel
theorem dX2_init_55 : decode cX2_init 55 = .ok (.aload_n 0, 1) := by decide +kernel
theorem dX2_init_56 : decode cX2_init 56 = .ok (.iconst (-1), 1) := by decide +kernel
theorem dX2_init_57 : decode cX2_init 57 = .ok (.putfield 34, 3) := by decide +kernel
theorem dX2_init_60 : decode cX2_init 60 = .ok (.return_, 1) := by decide +kernel
theorem dX2_addBytes_0 : decode cX2_addBytes 0 = .ok (.bipush 24, 2) := by decide +kernel
theorem dX2_addBytes_2 : decode cX2_addBytes 2 = .ok (.istore_n 2, 1) := by decide +kernel
theorem dX2_addBytes_3 : decode cX2_addBytes 3 = .ok (.iload_n 2, 1) := by decide +kernel
theorem dX2_addBytes_4 : decode cX2_addBytes 4 = .ok (.ifCond .lt 51, 3) := by decide +kernel
theorem dX2_addBytes_7 : decode cX2_addBytes 7 = .ok (.iload_n 1, 1) := by decide +kernel
theorem dX2_addBytes_8 : decode cX2_addBytes 8 = .ok (.iload_n 2, 1) := by decide +kernel
theorem dX2_addBytes_9 : decode cX2_addBytes 9 = .ok (.ishr, 1) := by decide +kernel
theorem dX2_addBytes_10 : decode cX2_addBytes 10 = .ok (.sipush 255, 3) := by decide +kernel
theorem dX2_addBytes_13 : decode cX2_addBytes 13 = .ok (.iand, 1) := by decide +kernel
theorem dX2_addBytes_14 : decode cX2_addBytes 14 = .ok (.istore_n 3, 1) := by decide +kernel
theorem dX2_addBytes_15 : decode cX2_addBytes 15 = .ok (.iload_n 3, 1) := by decide +kernel
theorem dX2_addBytes_16 : decode cX2_addBytes 16 = .ok (.ifCond .eq 33, 3) := by decide +kernel
theorem dX2_addBytes_19 : decode cX2_addBytes 19 = .ok (.aload_n 0, 1) := by decide +kernel
theorem dX2_addBytes_20 : decode cX2_addBytes 20 = .ok (.getfield 15, 3) := by decide +kernel
theorem dX2_addBytes_23 : decode cX2_addBytes 23 = .ok (.sipush 500, 3) := by decide +kernel
theorem dX2_addBytes_26 : decode cX2_addBytes 26 = .ok (.if_icmp .ge 23, 3) := by decide +kernel
theorem dX2_addBytes_29 : decode cX2_addBytes 29 = .ok (.aload_n 0, 1) := by decide +kernel
theorem dX2_addBytes_30 : decode cX2_addBytes 30 = .ok (.getfield 9, 3) := by decide +kernel
theorem dX2_addBytes_33 : decode cX2_addBytes 33 = .ok (.aload_n 0, 1) := by decide +kernel
theorem dX2_addBytes_34 : decode cX2_addBytes 34 = .ok (.getfield 15, 3) := by decide +kernel
theorem dX2_addBytes_37 : decode cX2_addBytes 37 = .ok (.iload_n 3, 1) := by decide +kernel
theorem dX2_addBytes_38 : decode cX2_addBytes 38 = .ok (.iastore, 1) := by decide +kernel
theorem dX2_addBytes_39 : decode cX2_addBytes 39 = .ok (.aload_n 0, 1) := by decide +kernel
theorem dX2_addBytes_40 : decode cX2_addBytes 40 = .ok (.dup, 1) := by decide +kernel
theorem dX2_addBytes_41 : decode cX2_addBytes 41 = .ok (.getfield 15, 3) := by decide +kernel
theorem dX2_addBytes_44 : decode cX2_addBytes 44 = .ok (.iconst 1, 1) := by decide +kernel
theorem dX2_addBytes_45 : decode cX2_addBytes 45 = .ok (.iadd, 1) := by decide +kernel
theorem dX2_addBytes_46 : decode cX2_addBytes 46 = .ok (.putfield 15, 3) := by decide +kernel
theorem dX2_addBytes_49 : decode cX2_addBytes 49 = .ok (.iinc 2 (-8), 3) := by decide +kernel
theorem dX2_addBytes_52 : decode cX2_addBytes 52 = .ok (.goto (-49), 3) := by decide +kernel
theorem dX2_addBytes_55 : decode cX2_addBytes 55 = .ok (.return_, 1) := by decide +kernel
theorem dX2_scan_0 : decode cX2_scan 0 = .ok (.iconst 0, 1) := by decide +kernel
theorem dX2_scan_1 : decode cX2_scan 1 = .ok (.istore_n 1, 1) := by decide +kernel
theorem dX2_scan_2 : decode cX2_scan 2 = .ok (.iconst 5, 1) := by decide +kernel
theorem dX2_scan_3 : decode cX2_scan 3 = .ok (.istore_n 2, 1) := by decide +kernel
theorem dX2_scan_4 : decode cX2_scan 4 = .ok (.iconst 0, 1) := by decide +kernel
theorem dX2_scan_5 : decode cX2_scan 5 = .ok (.istore_n 3, 1) := by decide +kernel
theorem dX2_scan_6 : decode cX2_scan 6 = .ok (.iload_n 3, 1) := by decide +kernel
theorem dX2_scan_7 : decode cX2_scan 7 = .ok (.aload_n 0, 1) := by decide +kernel
theorem dX2_scan_8 : decode cX2_scan 8 = .ok (.getfield 15, 3) := by decide +kernel
theorem dX2_scan_11 : decode cX2_scan 11 = .ok (.if_icmp .ge 140, 3) := by decide +kernel
theorem dX2_scan_14 : decode cX2_scan 14 = .ok (.aload_n 0, 1) := by decide +kernel
theorem dX2_scan_15 : decode cX2_scan 15 = .ok (.iload_n 3, 1) := by decide +kernel
theorem dX2_scan_16 : decode cX2_scan 16 = .ok (.invokevirtual 37, 3) := by decide +kernel
theorem dX2_scan_19 : decode cX2_scan 19 = .ok (.istore 4, 2) := by decide +kernel
theorem dX2_scan_21 : decode cX2_scan 21 = .ok (.iload 4, 2) := by decide +kernel
theorem dX2_scan_23 : decode cX2_scan 23 = .ok (.iload_n 2, 1) := by decide +kernel
theorem dX2_scan_24 : decode cX2_scan 24 = .ok (.if_icmp .ne 20, 3) := by decide +kernel
theorem dX2_scan_27 : decode cX2_scan 27 = .ok (.iload 4, 2) := by decide +kernel
theorem dX2_scan_29 : decode cX2_scan 29 = .ok (.bipush 6, 2) := by decide +kernel
theorem dX2_scan_31 : decode cX2_scan 31 = .ok (.if_icmp .eq 9, 3) := by decide +kernel
theorem dX2_scan_34 : decode cX2_scan 34 = .ok (.iload 4, 2) := by decide +kernel
theorem dX2_scan_36 : decode cX2_scan 36 = .ok (.iconst 1, 1) := by decide +kernel
theorem dX2_scan_37 : decode cX2_scan 37 = .ok (.if_icmp .ne 7, 3) := by decide +kernel
theorem dX2_scan_40 : decode cX2_scan 40 = .ok (.iconst 1, 1) := by decide +kernel
theorem dX2_scan_41 : decode cX2_scan 41 = .ok (.goto 4, 3) := by decide +kernel
theorem dX2_scan_44 : decode cX2_scan 44 = .ok (.iconst 0, 1) := by decide +kernel
theorem dX2_scan_45 : decode cX2_scan 45 = .ok (.istore 5, 2) := by decide +kernel
theorem dX2_scan_47 : decode cX2_scan 47 = .ok (.iload 4, 2) := by decide +kernel
theorem dX2_scan_49 : decode cX2_scan 49 = .ok (.iconst 5, 1) := by decide +kernel
theorem dX2_scan_50 : decode cX2_scan 50 = .ok (.if_icmp .eq 48, 3) := by decide +kernel
theorem dX2_scan_53 : decode cX2_scan 53 = .ok (.iload 5, 2) := by decide +kernel
theorem dX2_scan_55 : decode cX2_scan 55 = .ok (.ifCond .ne 43, 3) := by decide +kernel
theorem dX2_scan_58 : decode cX2_scan 58 = .ok (.aload_n 0, 1) := by decide +kernel
theorem dX2_scan_59 : decode cX2_scan 59 = .ok (.getfield 19, 3) := by decide +kernel
theorem dX2_scan_62 : decode cX2_scan 62 = .ok (.iload_n 1, 1) := by decide +kernel
theorem dX2_scan_63 : decode cX2_scan 63 = .ok (.iload 4, 2) := by decide +kernel
theorem dX2_scan_65 : decode cX2_scan 65 = .ok (.bipush 6, 2) := by decide +kernel
theorem dX2_scan_67 : decode cX2_scan 67 = .ok (.if_icmp .ne 11, 3) := by decide +kernel
theorem dX2_scan_70 : decode cX2_scan 70 = .ok (.aload_n 0, 1) := by decide +kernel
theorem dX2_scan_71 : decode cX2_scan 71 = .ok (.iload_n 3, 1) := by decide +kernel
theorem dX2_scan_72 : decode cX2_scan 72 = .ok (.invokevirtual 41, 3) := by decide +kernel
theorem dX2_scan_75 : decode cX2_scan 75 = .ok (.goto 5, 3) := by decide +kernel
theorem dX2_scan_78 : decode cX2_scan 78 = .ok (.iload 4, 2) := by decide +kernel
theorem dX2_scan_80 : decode cX2_scan 80 = .ok (.iastore, 1) := by decide +kernel
theorem dX2_scan_81 : decode cX2_scan 81 = .ok (.aload_n 0, 1) := by decide +kernel
theorem dX2_scan_82 : decode cX2_scan 82 = .ok (.getfield 22, 3) := by decide +kernel
theorem dX2_scan_85 : decode cX2_scan 85 = .ok (.iload_n 1, 1) := by decide +kernel
theorem dX2_scan_86 : decode cX2_scan 86 = .ok (.iload_n 3, 1) := by decide +kernel
theorem dX2_scan_87 : decode cX2_scan 87 = .ok (.iastore, 1) := by decide +kernel
theorem dX2_scan_88 : decode cX2_scan 88 = .ok (.aload_n 0, 1) := by decide +kernel
theorem dX2_scan_89 : decode cX2_scan 89 = .ok (.getfield 25, 3) := by decide +kernel
theorem dX2_scan_92 : decode cX2_scan 92 = .ok (.iload_n 1, 1) := by decide +kernel
theorem dX2_scan_93 : decode cX2_scan 93 = .ok (.iconst 0, 1) := by decide +kernel
theorem dX2_scan_94 : decode cX2_scan 94 = .ok (.iastore, 1) := by decide +kernel
theorem dX2_scan_95 : decode cX2_scan 95 = .ok (.iinc 1 1, 3) := by decide +kernel
theorem dX2_scan_98 : decode cX2_scan 98 = .ok (.iload 4, 2) := by decide +kernel
theorem dX2_scan_100 : decode cX2_scan 100 = .ok (.iconst 1, 1) := by decide +kernel
theorem dX2_scan_101 : decode cX2_scan 101 = .ok (.if_icmp .ne 41, 3) := by decide +kernel
theorem dX2_scan_104 : decode cX2_scan 104 = .ok (.iload_n 1, 1) := by decide +kernel
theorem dX2_scan_105 : decode cX2_scan 105 = .ok (.ifCond .le 37, 3) := by decide +kernel
theorem dX2_scan_108 : decode cX2_scan 108 = .ok (.aload_n 0, 1) := by decide +kernel
theorem dX2_scan_109 : decode cX2_scan 109 = .ok (.getfield 25, 3) := by decide +kernel
theorem dX2_scan_112 : decode cX2_scan 112 = .ok (.iload_n 1, 1) := by decide +kernel
theorem dX2_scan_113 : decode cX2_scan 113 = .ok (.iconst 1, 1) := by decide +kernel
theorem dX2_scan_114 : decode cX2_scan 114 = .ok (.isub, 1) := by decide +kernel
theorem dX2_scan_115 : decode cX2_scan 115 = .ok (.ldc 44, 2) := by decide +kernel
theorem dX2_scan_117 : decode cX2_scan 117 = .ok (.aload_n 0, 1) := by decide +kernel
theorem dX2_scan_118 : decode cX2_scan 118 = .ok (.getfield 25, 3) := by decide +kernel
theorem dX2_scan_121 : decode cX2_scan 121 = .ok (.iload_n 1, 1) := by decide +kernel
theorem dX2_scan_122 : decode cX2_scan 122 = .ok (.iconst 1, 1) := by decide +kernel
theorem dX2_scan_123 : decode cX2_scan 123 = .ok (.isub, 1) := by decide +kernel
theorem dX2_scan_124 : decode cX2_scan 124 = .ok (.iaload, 1) := by decide +kernel
theorem dX2_scan_125 : decode cX2_scan 125 = .ok (.bipush 10, 2) := by decide +kernel
theorem dX2_scan_127 : decode cX2_scan 127 = .ok (.imul, 1) := by decide +kernel
theorem dX2_scan_128 : decode cX2_scan 128 = .ok (.aload_n 0, 1) := by decide +kernel
theorem dX2_scan_129 : decode cX2_scan 129 = .ok (.getfield 9, 3) := by decide +kernel
theorem dX2_scan_132 : decode cX2_scan 132 = .ok (.iload_n 3, 1) := by decide +kernel
theorem dX2_scan_133 : decode cX2_scan 133 = .ok (.iaload, 1) := by decide +kernel
theorem dX2_scan_134 : decode cX2_scan 134 = .ok (.iadd, 1) := by decide +kernel
theorem dX2_scan_135 : decode cX2_scan 135 = .ok (.bipush 48, 2) := by decide +kernel
theorem dX2_scan_137 : decode cX2_scan 137 = .ok (.isub, 1) := by decide +kernel
theorem dX2_scan_138 : decode cX2_scan 138 = .ok (.invokestatic 45, 3) := by decide +kernel
theorem dX2_scan_141 : decode cX2_scan 141 = .ok (.iastore, 1) := by decide +kernel
theorem dX2_scan_142 : decode cX2_scan 142 = .ok (.iload 4, 2) := by decide +kernel
theorem dX2_scan_144 : decode cX2_scan 144 = .ok (.istore_n 2, 1) := by decide +kernel
theorem dX2_scan_145 : decode cX2_scan 145 = .ok (.iinc 3 1, 3) := by decide +kernel
theorem dX2_scan_148 : decode cX2_scan 148 = .ok (.goto (-142), 3) := by decide +kernel
theorem dX2_scan_151 : decode cX2_scan 151 = .ok (.aload_n 0, 1) := by decide +kernel
theorem dX2_scan_152 : decode cX2_scan 152 = .ok (.getfield 19, 3) := by decide +kernel
theorem dX2_scan_155 : decode cX2_scan 155 = .ok (.iload_n 1, 1) := by decide +kernel
theorem dX2_scan_156 : decode cX2_scan 156 = .ok (.iconst 0, 1) := by decide +kernel
theorem dX2_scan_157 : decode cX2_scan 157 = .ok (.iastore, 1) := by decide +kernel
theorem dX2_scan_158 : decode cX2_scan 158 = .ok (.aload_n 0, 1) := by decide +kernel
theorem dX2_scan_159 : decode cX2_scan 159 = .ok (.getfield 22, 3) := by decide +kernel
theorem dX2_scan_162 : decode cX2_scan 162 = .ok (.iload_n 1, 1) := by decide +kernel
theorem dX2_scan_163 : decode cX2_scan 163 = .ok (.aload_n 0, 1) := by decide +kernel
theorem dX2_scan_164 : decode cX2_scan 164 = .ok (.getfield 15, 3) := by decide +kernel
theorem dX2_scan_167 : decode cX2_scan 167 = .ok (.iastore, 1) := by decide +kernel
theorem dX2_scan_168 : decode cX2_scan 168 = .ok (.aload_n 0, 1) := by decide +kernel
theorem dX2_scan_169 : decode cX2_scan 169 = .ok (.iconst 0, 1) := by decide +kernel
theorem dX2_scan_170 : decode cX2_scan 170 = .ok (.putfield 28, 3) := by decide +kernel
theorem dX2_scan_173 : decode cX2_scan 173 = .ok (.aload_n 0, 1) := by decide +kernel
theorem dX2_scan_174 : decode cX2_scan 174 = .ok (.iconst 0, 1) := by decide +kernel
theorem dX2_scan_175 : decode cX2_scan 175 = .ok (.putfield 31, 3) := by decide +kernel
theorem dX2_scan_178 : decode cX2_scan 178 = .ok (.aload_n 0, 1) := by decide +kernel
theorem dX2_scan_179 : decode cX2_scan 179 = .ok (.iconst (-1), 1) := by decide +kernel
theorem dX2_scan_180 : decode cX2_scan 180 = .ok (.putfield 34, 3) := by decide +kernel
theorem dX2_scan_183 : decode cX2_scan 183 = .ok (.return_, 1) := by decide +kernel
theorem dX2_kindOfByte_0 : decode cX2_kindOfByte 0 = .ok (.iload_n 1, 1) := by decide +kernel
theorem dX2_kindOfByte_1 : decode cX2_kindOfByte 1 = .ok (.ifCond .lt 20, 3) := by decide +kernel
theorem dX2_kindOfByte_4 : decode cX2_kindOfByte 4 = .ok (.iload_n 1, 1) := by decide +kernel
theorem dX2_kindOfByte_5 : decode cX2_kindOfByte 5 = .ok (.aload_n 0, 1) := by decide +kernel
theorem dX2_kindOfByte_6 : decode cX2_kindOfByte 6 = .ok (.getfield 15, 3) := by decide +kernel
theorem dX2_kindOfByte_9 : decode cX2_kindOfByte 9 = .ok (.if_icmp .ge 12, 3) := by decide +kernel
theorem dX2_kindOfByte_12 : decode cX2_kindOfByte 12 = .ok (.aload_n 0, 1) := by decide +kernel
theorem dX2_kindOfByte_13 : decode cX2_kindOfByte 13 = .ok (.getfield 9, 3) := by decide +kernel
theorem dX2_kindOfByte_16 : decode cX2_kindOfByte 16 = .ok (.iload_n 1, 1) := by decide +kernel
theorem dX2_kindOfByte_17 : decode cX2_kindOfByte 17 = .ok (.iaload, 1) := by decide +kernel
theorem dX2_kindOfByte_18 : decode cX2_kindOfByte 18 = .ok (.goto 5, 3) := by decide +kernel
theorem dX2_kindOfByte_21 : decode cX2_kindOfByte 21 = .ok (.bipush 32, 2) := by decide +kernel
theorem dX2_kindOfByte_23 : decode cX2_kindOfByte 23 = .ok (.istore_n 2, 1) := by decide +kernel
theorem dX2_kindOfByte_24 : decode cX2_kindOfByte 24 = .ok (.iload_n 2, 1) := by decide +kernel
theorem dX2_kindOfByte_25 : decode cX2_kindOfByte 25 = .ok (.bipush 97, 2) := by decide +kernel
theorem dX2_kindOfByte_27 : decode cX2_kindOfByte 27 = .ok (.if_icmp .lt 12, 3) := by decide +kernel
theorem dX2_kindOfByte_30 : decode cX2_kindOfByte 30 = .ok (.iload_n 2, 1) := by decide +kernel
theorem dX2_kindOfByte_31 : decode cX2_kindOfByte 31 = .ok (.bipush 122, 2) := by decide +kernel
theorem dX2_kindOfByte_33 : decode cX2_kindOfByte 33 = .ok (.if_icmp .gt 6, 3) := by decide +kernel
theorem dX2_kindOfByte_36 : decode cX2_kindOfByte 36 = .ok (.bipush 6, 2) := by decide +kernel
theorem dX2_kindOfByte_38 : decode cX2_kindOfByte 38 = .ok (.ireturn, 1) := by decide +kernel
theorem dX2_kindOfByte_39 : decode cX2_kindOfByte 39 = .ok (.iload_n 2, 1) := by decide +kernel
theorem dX2_kindOfByte_40 : decode cX2_kindOfByte 40 = .ok (.bipush 48, 2) := by decide +kernel
theorem dX2_kindOfByte_42 : decode cX2_kindOfByte 42 = .ok (.if_icmp .lt 11, 3) := by decide +kernel
theorem dX2_kindOfByte_45 : decode cX2_kindOfByte 45 = .ok (.iload_n 2, 1) := by decide +kernel
theorem dX2_kindOfByte_46 : decode cX2_kindOfByte 46 = .ok (.bipush 57, 2) := by decide +kernel
theorem dX2_kindOfByte_48 : decode cX2_kindOfByte 48 = .ok (.if_icmp .gt 5, 3) := by decide +kernel
theorem dX2_kindOfByte_51 : decode cX2_kindOfByte 51 = .ok (.iconst 1, 1) := by decide +kernel
theorem dX2_kindOfByte_52 : decode cX2_kindOfByte 52 = .ok (.ireturn, 1) := by decide +kernel
theorem dX2_kindOfByte_53 : decode cX2_kindOfByte 53 = .ok (.iload_n 2, 1) := by decide +kernel
theorem dX2_kindOfByte_54 : decode cX2_kindOfByte 54 = .ok (.bipush 32, 2) := by decide +kernel
theorem dX2_kindOfByte_56 : decode cX2_kindOfByte 56 = .ok (.if_icmp .eq 9, 3) := by decide +kernel
theorem dX2_kindOfByte_59 : decode cX2_kindOfByte 59 = .ok (.iload_n 2, 1) := by decide +kernel
theorem dX2_kindOfByte_60 : decode cX2_kindOfByte 60 = .ok (.bipush 10, 2) := by decide +kernel
theorem dX2_kindOfByte_62 : decode cX2_kindOfByte 62 = .ok (.if_icmp .ne 5, 3) := by decide +kernel
theorem dX2_kindOfByte_65 : decode cX2_kindOfByte 65 = .ok (.iconst 5, 1) := by decide +kernel
theorem dX2_kindOfByte_66 : decode cX2_kindOfByte 66 = .ok (.ireturn, 1) := by decide +kernel
theorem dX2_kindOfByte_67 : decode cX2_kindOfByte 67 = .ok (.iload_n 2, 1) := by decide +kernel
theorem dX2_kindOfByte_68 : decode cX2_kindOfByte 68 = .ok (.bipush 45, 2) := by decide +kernel
theorem dX2_kindOfByte_70 : decode cX2_kindOfByte 70 = .ok (.if_icmp .ne 7, 3) := by decide +kernel
theorem dX2_kindOfByte_73 : decode cX2_kindOfByte 73 = .ok (.iconst 2, 1) := by decide +kernel
theorem dX2_kindOfByte_74 : decode cX2_kindOfByte 74 = .ok (.goto 14, 3) := by decide +kernel
theorem dX2_kindOfByte_77 : decode cX2_kindOfByte 77 = .ok (.iload_n 2, 1) := by decide +kernel
theorem dX2_kindOfByte_78 : decode cX2_kindOfByte 78 = .ok (.bipush 59, 2) := by decide +kernel
theorem dX2_kindOfByte_80 : decode cX2_kindOfByte 80 = .ok (.if_icmp .ne 7, 3) := by decide +kernel
theorem dX2_kindOfByte_83 : decode cX2_kindOfByte 83 = .ok (.iconst 3, 1) := by decide +kernel
theorem dX2_kindOfByte_84 : decode cX2_kindOfByte 84 = .ok (.goto 4, 3) := by decide +kernel
theorem dX2_kindOfByte_87 : decode cX2_kindOfByte 87 = .ok (.iconst 4, 1) := by decide +kernel
theorem dX2_kindOfByte_88 : decode cX2_kindOfByte 88 = .ok (.ireturn, 1) := by decide +kernel
theorem dX2_wordAt_0 : decode cX2_wordAt 0 = .ok (.aload_n 0, 1) := by decide +kernel
theorem dX2_wordAt_1 : decode cX2_wordAt 1 = .ok (.ldc 51, 2) := by decide +kernel
theorem dX2_wordAt_3 : decode cX2_wordAt 3 = .ok (.iload_n 1, 1) := by decide +kernel
theorem dX2_wordAt_4 : decode cX2_wordAt 4 = .ok (.invokevirtual 53, 3) := by decide +kernel
theorem dX2_wordAt_7 : decode cX2_wordAt 7 = .ok (.ifCond .eq 6, 3) := by decide +kernel
theorem dX2_wordAt_10 : decode cX2_wordAt 10 = .ok (.bipush 7, 2) := by decide +kernel
theorem dX2_wordAt_12 : decode cX2_wordAt 12 = .ok (.ireturn, 1) := by decide +kernel
theorem dX2_wordAt_13 : decode cX2_wordAt 13 = .ok (.aload_n 0, 1) := by decide +kernel
theorem dX2_wordAt_14 : decode cX2_wordAt 14 = .ok (.ldc 57, 2) := by decide +kernel
theorem dX2_wordAt_16 : decode cX2_wordAt 16 = .ok (.iload_n 1, 1) := by decide +kernel
theorem dX2_wordAt_17 : decode cX2_wordAt 17 = .ok (.invokevirtual 53, 3) := by decide +kernel
theorem dX2_wordAt_20 : decode cX2_wordAt 20 = .ok (.ifCond .eq 6, 3) := by decide +kernel
theorem dX2_wordAt_23 : decode cX2_wordAt 23 = .ok (.bipush 8, 2) := by decide +kernel
theorem dX2_wordAt_25 : decode cX2_wordAt 25 = .ok (.ireturn, 1) := by decide +kernel
theorem dX2_wordAt_26 : decode cX2_wordAt 26 = .ok (.aload_n 0, 1) := by decide +kernel
theorem dX2_wordAt_27 : decode cX2_wordAt 27 = .ok (.ldc 59, 2) := by decide +kernel
theorem dX2_wordAt_29 : decode cX2_wordAt 29 = .ok (.iload_n 1, 1) := by decide +kernel
theorem dX2_wordAt_30 : decode cX2_wordAt 30 = .ok (.invokevirtual 53, 3) := by decide +kernel
theorem dX2_wordAt_33 : decode cX2_wordAt 33 = .ok (.ifCond .eq 6, 3) := by decide +kernel
theorem dX2_wordAt_36 : decode cX2_wordAt 36 = .ok (.bipush 9, 2) := by decide +kernel
theorem dX2_wordAt_38 : decode cX2_wordAt 38 = .ok (.ireturn, 1) := by decide +kernel
theorem dX2_wordAt_39 : decode cX2_wordAt 39 = .ok (.aload_n 0, 1) := by decide +kernel
theorem dX2_wordAt_40 : decode cX2_wordAt 40 = .ok (.ldc 61, 2) := by decide +kernel
theorem dX2_wordAt_42 : decode cX2_wordAt 42 = .ok (.iload_n 1, 1) := by decide +kernel
theorem dX2_wordAt_43 : decode cX2_wordAt 43 = .ok (.invokevirtual 53, 3) := by decide +kernel
theorem dX2_wordAt_46 : decode cX2_wordAt 46 = .ok (.ifCond .eq 6, 3) := by decide +kernel
theorem dX2_wordAt_49 : decode cX2_wordAt 49 = .ok (.bipush 10, 2) := by decide +kernel
theorem dX2_wordAt_51 : decode cX2_wordAt 51 = .ok (.ireturn, 1) := by decide +kernel
theorem dX2_wordAt_52 : decode cX2_wordAt 52 = .ok (.aload_n 0, 1) := by decide +kernel
theorem dX2_wordAt_53 : decode cX2_wordAt 53 = .ok (.ldc 63, 2) := by decide +kernel
theorem dX2_wordAt_55 : decode cX2_wordAt 55 = .ok (.iload_n 1, 1) := by decide +kernel
theorem dX2_wordAt_56 : decode cX2_wordAt 56 = .ok (.invokevirtual 53, 3) := by decide +kernel
theorem dX2_wordAt_59 : decode cX2_wordAt 59 = .ok (.ifCond .eq 6, 3) := by decide +kernel
theorem dX2_wordAt_62 : decode cX2_wordAt 62 = .ok (.bipush 11, 2) := by decide +kernel
theorem dX2_wordAt_64 : decode cX2_wordAt 64 = .ok (.ireturn, 1) := by decide +kernel
theorem dX2_wordAt_65 : decode cX2_wordAt 65 = .ok (.aload_n 0, 1) := by decide +kernel
theorem dX2_wordAt_66 : decode cX2_wordAt 66 = .ok (.ldc 65, 2) := by decide +kernel
theorem dX2_wordAt_68 : decode cX2_wordAt 68 = .ok (.iload_n 1, 1) := by decide +kernel
theorem dX2_wordAt_69 : decode cX2_wordAt 69 = .ok (.invokevirtual 53, 3) := by decide +kernel
theorem dX2_wordAt_72 : decode cX2_wordAt 72 = .ok (.ifCond .eq 6, 3) := by decide +kernel
theorem dX2_wordAt_75 : decode cX2_wordAt 75 = .ok (.bipush 12, 2) := by decide +kernel
theorem dX2_wordAt_77 : decode cX2_wordAt 77 = .ok (.ireturn, 1) := by decide +kernel
theorem dX2_wordAt_78 : decode cX2_wordAt 78 = .ok (.aload_n 0, 1) := by decide +kernel
theorem dX2_wordAt_79 : decode cX2_wordAt 79 = .ok (.ldc 67, 2) := by decide +kernel
theorem dX2_wordAt_81 : decode cX2_wordAt 81 = .ok (.iload_n 1, 1) := by decide +kernel
theorem dX2_wordAt_82 : decode cX2_wordAt 82 = .ok (.invokevirtual 53, 3) := by decide +kernel
theorem dX2_wordAt_85 : decode cX2_wordAt 85 = .ok (.ifCond .eq 6, 3) := by decide +kernel
theorem dX2_wordAt_88 : decode cX2_wordAt 88 = .ok (.bipush 13, 2) := by decide +kernel
theorem dX2_wordAt_90 : decode cX2_wordAt 90 = .ok (.ireturn, 1) := by decide +kernel
theorem dX2_wordAt_91 : decode cX2_wordAt 91 = .ok (.aload_n 0, 1) := by decide +kernel
theorem dX2_wordAt_92 : decode cX2_wordAt 92 = .ok (.ldc 69, 2) := by decide +kernel
theorem dX2_wordAt_94 : decode cX2_wordAt 94 = .ok (.iload_n 1, 1) := by decide +kernel
theorem dX2_wordAt_95 : decode cX2_wordAt 95 = .ok (.invokevirtual 53, 3) := by decide +kernel
theorem dX2_wordAt_98 : decode cX2_wordAt 98 = .ok (.ifCond .eq 6, 3) := by decide +kernel
theorem dX2_wordAt_101 : decode cX2_wordAt 101 = .ok (.bipush 14, 2) := by decide +kernel
theorem dX2_wordAt_103 : decode cX2_wordAt 103 = .ok (.ireturn, 1) := by decide +kernel
theorem dX2_wordAt_104 : decode cX2_wordAt 104 = .ok (.aload_n 0, 1) := by decide +kernel
theorem dX2_wordAt_105 : decode cX2_wordAt 105 = .ok (.ldc 71, 2) := by decide +kernel
theorem dX2_wordAt_107 : decode cX2_wordAt 107 = .ok (.iload_n 1, 1) := by decide +kernel
theorem dX2_wordAt_108 : decode cX2_wordAt 108 = .ok (.invokevirtual 53, 3) := by decide +kernel
theorem dX2_wordAt_111 : decode cX2_wordAt 111 = .ok (.ifCond .eq 8, 3) := by decide +kernel
theorem dX2_wordAt_114 : decode cX2_wordAt 114 = .ok (.bipush 15, 2) := by decide +kernel
theorem dX2_wordAt_116 : decode cX2_wordAt 116 = .ok (.goto 4, 3) := by decide +kernel
theorem dX2_wordAt_119 : decode cX2_wordAt 119 = .ok (.iconst 4, 1) := by decide +kernel
theorem dX2_wordAt_120 : decode cX2_wordAt 120 = .ok (.ireturn, 1) := by decide +kernel
theorem dX2_spells_0 : decode cX2_spells 0 = .ok (.iload_n 2, 1) := by decide +kernel
theorem dX2_spells_1 : decode cX2_spells 1 = .ok (.aload_n 1, 1) := by decide +kernel
theorem dX2_spells_2 : decode cX2_spells 2 = .ok (.invokevirtual 73, 3) := by decide +kernel
theorem dX2_spells_5 : decode cX2_spells 5 = .ok (.iadd, 1) := by decide +kernel
theorem dX2_spells_6 : decode cX2_spells 6 = .ok (.istore_n 3, 1) := by decide +kernel
theorem dX2_spells_7 : decode cX2_spells 7 = .ok (.iload_n 3, 1) := by decide +kernel
theorem dX2_spells_8 : decode cX2_spells 8 = .ok (.aload_n 0, 1) := by decide +kernel
theorem dX2_spells_9 : decode cX2_spells 9 = .ok (.getfield 15, 3) := by decide +kernel
theorem dX2_spells_12 : decode cX2_spells 12 = .ok (.if_icmp .gt 13, 3) := by decide +kernel
theorem dX2_spells_15 : decode cX2_spells 15 = .ok (.aload_n 0, 1) := by decide +kernel
theorem dX2_spells_16 : decode cX2_spells 16 = .ok (.iload_n 3, 1) := by decide +kernel
theorem dX2_spells_17 : decode cX2_spells 17 = .ok (.invokevirtual 37, 3) := by decide +kernel
theorem dX2_spells_20 : decode cX2_spells 20 = .ok (.bipush 6, 2) := by decide +kernel
theorem dX2_spells_22 : decode cX2_spells 22 = .ok (.if_icmp .ne 5, 3) := by decide +kernel
theorem dX2_spells_25 : decode cX2_spells 25 = .ok (.iconst 0, 1) := by decide +kernel
theorem dX2_spells_26 : decode cX2_spells 26 = .ok (.ireturn, 1) := by decide +kernel
theorem dX2_spells_27 : decode cX2_spells 27 = .ok (.iconst 0, 1) := by decide +kernel
theorem dX2_spells_28 : decode cX2_spells 28 = .ok (.istore 4, 2) := by decide +kernel
theorem dX2_spells_30 : decode cX2_spells 30 = .ok (.iload 4, 2) := by decide +kernel
theorem dX2_spells_32 : decode cX2_spells 32 = .ok (.aload_n 1, 1) := by decide +kernel
theorem dX2_spells_33 : decode cX2_spells 33 = .ok (.invokevirtual 73, 3) := by decide +kernel
theorem dX2_spells_36 : decode cX2_spells 36 = .ok (.if_icmp .ge 29, 3) := by decide +kernel
theorem dX2_spells_39 : decode cX2_spells 39 = .ok (.aload_n 0, 1) := by decide +kernel
theorem dX2_spells_40 : decode cX2_spells 40 = .ok (.getfield 9, 3) := by decide +kernel
theorem dX2_spells_43 : decode cX2_spells 43 = .ok (.iload_n 2, 1) := by decide +kernel
theorem dX2_spells_44 : decode cX2_spells 44 = .ok (.iload 4, 2) := by decide +kernel
theorem dX2_spells_46 : decode cX2_spells 46 = .ok (.iadd, 1) := by decide +kernel
theorem dX2_spells_47 : decode cX2_spells 47 = .ok (.iaload, 1) := by decide +kernel
theorem dX2_spells_48 : decode cX2_spells 48 = .ok (.aload_n 1, 1) := by decide +kernel
theorem dX2_spells_49 : decode cX2_spells 49 = .ok (.iload 4, 2) := by decide +kernel
theorem dX2_spells_51 : decode cX2_spells 51 = .ok (.invokevirtual 78, 3) := by decide +kernel
theorem dX2_spells_54 : decode cX2_spells 54 = .ok (.if_icmp .eq 5, 3) := by decide +kernel
theorem dX2_spells_57 : decode cX2_spells 57 = .ok (.iconst 0, 1) := by decide +kernel
theorem dX2_spells_58 : decode cX2_spells 58 = .ok (.ireturn, 1) := by decide +kernel
theorem dX2_spells_59 : decode cX2_spells 59 = .ok (.iinc 4 1, 3) := by decide +kernel
theorem dX2_spells_62 : decode cX2_spells 62 = .ok (.goto (-32), 3) := by decide +kernel
theorem dX2_spells_65 : decode cX2_spells 65 = .ok (.iconst 1, 1) := by decide +kernel
theorem dX2_spells_66 : decode cX2_spells 66 = .ok (.ireturn, 1) := by decide +kernel
theorem dX2_hasMore_0 : decode cX2_hasMore 0 = .ok (.aload_n 0, 1) := by decide +kernel
theorem dX2_hasMore_1 : decode cX2_hasMore 1 = .ok (.getfield 31, 3) := by decide +kernel
theorem dX2_hasMore_4 : decode cX2_hasMore 4 = .ok (.ifCond .ne 14, 3) := by decide +kernel
theorem dX2_hasMore_7 : decode cX2_hasMore 7 = .ok (.aload_n 0, 1) := by decide +kernel
theorem dX2_hasMore_8 : decode cX2_hasMore 8 = .ok (.invokevirtual 82, 3) := by decide +kernel
theorem dX2_hasMore_11 : decode cX2_hasMore 11 = .ok (.ifCond .eq 7, 3) := by decide +kernel
theorem dX2_hasMore_14 : decode cX2_hasMore 14 = .ok (.iconst 1, 1) := by decide +kernel
theorem dX2_hasMore_15 : decode cX2_hasMore 15 = .ok (.goto 4, 3) := by decide +kernel
theorem dX2_hasMore_18 : decode cX2_hasMore 18 = .ok (.iconst 0, 1) := by decide +kernel
theorem dX2_hasMore_19 : decode cX2_hasMore 19 = .ok (.ireturn, 1) := by decide +kernel
theorem dX2_kindNow_0 : decode cX2_kindNow 0 = .ok (.aload_n 0, 1) := by decide +kernel
theorem dX2_kindNow_1 : decode cX2_kindNow 1 = .ok (.getfield 28, 3) := by decide +kernel
theorem dX2_kindNow_4 : decode cX2_kindNow 4 = .ok (.ifCond .lt 27, 3) := by decide +kernel
theorem dX2_kindNow_7 : decode cX2_kindNow 7 = .ok (.aload_n 0, 1) := by decide +kernel
theorem dX2_kindNow_8 : decode cX2_kindNow 8 = .ok (.getfield 28, 3) := by decide +kernel
theorem dX2_kindNow_11 : decode cX2_kindNow 11 = .ok (.aload_n 0, 1) := by decide +kernel
theorem dX2_kindNow_12 : decode cX2_kindNow 12 = .ok (.getfield 19, 3) := by decide +kernel
theorem dX2_kindNow_15 : decode cX2_kindNow 15 = .ok (.arraylength, 1) := by decide +kernel
theorem dX2_kindNow_16 : decode cX2_kindNow 16 = .ok (.if_icmp .ge 15, 3) := by decide +kernel
theorem dX2_kindNow_19 : decode cX2_kindNow 19 = .ok (.aload_n 0, 1) := by decide +kernel
theorem dX2_kindNow_20 : decode cX2_kindNow 20 = .ok (.getfield 19, 3) := by decide +kernel
theorem dX2_kindNow_23 : decode cX2_kindNow 23 = .ok (.aload_n 0, 1) := by decide +kernel
theorem dX2_kindNow_24 : decode cX2_kindNow 24 = .ok (.getfield 28, 3) := by decide +kernel
theorem dX2_kindNow_27 : decode cX2_kindNow 27 = .ok (.iaload, 1) := by decide +kernel
theorem dX2_kindNow_28 : decode cX2_kindNow 28 = .ok (.goto 4, 3) := by decide +kernel
theorem dX2_kindNow_31 : decode cX2_kindNow 31 = .ok (.iconst 0, 1) := by decide +kernel
theorem dX2_kindNow_32 : decode cX2_kindNow 32 = .ok (.ireturn, 1) := by decide +kernel
theorem dX2_isAtSigned_0 : decode cX2_isAtSigned 0 = .ok (.aload_n 0, 1) := by decide +kernel
theorem dX2_isAtSigned_1 : decode cX2_isAtSigned 1 = .ok (.invokevirtual 82, 3) := by decide +kernel
theorem dX2_isAtSigned_4 : decode cX2_isAtSigned 4 = .ok (.iconst 1, 1) := by decide +kernel
theorem dX2_isAtSigned_5 : decode cX2_isAtSigned 5 = .ok (.if_icmp .eq 11, 3) := by decide +kernel
theorem dX2_isAtSigned_8 : decode cX2_isAtSigned 8 = .ok (.aload_n 0, 1) := by decide +kernel
theorem dX2_isAtSigned_9 : decode cX2_isAtSigned 9 = .ok (.invokevirtual 82, 3) := by decide +kernel
theorem dX2_isAtSigned_12 : decode cX2_isAtSigned 12 = .ok (.iconst 2, 1) := by decide +kernel
theorem dX2_isAtSigned_13 : decode cX2_isAtSigned 13 = .ok (.if_icmp .ne 7, 3) := by decide +kernel
theorem dX2_isAtSigned_16 : decode cX2_isAtSigned 16 = .ok (.iconst 1, 1) := by decide +kernel
theorem dX2_isAtSigned_17 : decode cX2_isAtSigned 17 = .ok (.goto 4, 3) := by decide +kernel
theorem dX2_isAtSigned_20 : decode cX2_isAtSigned 20 = .ok (.iconst 0, 1) := by decide +kernel
theorem dX2_isAtSigned_21 : decode cX2_isAtSigned 21 = .ok (.ireturn, 1) := by decide +kernel
theorem dX2_fail_0 : decode cX2_fail 0 = .ok (.aload_n 0, 1) := by decide +kernel
theorem dX2_fail_1 : decode cX2_fail 1 = .ok (.getfield 31, 3) := by decide +kernel
theorem dX2_fail_4 : decode cX2_fail 4 = .ok (.ifCond .ne 47, 3) := by decide +kernel
theorem dX2_fail_7 : decode cX2_fail 7 = .ok (.aload_n 0, 1) := by decide +kernel
theorem dX2_fail_8 : decode cX2_fail 8 = .ok (.iload_n 1, 1) := by decide +kernel
theorem dX2_fail_9 : decode cX2_fail 9 = .ok (.putfield 31, 3) := by decide +kernel
theorem dX2_fail_12 : decode cX2_fail 12 = .ok (.aload_n 0, 1) := by decide +kernel
theorem dX2_fail_13 : decode cX2_fail 13 = .ok (.aload_n 0, 1) := by decide +kernel
theorem dX2_fail_14 : decode cX2_fail 14 = .ok (.getfield 28, 3) := by decide +kernel
theorem dX2_fail_17 : decode cX2_fail 17 = .ok (.ifCond .lt 27, 3) := by decide +kernel
theorem dX2_fail_20 : decode cX2_fail 20 = .ok (.aload_n 0, 1) := by decide +kernel
theorem dX2_fail_21 : decode cX2_fail 21 = .ok (.getfield 28, 3) := by decide +kernel
theorem dX2_fail_24 : decode cX2_fail 24 = .ok (.aload_n 0, 1) := by decide +kernel
theorem dX2_fail_25 : decode cX2_fail 25 = .ok (.getfield 22, 3) := by decide +kernel
theorem dX2_fail_28 : decode cX2_fail 28 = .ok (.arraylength, 1) := by decide +kernel
theorem dX2_fail_29 : decode cX2_fail 29 = .ok (.if_icmp .ge 15, 3) := by decide +kernel
theorem dX2_fail_32 : decode cX2_fail 32 = .ok (.aload_n 0, 1) := by decide +kernel
theorem dX2_fail_33 : decode cX2_fail 33 = .ok (.getfield 22, 3) := by decide +kernel
theorem dX2_fail_36 : decode cX2_fail 36 = .ok (.aload_n 0, 1) := by decide +kernel
theorem dX2_fail_37 : decode cX2_fail 37 = .ok (.getfield 28, 3) := by decide +kernel
theorem dX2_fail_40 : decode cX2_fail 40 = .ok (.iaload, 1) := by decide +kernel
theorem dX2_fail_41 : decode cX2_fail 41 = .ok (.goto 7, 3) := by decide +kernel
theorem dX2_fail_44 : decode cX2_fail 44 = .ok (.aload_n 0, 1) := by decide +kernel
theorem dX2_fail_45 : decode cX2_fail 45 = .ok (.getfield 15, 3) := by decide +kernel
theorem dX2_fail_48 : decode cX2_fail 48 = .ok (.putfield 34, 3) := by decide +kernel
theorem dX2_fail_51 : decode cX2_fail 51 = .ok (.return_, 1) := by decide +kernel
theorem dX2_takeKind_0 : decode cX2_takeKind 0 = .ok (.aload_n 0, 1) := by decide +kernel
theorem dX2_takeKind_1 : decode cX2_takeKind 1 = .ok (.invokevirtual 82, 3) := by decide +kernel
theorem dX2_takeKind_4 : decode cX2_takeKind 4 = .ok (.iload_n 1, 1) := by decide +kernel
theorem dX2_takeKind_5 : decode cX2_takeKind 5 = .ok (.if_icmp .eq 8, 3) := by decide +kernel
theorem dX2_takeKind_8 : decode cX2_takeKind 8 = .ok (.aload_n 0, 1) := by decide +kernel
theorem dX2_takeKind_9 : decode cX2_takeKind 9 = .ok (.iconst 1, 1) := by decide +kernel
theorem dX2_takeKind_10 : decode cX2_takeKind 10 = .ok (.invokevirtual 85, 3) := by decide +kernel
theorem dX2_takeKind_13 : decode cX2_takeKind 13 = .ok (.aload_n 0, 1) := by decide +kernel
theorem dX2_takeKind_14 : decode cX2_takeKind 14 = .ok (.getfield 31, 3) := by decide +kernel
theorem dX2_takeKind_17 : decode cX2_takeKind 17 = .ok (.ifCond .ne 20, 3) := by decide +kernel
theorem dX2_takeKind_20 : decode cX2_takeKind 20 = .ok (.aload_n 0, 1) := by decide +kernel
theorem dX2_takeKind_21 : decode cX2_takeKind 21 = .ok (.invokevirtual 82, 3) := by decide +kernel
theorem dX2_takeKind_24 : decode cX2_takeKind 24 = .ok (.ifCond .eq 13, 3) := by decide +kernel
theorem dX2_takeKind_27 : decode cX2_takeKind 27 = .ok (.aload_n 0, 1) := by decide +kernel
theorem dX2_takeKind_28 : decode cX2_takeKind 28 = .ok (.dup, 1) := by decide +kernel
theorem dX2_takeKind_29 : decode cX2_takeKind 29 = .ok (.getfield 28, 3) := by decide +kernel
theorem dX2_takeKind_32 : decode cX2_takeKind 32 = .ok (.iconst 1, 1) := by decide +kernel
theorem dX2_takeKind_33 : decode cX2_takeKind 33 = .ok (.iadd, 1) := by decide +kernel
theorem dX2_takeKind_34 : decode cX2_takeKind 34 = .ok (.putfield 28, 3) := by decide +kernel
theorem dX2_takeKind_37 : decode cX2_takeKind 37 = .ok (.return_, 1) := by decide +kernel
theorem dX2_lookNumber_0 : decode cX2_lookNumber 0 = .ok (.aload_n 0, 1) := by decide +kernel
theorem dX2_lookNumber_1 : decode cX2_lookNumber 1 = .ok (.invokevirtual 82, 3) := by decide +kernel
theorem dX2_lookNumber_4 : decode cX2_lookNumber 4 = .ok (.iconst 1, 1) := by decide +kernel
theorem dX2_lookNumber_5 : decode cX2_lookNumber 5 = .ok (.if_icmp .ne 15, 3) := by decide +kernel
theorem dX2_lookNumber_8 : decode cX2_lookNumber 8 = .ok (.aload_n 0, 1) := by decide +kernel
theorem dX2_lookNumber_9 : decode cX2_lookNumber 9 = .ok (.getfield 25, 3) := by decide +kernel
theorem dX2_lookNumber_12 : decode cX2_lookNumber 12 = .ok (.aload_n 0, 1) := by decide +kernel
theorem dX2_lookNumber_13 : decode cX2_lookNumber 13 = .ok (.getfield 28, 3) := by decide +kernel
theorem dX2_lookNumber_16 : decode cX2_lookNumber 16 = .ok (.iaload, 1) := by decide +kernel
theorem dX2_lookNumber_17 : decode cX2_lookNumber 17 = .ok (.goto 4, 3) := by decide +kernel
theorem dX2_lookNumber_20 : decode cX2_lookNumber 20 = .ok (.iload_n 1, 1) := by decide +kernel
theorem dX2_lookNumber_21 : decode cX2_lookNumber 21 = .ok (.istore_n 3, 1) := by decide +kernel
theorem dX2_lookNumber_22 : decode cX2_lookNumber 22 = .ok (.aload_n 0, 1) := by decide +kernel
theorem dX2_lookNumber_23 : decode cX2_lookNumber 23 = .ok (.invokevirtual 82, 3) := by decide +kernel
theorem dX2_lookNumber_26 : decode cX2_lookNumber 26 = .ok (.iconst 1, 1) := by decide +kernel
theorem dX2_lookNumber_27 : decode cX2_lookNumber 27 = .ok (.if_icmp .eq 11, 3) := by decide +kernel
theorem dX2_lookNumber_30 : decode cX2_lookNumber 30 = .ok (.aload_n 0, 1) := by decide +kernel
theorem dX2_lookNumber_31 : decode cX2_lookNumber 31 = .ok (.iconst 1, 1) := by decide +kernel
theorem dX2_lookNumber_32 : decode cX2_lookNumber 32 = .ok (.invokevirtual 85, 3) := by decide +kernel
theorem dX2_lookNumber_35 : decode cX2_lookNumber 35 = .ok (.goto 18, 3) := by decide +kernel
theorem dX2_lookNumber_38 : decode cX2_lookNumber 38 = .ok (.iload_n 3, 1) := by decide +kernel
theorem dX2_lookNumber_39 : decode cX2_lookNumber 39 = .ok (.iload_n 1, 1) := by decide +kernel
theorem dX2_lookNumber_40 : decode cX2_lookNumber 40 = .ok (.if_icmp .lt 8, 3) := by decide +kernel
theorem dX2_lookNumber_43 : decode cX2_lookNumber 43 = .ok (.iload_n 3, 1) := by decide +kernel
theorem dX2_lookNumber_44 : decode cX2_lookNumber 44 = .ok (.iload_n 2, 1) := by decide +kernel
theorem dX2_lookNumber_45 : decode cX2_lookNumber 45 = .ok (.if_icmp .le 8, 3) := by decide +kernel
theorem dX2_lookNumber_48 : decode cX2_lookNumber 48 = .ok (.aload_n 0, 1) := by decide +kernel
theorem dX2_lookNumber_49 : decode cX2_lookNumber 49 = .ok (.iconst 2, 1) := by decide +kernel
theorem dX2_lookNumber_50 : decode cX2_lookNumber 50 = .ok (.invokevirtual 85, 3) := by decide +kernel
theorem dX2_lookNumber_53 : decode cX2_lookNumber 53 = .ok (.aload_n 0, 1) := by decide +kernel
theorem dX2_lookNumber_54 : decode cX2_lookNumber 54 = .ok (.getfield 31, 3) := by decide +kernel
theorem dX2_lookNumber_57 : decode cX2_lookNumber 57 = .ok (.ifCond .ne 7, 3) := by decide +kernel
theorem dX2_lookNumber_60 : decode cX2_lookNumber 60 = .ok (.iload_n 3, 1) := by decide +kernel
theorem dX2_lookNumber_61 : decode cX2_lookNumber 61 = .ok (.goto 4, 3) := by decide +kernel
theorem dX2_lookNumber_64 : decode cX2_lookNumber 64 = .ok (.iload_n 1, 1) := by decide +kernel
theorem dX2_lookNumber_65 : decode cX2_lookNumber 65 = .ok (.ireturn, 1) := by decide +kernel
theorem dX2_takeNumber_0 : decode cX2_takeNumber 0 = .ok (.aload_n 0, 1) := by decide +kernel
theorem dX2_takeNumber_1 : decode cX2_takeNumber 1 = .ok (.iload_n 1, 1) := by decide +kernel
theorem dX2_takeNumber_2 : decode cX2_takeNumber 2 = .ok (.iload_n 2, 1) := by decide +kernel
theorem dX2_takeNumber_3 : decode cX2_takeNumber 3 = .ok (.invokevirtual 89, 3) := by decide +kernel
theorem dX2_takeNumber_6 : decode cX2_takeNumber 6 = .ok (.istore_n 3, 1) := by decide +kernel
theorem dX2_takeNumber_7 : decode cX2_takeNumber 7 = .ok (.aload_n 0, 1) := by decide +kernel
theorem dX2_takeNumber_8 : decode cX2_takeNumber 8 = .ok (.iconst 1, 1) := by decide +kernel
theorem dX2_takeNumber_9 : decode cX2_takeNumber 9 = .ok (.invokevirtual 92, 3) := by decide +kernel
theorem dX2_takeNumber_12 : decode cX2_takeNumber 12 = .ok (.iload_n 3, 1) := by decide +kernel
theorem dX2_takeNumber_13 : decode cX2_takeNumber 13 = .ok (.ireturn, 1) := by decide +kernel
theorem dX2_takeSigned_0 : decode cX2_takeSigned 0 = .ok (.aload_n 0, 1) := by decide +kernel
theorem dX2_takeSigned_1 : decode cX2_takeSigned 1 = .ok (.invokevirtual 82, 3) := by decide +kernel
theorem dX2_takeSigned_4 : decode cX2_takeSigned 4 = .ok (.iconst 2, 1) := by decide +kernel
theorem dX2_takeSigned_5 : decode cX2_takeSigned 5 = .ok (.if_icmp .ne 7, 3) := by decide +kernel
theorem dX2_takeSigned_8 : decode cX2_takeSigned 8 = .ok (.iconst 1, 1) := by decide +kernel
theorem dX2_takeSigned_9 : decode cX2_takeSigned 9 = .ok (.goto 4, 3) := by decide +kernel
theorem dX2_takeSigned_12 : decode cX2_takeSigned 12 = .ok (.iconst 0, 1) := by decide +kernel
theorem dX2_takeSigned_13 : decode cX2_takeSigned 13 = .ok (.istore_n 2, 1) := by decide +kernel
theorem dX2_takeSigned_14 : decode cX2_takeSigned 14 = .ok (.iload_n 2, 1) := by decide +kernel
theorem dX2_takeSigned_15 : decode cX2_takeSigned 15 = .ok (.ifCond .eq 8, 3) := by decide +kernel
theorem dX2_takeSigned_18 : decode cX2_takeSigned 18 = .ok (.aload_n 0, 1) := by decide +kernel
theorem dX2_takeSigned_19 : decode cX2_takeSigned 19 = .ok (.iconst 2, 1) := by decide +kernel
theorem dX2_takeSigned_20 : decode cX2_takeSigned 20 = .ok (.invokevirtual 92, 3) := by decide +kernel
theorem dX2_takeSigned_23 : decode cX2_takeSigned 23 = .ok (.aload_n 0, 1) := by decide +kernel
theorem dX2_takeSigned_24 : decode cX2_takeSigned 24 = .ok (.iconst 0, 1) := by decide +kernel
theorem dX2_takeSigned_25 : decode cX2_takeSigned 25 = .ok (.iload_n 1, 1) := by decide +kernel
theorem dX2_takeSigned_26 : decode cX2_takeSigned 26 = .ok (.invokevirtual 95, 3) := by decide +kernel
theorem dX2_takeSigned_29 : decode cX2_takeSigned 29 = .ok (.istore_n 3, 1) := by decide +kernel
theorem dX2_takeSigned_30 : decode cX2_takeSigned 30 = .ok (.iload_n 2, 1) := by decide +kernel
theorem dX2_takeSigned_31 : decode cX2_takeSigned 31 = .ok (.ifCond .eq 8, 3) := by decide +kernel
theorem dX2_takeSigned_34 : decode cX2_takeSigned 34 = .ok (.iload_n 3, 1) := by decide +kernel
theorem dX2_takeSigned_35 : decode cX2_takeSigned 35 = .ok (.ineg, 1) := by decide +kernel
theorem dX2_takeSigned_36 : decode cX2_takeSigned 36 = .ok (.goto 4, 3) := by decide +kernel
theorem dX2_takeSigned_39 : decode cX2_takeSigned 39 = .ok (.iload_n 3, 1) := by decide +kernel
theorem dX2_takeSigned_40 : decode cX2_takeSigned 40 = .ok (.ireturn, 1) := by decide +kernel
theorem dX3_init_0 : decode cX3_init 0 = .ok (.aload_n 0, 1) := by decide +kernel
theorem dX3_init_1 : decode cX3_init 1 = .ok (.invokespecial 3, 3) := by decide +kernel
theorem dX3_init_4 : decode cX3_init 4 = .ok (.aload_n 0, 1) := by decide +kernel
theorem dX3_init_5 : decode cX3_init 5 = .ok (.iconst 0, 1) := by decide +kernel
theorem dX3_init_6 : decode cX3_init 6 = .ok (.putfield 9, 3) := by decide +kernel
theorem dX3_init_9 : decode cX3_init 9 = .ok (.aload_n 0, 1) := by decide +kernel
theorem dX3_init_10 : decode cX3_init 10 = .ok (.bipush 10, 2) := by decide +kernel
theorem dX3_init_12 : decode cX3_init 12 = .ok (.newarray .int, 2) := by decide +kernel
theorem dX3_init_14 : decode cX3_init 14 = .ok (.putfield 15, 3) := by decide +kernel
theorem dX3_init_17 : decode cX3_init 17 = .ok (.aload_n 0, 1) := by decide +kernel
theorem dX3_init_18 : decode cX3_init 18 = .ok (.bipush 10, 2) := by decide +kernel
theorem dX3_init_20 : decode cX3_init 20 = .ok (.newarray .int, 2) := by decide +kernel
theorem dX3_init_22 : decode cX3_init 22 = .ok (.putfield 19, 3) := by decide +kernel
theorem dX3_init_25 : decode cX3_init 25 = .ok (.return_, 1) := by decide +kernel
theorem dX3_copyFrom_0 : decode cX3_copyFrom 0 = .ok (.aload_n 0, 1) := by decide +kernel
theorem dX3_copyFrom_1 : decode cX3_copyFrom 1 = .ok (.aload_n 1, 1) := by decide +kernel
theorem dX3_copyFrom_2 : decode cX3_copyFrom 2 = .ok (.getfield 9, 3) := by decide +kernel
theorem dX3_copyFrom_5 : decode cX3_copyFrom 5 = .ok (.putfield 9, 3) := by decide +kernel
theorem dX3_copyFrom_8 : decode cX3_copyFrom 8 = .ok (.aload_n 1, 1) := by decide +kernel
theorem dX3_copyFrom_9 : decode cX3_copyFrom 9 = .ok (.getfield 15, 3) := by decide +kernel
theorem dX3_copyFrom_12 : decode cX3_copyFrom 12 = .ok (.iconst 0, 1) := by decide +kernel
theorem dX3_copyFrom_13 : decode cX3_copyFrom 13 = .ok (.aload_n 0, 1) := by decide +kernel
theorem dX3_copyFrom_14 : decode cX3_copyFrom 14 = .ok (.getfield 15, 3) := by decide +kernel
theorem dX3_copyFrom_17 : decode cX3_copyFrom 17 = .ok (.iconst 0, 1) := by decide +kernel
theorem dX3_copyFrom_18 : decode cX3_copyFrom 18 = .ok (.bipush 10, 2) := by decide +kernel
theorem dX3_copyFrom_20 : decode cX3_copyFrom 20 = .ok (.invokestatic 22, 3) := by decide +kernel
theorem dX3_copyFrom_23 : decode cX3_copyFrom 23 = .ok (.aload_n 1, 1) := by decide +kernel
theorem dX3_copyFrom_24 : decode cX3_copyFrom 24 = .ok (.getfield 19, 3) := by decide +kernel
theorem dX3_copyFrom_27 : decode cX3_copyFrom 27 = .ok (.iconst 0, 1) := by decide +kernel
theorem dX3_copyFrom_28 : decode cX3_copyFrom 28 = .ok (.aload_n 0, 1) := by decide +kernel
theorem dX3_copyFrom_29 : decode cX3_copyFrom 29 = .ok (.getfield 19, 3) := by decide +kernel
theorem dX3_copyFrom_32 : decode cX3_copyFrom 32 = .ok (.iconst 0, 1) := by decide +kernel
theorem dX3_copyFrom_33 : decode cX3_copyFrom 33 = .ok (.bipush 10, 2) := by decide +kernel
theorem dX3_copyFrom_35 : decode cX3_copyFrom 35 = .ok (.invokestatic 22, 3) := by decide +kernel
theorem dX3_copyFrom_38 : decode cX3_copyFrom 38 = .ok (.return_, 1) := by decide +kernel
theorem dX3_strengthen_0 : decode cX3_strengthen 0 = .ok (.iload_n 1, 1) := by decide +kernel
theorem dX3_strengthen_1 : decode cX3_strengthen 1 = .ok (.ifCond .lt 16, 3) := by decide +kernel
theorem dX3_strengthen_4 : decode cX3_strengthen 4 = .ok (.iload_n 1, 1) := by decide +kernel
theorem dX3_strengthen_5 : decode cX3_strengthen 5 = .ok (.bipush 10, 2) := by decide +kernel
theorem dX3_strengthen_7 : decode cX3_strengthen 7 = .ok (.if_icmp .ge 10, 3) := by decide +kernel
theorem dX3_strengthen_10 : decode cX3_strengthen 10 = .ok (.aload_n 0, 1) := by decide +kernel
theorem dX3_strengthen_11 : decode cX3_strengthen 11 = .ok (.getfield 15, 3) := by decide +kernel
theorem dX3_strengthen_14 : decode cX3_strengthen 14 = .ok (.iload_n 1, 1) := by decide +kernel
theorem dX3_strengthen_15 : decode cX3_strengthen 15 = .ok (.iload_n 2, 1) := by decide +kernel
theorem dX3_strengthen_16 : decode cX3_strengthen 16 = .ok (.iastore, 1) := by decide +kernel
theorem dX3_strengthen_17 : decode cX3_strengthen 17 = .ok (.return_, 1) := by decide +kernel
theorem dX3_clear_0 : decode cX3_clear 0 = .ok (.aload_n 0, 1) := by decide +kernel
theorem dX3_clear_1 : decode cX3_clear 1 = .ok (.iconst 0, 1) := by decide +kernel
theorem dX3_clear_2 : decode cX3_clear 2 = .ok (.putfield 9, 3) := by decide +kernel
theorem dX3_clear_5 : decode cX3_clear 5 = .ok (.iconst 0, 1) := by decide +kernel
theorem dX3_clear_6 : decode cX3_clear 6 = .ok (.istore_n 1, 1) := by decide +kernel
theorem dX3_clear_7 : decode cX3_clear 7 = .ok (.iload_n 1, 1) := by decide +kernel
theorem dX3_clear_8 : decode cX3_clear 8 = .ok (.bipush 10, 2) := by decide +kernel
theorem dX3_clear_10 : decode cX3_clear 10 = .ok (.if_icmp .ge 24, 3) := by decide +kernel
theorem dX3_clear_13 : decode cX3_clear 13 = .ok (.aload_n 0, 1) := by decide +kernel
theorem dX3_clear_14 : decode cX3_clear 14 = .ok (.getfield 15, 3) := by decide +kernel
theorem dX3_clear_17 : decode cX3_clear 17 = .ok (.iload_n 1, 1) := by decide +kernel
theorem dX3_clear_18 : decode cX3_clear 18 = .ok (.bipush 10, 2) := by decide +kernel
theorem dX3_clear_20 : decode cX3_clear 20 = .ok (.iastore, 1) := by decide +kernel
theorem dX3_clear_21 : decode cX3_clear 21 = .ok (.aload_n 0, 1) := by decide +kernel
theorem dX3_clear_22 : decode cX3_clear 22 = .ok (.getfield 19, 3) := by decide +kernel
theorem dX3_clear_25 : decode cX3_clear 25 = .ok (.iload_n 1, 1) := by decide +kernel
theorem dX3_clear_26 : decode cX3_clear 26 = .ok (.iconst 0, 1) := by decide +kernel
theorem dX3_clear_27 : decode cX3_clear 27 = .ok (.iastore, 1) := by decide +kernel
theorem dX3_clear_28 : decode cX3_clear 28 = .ok (.iinc 1 1, 3) := by decide +kernel
theorem dX3_clear_31 : decode cX3_clear 31 = .ok (.goto (-24), 3) := by decide +kernel
theorem dX3_clear_34 : decode cX3_clear 34 = .ok (.return_, 1) := by decide +kernel
theorem dX4_init_0 : decode cX4_init 0 = .ok (.aload_n 0, 1) := by decide +kernel
theorem dX4_init_1 : decode cX4_init 1 = .ok (.invokespecial 3, 3) := by decide +kernel
theorem dX4_init_4 : decode cX4_init 4 = .ok (.aload_n 0, 1) := by decide +kernel
theorem dX4_init_5 : decode cX4_init 5 = .ok (.iconst 0, 1) := by decide +kernel
theorem dX4_init_6 : decode cX4_init 6 = .ok (.putfield 9, 3) := by decide +kernel
theorem dX4_init_9 : decode cX4_init 9 = .ok (.aload_n 0, 1) := by decide +kernel
theorem dX4_init_10 : decode cX4_init 10 = .ok (.bipush 40, 2) := by decide +kernel
theorem dX4_init_12 : decode cX4_init 12 = .ok (.newarray .int, 2) := by decide +kernel
theorem dX4_init_14 : decode cX4_init 14 = .ok (.putfield 15, 3) := by decide +kernel
theorem dX4_init_17 : decode cX4_init 17 = .ok (.aload_n 0, 1) := by decide +kernel
theorem dX4_init_18 : decode cX4_init 18 = .ok (.bipush 41, 2) := by decide +kernel
theorem dX4_init_20 : decode cX4_init 20 = .ok (.newarray .int, 2) := by decide +kernel
theorem dX4_init_22 : decode cX4_init 22 = .ok (.putfield 19, 3) := by decide +kernel
theorem dX4_init_25 : decode cX4_init 25 = .ok (.aload_n 0, 1) := by decide +kernel
theorem dX4_init_26 : decode cX4_init 26 = .ok (.sipush 500, 3) := by decide +kernel
theorem dX4_init_29 : decode cX4_init 29 = .ok (.newarray .int, 2) := by decide +kernel
theorem dX4_init_31 : decode cX4_init 31 = .ok (.putfield 22, 3) := by decide +kernel
theorem dX4_init_34 : decode cX4_init 34 = .ok (.return_, 1) := by decide +kernel
theorem dX4_clear_0 : decode cX4_clear 0 = .ok (.aload_n 0, 1) := by decide +kernel
theorem dX4_clear_1 : decode cX4_clear 1 = .ok (.iconst 0, 1) := by decide +kernel
theorem dX4_clear_2 : decode cX4_clear 2 = .ok (.putfield 9, 3) := by decide +kernel
theorem dX4_clear_5 : decode cX4_clear 5 = .ok (.aload_n 0, 1) := by decide +kernel
theorem dX4_clear_6 : decode cX4_clear 6 = .ok (.getfield 19, 3) := by decide +kernel
theorem dX4_clear_9 : decode cX4_clear 9 = .ok (.iconst 0, 1) := by decide +kernel
theorem dX4_clear_10 : decode cX4_clear 10 = .ok (.iconst 0, 1) := by decide +kernel
theorem dX4_clear_11 : decode cX4_clear 11 = .ok (.iastore, 1) := by decide +kernel
theorem dX4_clear_12 : decode cX4_clear 12 = .ok (.return_, 1) := by decide +kernel
theorem dX4_begin_0 : decode cX4_begin 0 = .ok (.aload_n 0, 1) := by decide +kernel
theorem dX4_begin_1 : decode cX4_begin 1 = .ok (.getfield 9, 3) := by decide +kernel
theorem dX4_begin_4 : decode cX4_begin 4 = .ok (.bipush 40, 2) := by decide +kernel
theorem dX4_begin_6 : decode cX4_begin 6 = .ok (.if_icmp .ge 43, 3) := by decide +kernel
theorem dX4_begin_9 : decode cX4_begin 9 = .ok (.aload_n 0, 1) := by decide +kernel
theorem dX4_begin_10 : decode cX4_begin 10 = .ok (.getfield 15, 3) := by decide +kernel
theorem dX4_begin_13 : decode cX4_begin 13 = .ok (.aload_n 0, 1) := by decide +kernel
theorem dX4_begin_14 : decode cX4_begin 14 = .ok (.getfield 9, 3) := by decide +kernel
theorem dX4_begin_17 : decode cX4_begin 17 = .ok (.iload_n 1, 1) := by decide +kernel
theorem dX4_begin_18 : decode cX4_begin 18 = .ok (.iastore, 1) := by decide +kernel
theorem dX4_begin_19 : decode cX4_begin 19 = .ok (.aload_n 0, 1) := by decide +kernel
theorem dX4_begin_20 : decode cX4_begin 20 = .ok (.getfield 19, 3) := by decide +kernel
theorem dX4_begin_23 : decode cX4_begin 23 = .ok (.aload_n 0, 1) := by decide +kernel
theorem dX4_begin_24 : decode cX4_begin 24 = .ok (.getfield 9, 3) := by decide +kernel
theorem dX4_begin_27 : decode cX4_begin 27 = .ok (.iconst 1, 1) := by decide +kernel
theorem dX4_begin_28 : decode cX4_begin 28 = .ok (.iadd, 1) := by decide +kernel
theorem dX4_begin_29 : decode cX4_begin 29 = .ok (.aload_n 0, 1) := by decide +kernel
theorem dX4_begin_30 : decode cX4_begin 30 = .ok (.getfield 19, 3) := by decide +kernel
theorem dX4_begin_33 : decode cX4_begin 33 = .ok (.aload_n 0, 1) := by decide +kernel
theorem dX4_begin_34 : decode cX4_begin 34 = .ok (.getfield 9, 3) := by decide +kernel
theorem dX4_begin_37 : decode cX4_begin 37 = .ok (.iaload, 1) := by decide +kernel
theorem dX4_begin_38 : decode cX4_begin 38 = .ok (.iastore, 1) := by decide +kernel
theorem dX4_begin_39 : decode cX4_begin 39 = .ok (.aload_n 0, 1) := by decide +kernel
theorem dX4_begin_40 : decode cX4_begin 40 = .ok (.dup, 1) := by decide +kernel
theorem dX4_begin_41 : decode cX4_begin 41 = .ok (.getfield 9, 3) := by decide +kernel
theorem dX4_begin_44 : decode cX4_begin 44 = .ok (.iconst 1, 1) := by decide +kernel
theorem dX4_begin_45 : decode cX4_begin 45 = .ok (.iadd, 1) := by decide +kernel
theorem dX4_begin_46 : decode cX4_begin 46 = .ok (.putfield 9, 3) := by decide +kernel
theorem dX4_begin_49 : decode cX4_begin 49 = .ok (.return_, 1) := by decide +kernel
theorem dX4_add_0 : decode cX4_add 0 = .ok (.aload_n 0, 1) := by decide +kernel
theorem dX4_add_1 : decode cX4_add 1 = .ok (.getfield 19, 3) := by decide +kernel
theorem dX4_add_4 : decode cX4_add 4 = .ok (.aload_n 0, 1) := by decide +kernel
theorem dX4_add_5 : decode cX4_add 5 = .ok (.getfield 9, 3) := by decide +kernel
theorem dX4_add_8 : decode cX4_add 8 = .ok (.iaload, 1) := by decide +kernel
theorem dX4_add_9 : decode cX4_add 9 = .ok (.istore_n 2, 1) := by decide +kernel
theorem dX4_add_10 : decode cX4_add 10 = .ok (.iload_n 2, 1) := by decide +kernel
theorem dX4_add_11 : decode cX4_add 11 = .ok (.aload_n 0, 1) := by decide +kernel
theorem dX4_add_12 : decode cX4_add 12 = .ok (.getfield 22, 3) := by decide +kernel
theorem dX4_add_15 : decode cX4_add 15 = .ok (.arraylength, 1) := by decide +kernel
theorem dX4_add_16 : decode cX4_add 16 = .ok (.if_icmp .ge 22, 3) := by decide +kernel
theorem dX4_add_19 : decode cX4_add 19 = .ok (.aload_n 0, 1) := by decide +kernel
theorem dX4_add_20 : decode cX4_add 20 = .ok (.getfield 22, 3) := by decide +kernel
theorem dX4_add_23 : decode cX4_add 23 = .ok (.iload_n 2, 1) := by decide +kernel
theorem dX4_add_24 : decode cX4_add 24 = .ok (.iload_n 1, 1) := by decide +kernel
theorem dX4_add_25 : decode cX4_add 25 = .ok (.iastore, 1) := by decide +kernel
theorem dX4_add_26 : decode cX4_add 26 = .ok (.aload_n 0, 1) := by decide +kernel
theorem dX4_add_27 : decode cX4_add 27 = .ok (.getfield 19, 3) := by decide +kernel
theorem dX4_add_30 : decode cX4_add 30 = .ok (.aload_n 0, 1) := by decide +kernel
theorem dX4_add_31 : decode cX4_add 31 = .ok (.getfield 9, 3) := by decide +kernel
theorem dX4_add_34 : decode cX4_add 34 = .ok (.iload_n 2, 1) := by decide +kernel
theorem dX4_add_35 : decode cX4_add 35 = .ok (.iconst 1, 1) := by decide +kernel
theorem dX4_add_36 : decode cX4_add 36 = .ok (.iadd, 1) := by decide +kernel
theorem dX4_add_37 : decode cX4_add 37 = .ok (.iastore, 1) := by decide +kernel
theorem dX4_add_38 : decode cX4_add 38 = .ok (.return_, 1) := by decide +kernel
theorem dX4_kindOf_0 : decode cX4_kindOf 0 = .ok (.iload_n 1, 1) := by decide +kernel
theorem dX4_kindOf_1 : decode cX4_kindOf 1 = .ok (.ifCond .lt 20, 3) := by decide +kernel
theorem dX4_kindOf_4 : decode cX4_kindOf 4 = .ok (.iload_n 1, 1) := by decide +kernel
theorem dX4_kindOf_5 : decode cX4_kindOf 5 = .ok (.aload_n 0, 1) := by decide +kernel
theorem dX4_kindOf_6 : decode cX4_kindOf 6 = .ok (.getfield 9, 3) := by decide +kernel
theorem dX4_kindOf_9 : decode cX4_kindOf 9 = .ok (.if_icmp .ge 12, 3) := by decide +kernel
theorem dX4_kindOf_12 : decode cX4_kindOf 12 = .ok (.aload_n 0, 1) := by decide +kernel
theorem dX4_kindOf_13 : decode cX4_kindOf 13 = .ok (.getfield 15, 3) := by decide +kernel
theorem dX4_kindOf_16 : decode cX4_kindOf 16 = .ok (.iload_n 1, 1) := by decide +kernel
theorem dX4_kindOf_17 : decode cX4_kindOf 17 = .ok (.iaload, 1) := by decide +kernel
theorem dX4_kindOf_18 : decode cX4_kindOf 18 = .ok (.goto 4, 3) := by decide +kernel
theorem dX4_kindOf_21 : decode cX4_kindOf 21 = .ok (.iconst 4, 1) := by decide +kernel
theorem dX4_kindOf_22 : decode cX4_kindOf 22 = .ok (.ireturn, 1) := by decide +kernel
theorem dX4_arguments_0 : decode cX4_arguments 0 = .ok (.iload_n 1, 1) := by decide +kernel
theorem dX4_arguments_1 : decode cX4_arguments 1 = .ok (.ifCond .lt 29, 3) := by decide +kernel
theorem dX4_arguments_4 : decode cX4_arguments 4 = .ok (.iload_n 1, 1) := by decide +kernel
theorem dX4_arguments_5 : decode cX4_arguments 5 = .ok (.aload_n 0, 1) := by decide +kernel
theorem dX4_arguments_6 : decode cX4_arguments 6 = .ok (.getfield 9, 3) := by decide +kernel
theorem dX4_arguments_9 : decode cX4_arguments 9 = .ok (.if_icmp .ge 21, 3) := by decide +kernel
theorem dX4_arguments_12 : decode cX4_arguments 12 = .ok (.aload_n 0, 1) := by decide +kernel
theorem dX4_arguments_13 : decode cX4_arguments 13 = .ok (.getfield 19, 3) := by decide +kernel
theorem dX4_arguments_16 : decode cX4_arguments 16 = .ok (.iload_n 1, 1) := by decide +kernel
theorem dX4_arguments_17 : decode cX4_arguments 17 = .ok (.iconst 1, 1) := by decide +kernel
theorem dX4_arguments_18 : decode cX4_arguments 18 = .ok (.iadd, 1) := by decide +kernel
theorem dX4_arguments_19 : decode cX4_arguments 19 = .ok (.iaload, 1) := by decide +kernel
theorem dX4_arguments_20 : decode cX4_arguments 20 = .ok (.aload_n 0, 1) := by decide +kernel
theorem dX4_arguments_21 : decode cX4_arguments 21 = .ok (.getfield 19, 3) := by decide +kernel
theorem dX4_arguments_24 : decode cX4_arguments 24 = .ok (.iload_n 1, 1) := by decide +kernel
theorem dX4_arguments_25 : decode cX4_arguments 25 = .ok (.iaload, 1) := by decide +kernel
theorem dX4_arguments_26 : decode cX4_arguments 26 = .ok (.isub, 1) := by decide +kernel
theorem dX4_arguments_27 : decode cX4_arguments 27 = .ok (.goto 4, 3) := by decide +kernel
theorem dX4_arguments_30 : decode cX4_arguments 30 = .ok (.iconst 0, 1) := by decide +kernel
theorem dX4_arguments_31 : decode cX4_arguments 31 = .ok (.ireturn, 1) := by decide +kernel
theorem dX4_argument_0 : decode cX4_argument 0 = .ok (.iload_n 2, 1) := by decide +kernel
theorem dX4_argument_1 : decode cX4_argument 1 = .ok (.ifCond .lt 28, 3) := by decide +kernel
theorem dX4_argument_4 : decode cX4_argument 4 = .ok (.iload_n 2, 1) := by decide +kernel
theorem dX4_argument_5 : decode cX4_argument 5 = .ok (.aload_n 0, 1) := by decide +kernel
theorem dX4_argument_6 : decode cX4_argument 6 = .ok (.iload_n 1, 1) := by decide +kernel
theorem dX4_argument_7 : decode cX4_argument 7 = .ok (.invokevirtual 25, 3) := by decide +kernel
theorem dX4_argument_10 : decode cX4_argument 10 = .ok (.if_icmp .ge 19, 3) := by decide +kernel
theorem dX4_argument_13 : decode cX4_argument 13 = .ok (.aload_n 0, 1) := by decide +kernel
theorem dX4_argument_14 : decode cX4_argument 14 = .ok (.getfield 22, 3) := by decide +kernel
theorem dX4_argument_17 : decode cX4_argument 17 = .ok (.aload_n 0, 1) := by decide +kernel
theorem dX4_argument_18 : decode cX4_argument 18 = .ok (.getfield 19, 3) := by decide +kernel
theorem dX4_argument_21 : decode cX4_argument 21 = .ok (.iload_n 1, 1) := by decide +kernel
theorem dX4_argument_22 : decode cX4_argument 22 = .ok (.iaload, 1) := by decide +kernel
theorem dX4_argument_23 : decode cX4_argument 23 = .ok (.iload_n 2, 1) := by decide +kernel
theorem dX4_argument_24 : decode cX4_argument 24 = .ok (.iadd, 1) := by decide +kernel
theorem dX4_argument_25 : decode cX4_argument 25 = .ok (.iaload, 1) := by decide +kernel
theorem dX4_argument_26 : decode cX4_argument 26 = .ok (.goto 4, 3) := by decide +kernel
theorem dX4_argument_29 : decode cX4_argument 29 = .ok (.iconst 0, 1) := by decide +kernel
theorem dX4_argument_30 : decode cX4_argument 30 = .ok (.ireturn, 1) := by decide +kernel
theorem dX5_init_0 : decode cX5_init 0 = .ok (.aload_n 0, 1) := by decide +kernel
theorem dX5_init_1 : decode cX5_init 1 = .ok (.invokespecial 3, 3) := by decide +kernel
theorem dX5_init_4 : decode cX5_init 4 = .ok (.aload_n 0, 1) := by decide +kernel
theorem dX5_init_5 : decode cX5_init 5 = .ok (.new 9, 3) := by decide +kernel
theorem dX5_init_8 : decode cX5_init 8 = .ok (.dup, 1) := by decide +kernel
theorem dX5_init_9 : decode cX5_init 9 = .ok (.invokespecial 11, 3) := by decide +kernel
theorem dX5_init_12 : decode cX5_init 12 = .ok (.putfield 12, 3) := by decide +kernel
theorem dX5_init_15 : decode cX5_init 15 = .ok (.aload_n 0, 1) := by decide +kernel
theorem dX5_init_16 : decode cX5_init 16 = .ok (.new 18, 3) := by decide +kernel
theorem dX5_init_19 : decode cX5_init 19 = .ok (.dup, 1) := by decide +kernel
theorem dX5_init_20 : decode cX5_init 20 = .ok (.invokespecial 20, 3) := by decide +kernel
theorem dX5_init_23 : decode cX5_init 23 = .ok (.putfield 21, 3) := by decide +kernel
theorem dX5_init_26 : decode cX5_init 26 = .ok (.aload_n 0, 1) := by decide +kernel
theorem dX5_init_27 : decode cX5_init 27 = .ok (.new 25, 3) := by decide +kernel
theorem dX5_init_30 : decode cX5_init 30 = .ok (.dup, 1) := by decide +kernel
theorem dX5_init_31 : decode cX5_init 31 = .ok (.invokespecial 27, 3) := by decide +kernel
theorem dX5_init_34 : decode cX5_init 34 = .ok (.putfield 28, 3) := by decide +kernel
theorem dX5_init_37 : decode cX5_init 37 = .ok (.aload_n 0, 1) := by decide +kernel
theorem dX5_init_38 : decode cX5_init 38 = .ok (.iconst 0, 1) := by decide +kernel
theorem dX5_init_39 : decode cX5_init 39 = .ok (.putfield 32, 3) := by decide +kernel
theorem dX5_init_42 : decode cX5_init 42 = .ok (.aload_n 0, 1) := by decide +kernel
theorem dX5_init_43 : decode cX5_init 43 = .ok (.iconst 1, 1) := by decide +kernel
theorem dX5_init_44 : decode cX5_init 44 = .ok (.putfield 36, 3) := by decide +kernel
theorem dX5_init_47 : decode cX5_init 47 = .ok (.aload_n 0, 1) := by decide +kernel
theorem dX5_init_48 : decode cX5_init 48 = .ok (.iconst 1, 1) := by decide +kernel
theorem dX5_init_49 : decode cX5_init 49 = .ok (.putfield 39, 3) := by decide +kernel
theorem dX5_init_52 : decode cX5_init 52 = .ok (.aload_n 0, 1) := by decide +kernel
theorem dX5_init_53 : decode cX5_init 53 = .ok (.iconst 0, 1) := by decide +kernel
theorem dX5_init_54 : decode cX5_init 54 = .ok (.putfield 42, 3) := by decide +kernel
theorem dX5_init_57 : decode cX5_init 57 = .ok (.aload_n 0, 1) := by decide +kernel
theorem dX5_init_58 : decode cX5_init 58 = .ok (.iconst 0, 1) := by decide +kernel
theorem dX5_init_59 : decode cX5_init 59 = .ok (.putfield 45, 3) := by decide +kernel
theorem dX5_init_62 : decode cX5_init 62 = .ok (.aload_n 0, 1) := by decide +kernel
theorem dX5_init_63 : decode cX5_init 63 = .ok (.iconst 0, 1) := by decide +kernel
theorem dX5_init_64 : decode cX5_init 64 = .ok (.putfield 48, 3) := by decide +kernel
theorem dX5_init_67 : decode cX5_init 67 = .ok (.aload_n 0, 1) := by decide +kernel
theorem dX5_init_68 : decode cX5_init 68 = .ok (.iconst 0, 1) := by decide +kernel
theorem dX5_init_69 : decode cX5_init 69 = .ok (.putfield 51, 3) := by decide +kernel
theorem dX5_init_72 : decode cX5_init 72 = .ok (.aload_n 0, 1) := by decide +kernel
theorem dX5_init_73 : decode cX5_init 73 = .ok (.iconst 0, 1) := by decide +kernel
theorem dX5_init_74 : decode cX5_init 74 = .ok (.putfield 54, 3) := by decide +kernel
theorem dX5_init_77 : decode cX5_init 77 = .ok (.aload_n 0, 1) := by decide +kernel
theorem dX5_init_78 : decode cX5_init 78 = .ok (.iconst 0, 1) := by decide +kernel
theorem dX5_init_79 : decode cX5_init 79 = .ok (.putfield 57, 3) := by decide +kernel
theorem dX5_init_82 : decode cX5_init 82 = .ok (.return_, 1) := by decide +kernel
theorem dX5_copyFrom_0 : decode cX5_copyFrom 0 = .ok (.aload_n 0, 1) := by decide +kernel
theorem dX5_copyFrom_1 : decode cX5_copyFrom 1 = .ok (.getfield 12, 3) := by decide +kernel
theorem dX5_copyFrom_4 : decode cX5_copyFrom 4 = .ok (.aload_n 1, 1) := by decide +kernel
theorem dX5_copyFrom_5 : decode cX5_copyFrom 5 = .ok (.getfield 12, 3) := by decide +kernel
theorem dX5_copyFrom_8 : decode cX5_copyFrom 8 = .ok (.invokevirtual 60, 3) := by decide +kernel
theorem dX5_copyFrom_11 : decode cX5_copyFrom 11 = .ok (.aload_n 0, 1) := by decide +kernel
theorem dX5_copyFrom_12 : decode cX5_copyFrom 12 = .ok (.getfield 21, 3) := by decide +kernel
theorem dX5_copyFrom_15 : decode cX5_copyFrom 15 = .ok (.aload_n 1, 1) := by decide +kernel
theorem dX5_copyFrom_16 : decode cX5_copyFrom 16 = .ok (.getfield 21, 3) := by decide +kernel
theorem dX5_copyFrom_19 : decode cX5_copyFrom 19 = .ok (.invokevirtual 64, 3) := by decide +kernel
theorem dX5_copyFrom_22 : decode cX5_copyFrom 22 = .ok (.aload_n 0, 1) := by decide +kernel
theorem dX5_copyFrom_23 : decode cX5_copyFrom 23 = .ok (.getfield 28, 3) := by decide +kernel
theorem dX5_copyFrom_26 : decode cX5_copyFrom 26 = .ok (.aload_n 1, 1) := by decide +kernel
theorem dX5_copyFrom_27 : decode cX5_copyFrom 27 = .ok (.getfield 28, 3) := by decide +kernel
theorem dX5_copyFrom_30 : decode cX5_copyFrom 30 = .ok (.invokevirtual 67, 3) := by decide +kernel
theorem dX5_copyFrom_33 : decode cX5_copyFrom 33 = .ok (.aload_n 0, 1) := by decide +kernel
theorem dX5_copyFrom_34 : decode cX5_copyFrom 34 = .ok (.aload_n 1, 1) := by decide +kernel
theorem dX5_copyFrom_35 : decode cX5_copyFrom 35 = .ok (.getfield 32, 3) := by decide +kernel
theorem dX5_copyFrom_38 : decode cX5_copyFrom 38 = .ok (.putfield 32, 3) := by decide +kernel
theorem dX5_copyFrom_41 : decode cX5_copyFrom 41 = .ok (.aload_n 0, 1) := by decide +kernel
theorem dX5_copyFrom_42 : decode cX5_copyFrom 42 = .ok (.aload_n 1, 1) := by decide +kernel
theorem dX5_copyFrom_43 : decode cX5_copyFrom 43 = .ok (.getfield 36, 3) := by decide +kernel
theorem dX5_copyFrom_46 : decode cX5_copyFrom 46 = .ok (.putfield 36, 3) := by decide +kernel
theorem dX5_copyFrom_49 : decode cX5_copyFrom 49 = .ok (.aload_n 0, 1) := by decide +kernel
theorem dX5_copyFrom_50 : decode cX5_copyFrom 50 = .ok (.aload_n 1, 1) := by decide +kernel
theorem dX5_copyFrom_51 : decode cX5_copyFrom 51 = .ok (.getfield 39, 3) := by decide +kernel
theorem dX5_copyFrom_54 : decode cX5_copyFrom 54 = .ok (.putfield 39, 3) := by decide +kernel
theorem dX5_copyFrom_57 : decode cX5_copyFrom 57 = .ok (.aload_n 0, 1) := by decide +kernel
theorem dX5_copyFrom_58 : decode cX5_copyFrom 58 = .ok (.aload_n 1, 1) := by decide +kernel
theorem dX5_copyFrom_59 : decode cX5_copyFrom 59 = .ok (.getfield 42, 3) := by decide +kernel
theorem dX5_copyFrom_62 : decode cX5_copyFrom 62 = .ok (.putfield 42, 3) := by decide +kernel
theorem dX5_copyFrom_65 : decode cX5_copyFrom 65 = .ok (.aload_n 0, 1) := by decide +kernel
theorem dX5_copyFrom_66 : decode cX5_copyFrom 66 = .ok (.aload_n 1, 1) := by decide +kernel
theorem dX5_copyFrom_67 : decode cX5_copyFrom 67 = .ok (.getfield 45, 3) := by decide +kernel
theorem dX5_copyFrom_70 : decode cX5_copyFrom 70 = .ok (.putfield 45, 3) := by decide +kernel
theorem dX5_copyFrom_73 : decode cX5_copyFrom 73 = .ok (.aload_n 0, 1) := by decide +kernel
theorem dX5_copyFrom_74 : decode cX5_copyFrom 74 = .ok (.aload_n 1, 1) := by decide +kernel
theorem dX5_copyFrom_75 : decode cX5_copyFrom 75 = .ok (.getfield 48, 3) := by decide +kernel
theorem dX5_copyFrom_78 : decode cX5_copyFrom 78 = .ok (.putfield 48, 3) := by decide +kernel
theorem dX5_copyFrom_81 : decode cX5_copyFrom 81 = .ok (.aload_n 0, 1) := by decide +kernel
theorem dX5_copyFrom_82 : decode cX5_copyFrom 82 = .ok (.aload_n 1, 1) := by decide +kernel
theorem dX5_copyFrom_83 : decode cX5_copyFrom 83 = .ok (.getfield 51, 3) := by decide +kernel
theorem dX5_copyFrom_86 : decode cX5_copyFrom 86 = .ok (.putfield 51, 3) := by decide +kernel
theorem dX5_copyFrom_89 : decode cX5_copyFrom 89 = .ok (.aload_n 0, 1) := by decide +kernel
theorem dX5_copyFrom_90 : decode cX5_copyFrom 90 = .ok (.aload_n 1, 1) := by decide +kernel
theorem dX5_copyFrom_91 : decode cX5_copyFrom 91 = .ok (.getfield 54, 3) := by decide +kernel
theorem dX5_copyFrom_94 : decode cX5_copyFrom 94 = .ok (.putfield 54, 3) := by decide +kernel
theorem dX5_copyFrom_97 : decode cX5_copyFrom 97 = .ok (.aload_n 0, 1) := by decide +kernel
theorem dX5_copyFrom_98 : decode cX5_copyFrom 98 = .ok (.aload_n 1, 1) := by decide +kernel
theorem dX5_copyFrom_99 : decode cX5_copyFrom 99 = .ok (.getfield 57, 3) := by decide +kernel
theorem dX5_copyFrom_102 : decode cX5_copyFrom 102 = .ok (.putfield 57, 3) := by decide +kernel
theorem dX5_copyFrom_105 : decode cX5_copyFrom 105 = .ok (.return_, 1) := by decide +kernel
theorem dX5_clear_0 : decode cX5_clear 0 = .ok (.aload_n 0, 1) := by decide +kernel
theorem dX5_clear_1 : decode cX5_clear 1 = .ok (.getfield 12, 3) := by decide +kernel
theorem dX5_clear_4 : decode cX5_clear 4 = .ok (.iconst 0, 1) := by decide +kernel
theorem dX5_clear_5 : decode cX5_clear 5 = .ok (.putfield 70, 3) := by decide +kernel
theorem dX5_clear_8 : decode cX5_clear 8 = .ok (.aload_n 0, 1) := by decide +kernel
theorem dX5_clear_9 : decode cX5_clear 9 = .ok (.getfield 12, 3) := by decide +kernel
theorem dX5_clear_12 : decode cX5_clear 12 = .ok (.invokevirtual 73, 3) := by decide +kernel
theorem dX5_clear_15 : decode cX5_clear 15 = .ok (.aload_n 0, 1) := by decide +kernel
theorem dX5_clear_16 : decode cX5_clear 16 = .ok (.getfield 21, 3) := by decide +kernel
theorem dX5_clear_19 : decode cX5_clear 19 = .ok (.invokevirtual 76, 3) := by decide +kernel
theorem dX5_clear_22 : decode cX5_clear 22 = .ok (.aload_n 0, 1) := by decide +kernel
theorem dX5_clear_23 : decode cX5_clear 23 = .ok (.iconst 0, 1) := by decide +kernel
theorem dX5_clear_24 : decode cX5_clear 24 = .ok (.putfield 32, 3) := by decide +kernel
theorem dX5_clear_27 : decode cX5_clear 27 = .ok (.aload_n 0, 1) := by decide +kernel
theorem dX5_clear_28 : decode cX5_clear 28 = .ok (.iconst 1, 1) := by decide +kernel
theorem dX5_clear_29 : decode cX5_clear 29 = .ok (.putfield 36, 3) := by decide +kernel
theorem dX5_clear_32 : decode cX5_clear 32 = .ok (.aload_n 0, 1) := by decide +kernel
theorem dX5_clear_33 : decode cX5_clear 33 = .ok (.iconst 1, 1) := by decide +kernel
theorem dX5_clear_34 : decode cX5_clear 34 = .ok (.putfield 39, 3) := by decide +kernel
theorem dX5_clear_37 : decode cX5_clear 37 = .ok (.aload_n 0, 1) := by decide +kernel
theorem dX5_clear_38 : decode cX5_clear 38 = .ok (.iconst 0, 1) := by decide +kernel
theorem dX5_clear_39 : decode cX5_clear 39 = .ok (.putfield 42, 3) := by decide +kernel
theorem dX5_clear_42 : decode cX5_clear 42 = .ok (.aload_n 0, 1) := by decide +kernel
theorem dX5_clear_43 : decode cX5_clear 43 = .ok (.iconst 0, 1) := by decide +kernel
theorem dX5_clear_44 : decode cX5_clear 44 = .ok (.putfield 45, 3) := by decide +kernel
theorem dX5_clear_47 : decode cX5_clear 47 = .ok (.aload_n 0, 1) := by decide +kernel
theorem dX5_clear_48 : decode cX5_clear 48 = .ok (.iconst 0, 1) := by decide +kernel
theorem dX5_clear_49 : decode cX5_clear 49 = .ok (.putfield 48, 3) := by decide +kernel
theorem dX5_clear_52 : decode cX5_clear 52 = .ok (.aload_n 0, 1) := by decide +kernel
theorem dX5_clear_53 : decode cX5_clear 53 = .ok (.iconst 0, 1) := by decide +kernel
theorem dX5_clear_54 : decode cX5_clear 54 = .ok (.putfield 51, 3) := by decide +kernel
theorem dX5_clear_57 : decode cX5_clear 57 = .ok (.aload_n 0, 1) := by decide +kernel
theorem dX5_clear_58 : decode cX5_clear 58 = .ok (.iconst 0, 1) := by decide +kernel
theorem dX5_clear_59 : decode cX5_clear 59 = .ok (.putfield 54, 3) := by decide +kernel
theorem dX5_clear_62 : decode cX5_clear 62 = .ok (.aload_n 0, 1) := by decide +kernel
theorem dX5_clear_63 : decode cX5_clear 63 = .ok (.iconst 0, 1) := by decide +kernel
theorem dX5_clear_64 : decode cX5_clear 64 = .ok (.putfield 57, 3) := by decide +kernel
theorem dX5_clear_67 : decode cX5_clear 67 = .ok (.return_, 1) := by decide +kernel
theorem dX5_firstKept_0 : decode cX5_firstKept 0 = .ok (.iconst 0, 1) := by decide +kernel
theorem dX5_firstKept_1 : decode cX5_firstKept 1 = .ok (.aload_n 0, 1) := by decide +kernel
theorem dX5_firstKept_2 : decode cX5_firstKept 2 = .ok (.getfield 45, 3) := by decide +kernel
theorem dX5_firstKept_5 : decode cX5_firstKept 5 = .ok (.bipush 24, 2) := by decide +kernel
theorem dX5_firstKept_7 : decode cX5_firstKept 7 = .ok (.isub, 1) := by decide +kernel
theorem dX5_firstKept_8 : decode cX5_firstKept 8 = .ok (.invokestatic 79, 3) := by decide +kernel
theorem dX5_firstKept_11 : decode cX5_firstKept 11 = .ok (.ireturn, 1) := by decide +kernel
theorem dX5_rowOf_0 : decode cX5_rowOf 0 = .ok (.iload_n 1, 1) := by decide +kernel
theorem dX5_rowOf_1 : decode cX5_rowOf 1 = .ok (.bipush 24, 2) := by decide +kernel
theorem dX5_rowOf_3 : decode cX5_rowOf 3 = .ok (.invokestatic 85, 3) := by decide +kernel
theorem dX5_rowOf_6 : decode cX5_rowOf 6 = .ok (.ireturn, 1) := by decide +kernel
theorem dX5_countRow_0 : decode cX5_countRow 0 = .ok (.aload_n 3, 1) := by decide +kernel
theorem dX5_countRow_1 : decode cX5_countRow 1 = .ok (.iload_n 2, 1) := by decide +kernel
theorem dX5_countRow_2 : decode cX5_countRow 2 = .ok (.aload_n 0, 1) := by decide +kernel
theorem dX5_countRow_3 : decode cX5_countRow 3 = .ok (.getfield 12, 3) := by decide +kernel
theorem dX5_countRow_6 : decode cX5_countRow 6 = .ok (.getfield 88, 3) := by decide +kernel
theorem dX5_countRow_9 : decode cX5_countRow 9 = .ok (.aload_n 0, 1) := by decide +kernel
theorem dX5_countRow_10 : decode cX5_countRow 10 = .ok (.getfield 28, 3) := by decide +kernel
theorem dX5_countRow_13 : decode cX5_countRow 13 = .ok (.getfield 92, 3) := by decide +kernel
theorem dX5_countRow_16 : decode cX5_countRow 16 = .ok (.iload_n 1, 1) := by decide +kernel
theorem dX5_countRow_17 : decode cX5_countRow 17 = .ok (.bipush 10, 2) := by decide +kernel
theorem dX5_countRow_19 : decode cX5_countRow 19 = .ok (.imul, 1) := by decide +kernel
theorem dX5_countRow_20 : decode cX5_countRow 20 = .ok (.aload_n 0, 1) := by decide +kernel
theorem dX5_countRow_21 : decode cX5_countRow 21 = .ok (.getfield 32, 3) := by decide +kernel
theorem dX5_countRow_24 : decode cX5_countRow 24 = .ok (.invokevirtual 95, 3) := by decide +kernel
theorem dX5_countRow_27 : decode cX5_countRow 27 = .ok (.return_, 1) := by decide +kernel
theorem dX5_tellLevel_0 : decode cX5_tellLevel 0 = .ok (.aload_n 2, 1) := by decide +kernel
theorem dX5_tellLevel_1 : decode cX5_tellLevel 1 = .ok (.aload_n 0, 1) := by decide +kernel
theorem dX5_tellLevel_2 : decode cX5_tellLevel 2 = .ok (.getfield 28, 3) := by decide +kernel
theorem dX5_tellLevel_5 : decode cX5_tellLevel 5 = .ok (.getfield 100, 3) := by decide +kernel
theorem dX5_tellLevel_8 : decode cX5_tellLevel 8 = .ok (.iload_n 1, 1) := by decide +kernel
theorem dX5_tellLevel_9 : decode cX5_tellLevel 9 = .ok (.iaload, 1) := by decide +kernel
theorem dX5_tellLevel_10 : decode cX5_tellLevel 10 = .ok (.aload_n 0, 1) := by decide +kernel
theorem dX5_tellLevel_11 : decode cX5_tellLevel 11 = .ok (.getfield 12, 3) := by decide +kernel
theorem dX5_tellLevel_14 : decode cX5_tellLevel 14 = .ok (.getfield 88, 3) := by decide +kernel
theorem dX5_tellLevel_17 : decode cX5_tellLevel 17 = .ok (.aload_n 0, 1) := by decide +kernel
theorem dX5_tellLevel_18 : decode cX5_tellLevel 18 = .ok (.getfield 28, 3) := by decide +kernel
theorem dX5_tellLevel_21 : decode cX5_tellLevel 21 = .ok (.getfield 92, 3) := by decide +kernel
theorem dX5_tellLevel_24 : decode cX5_tellLevel 24 = .ok (.iload_n 1, 1) := by decide +kernel
theorem dX5_tellLevel_25 : decode cX5_tellLevel 25 = .ok (.bipush 10, 2) := by decide +kernel
theorem dX5_tellLevel_27 : decode cX5_tellLevel 27 = .ok (.imul, 1) := by decide +kernel
theorem dX5_tellLevel_28 : decode cX5_tellLevel 28 = .ok (.aload_n 0, 1) := by decide +kernel
theorem dX5_tellLevel_29 : decode cX5_tellLevel 29 = .ok (.getfield 32, 3) := by decide +kernel
theorem dX5_tellLevel_32 : decode cX5_tellLevel 32 = .ok (.invokevirtual 95, 3) := by decide +kernel
theorem dX5_tellLevel_35 : decode cX5_tellLevel 35 = .ok (.aload_n 0, 1) := by decide +kernel
theorem dX5_tellLevel_36 : decode cX5_tellLevel 36 = .ok (.getfield 28, 3) := by decide +kernel
theorem dX5_tellLevel_39 : decode cX5_tellLevel 39 = .ok (.getfield 103, 3) := by decide +kernel
theorem dX5_tellLevel_42 : decode cX5_tellLevel 42 = .ok (.iload_n 1, 1) := by decide +kernel
theorem dX5_tellLevel_43 : decode cX5_tellLevel 43 = .ok (.aload_n 2, 1) := by decide +kernel
theorem dX5_tellLevel_44 : decode cX5_tellLevel 44 = .ok (.getfield 106, 3) := by decide +kernel
theorem dX5_tellLevel_47 : decode cX5_tellLevel 47 = .ok (.iastore, 1) := by decide +kernel
theorem dX5_tellLevel_48 : decode cX5_tellLevel 48 = .ok (.aload_n 0, 1) := by decide +kernel
theorem dX5_tellLevel_49 : decode cX5_tellLevel 49 = .ok (.getfield 28, 3) := by decide +kernel
theorem dX5_tellLevel_52 : decode cX5_tellLevel 52 = .ok (.getfield 108, 3) := by decide +kernel
theorem dX5_tellLevel_55 : decode cX5_tellLevel 55 = .ok (.iload_n 1, 1) := by decide +kernel
theorem dX5_tellLevel_56 : decode cX5_tellLevel 56 = .ok (.aload_n 2, 1) := by decide +kernel
theorem dX5_tellLevel_57 : decode cX5_tellLevel 57 = .ok (.getfield 111, 3) := by decide +kernel
theorem dX5_tellLevel_60 : decode cX5_tellLevel 60 = .ok (.ifCond .eq 7, 3) := by decide +kernel
theorem dX5_tellLevel_63 : decode cX5_tellLevel 63 = .ok (.iconst 1, 1) := by decide +kernel
theorem dX5_tellLevel_64 : decode cX5_tellLevel 64 = .ok (.goto 4, 3) := by decide +kernel
theorem dX5_tellLevel_67 : decode cX5_tellLevel 67 = .ok (.iconst 0, 1) := by decide +kernel
theorem dX5_tellLevel_68 : decode cX5_tellLevel 68 = .ok (.iastore, 1) := by decide +kernel
theorem dX5_tellLevel_69 : decode cX5_tellLevel 69 = .ok (.aload_n 0, 1) := by decide +kernel
theorem dX5_tellLevel_70 : decode cX5_tellLevel 70 = .ok (.getfield 28, 3) := by decide +kernel
theorem dX5_tellLevel_73 : decode cX5_tellLevel 73 = .ok (.getfield 114, 3) := by decide +kernel
theorem dX5_tellLevel_76 : decode cX5_tellLevel 76 = .ok (.iload_n 1, 1) := by decide +kernel
theorem dX5_tellLevel_77 : decode cX5_tellLevel 77 = .ok (.aload_n 2, 1) := by decide +kernel
theorem dX5_tellLevel_78 : decode cX5_tellLevel 78 = .ok (.getfield 117, 3) := by decide +kernel
theorem dX5_tellLevel_81 : decode cX5_tellLevel 81 = .ok (.iastore, 1) := by decide +kernel
theorem dX5_tellLevel_82 : decode cX5_tellLevel 82 = .ok (.return_, 1) := by decide +kernel
theorem dX5_openRow_0 : decode cX5_openRow 0 = .ok (.aload_n 0, 1) := by decide +kernel
theorem dX5_openRow_1 : decode cX5_openRow 1 = .ok (.aload_n 0, 1) := by decide +kernel
theorem dX5_openRow_2 : decode cX5_openRow 2 = .ok (.getfield 45, 3) := by decide +kernel
theorem dX5_openRow_5 : decode cX5_openRow 5 = .ok (.invokevirtual 120, 3) := by decide +kernel
theorem dX5_openRow_8 : decode cX5_openRow 8 = .ok (.istore_n 1, 1) := by decide +kernel
theorem dX5_openRow_9 : decode cX5_openRow 9 = .ok (.aload_n 0, 1) := by decide +kernel
theorem dX5_openRow_10 : decode cX5_openRow 10 = .ok (.getfield 12, 3) := by decide +kernel
theorem dX5_openRow_13 : decode cX5_openRow 13 = .ok (.aload_n 0, 1) := by decide +kernel
theorem dX5_openRow_14 : decode cX5_openRow 14 = .ok (.getfield 28, 3) := by decide +kernel
theorem dX5_openRow_17 : decode cX5_openRow 17 = .ok (.getfield 92, 3) := by decide +kernel
theorem dX5_openRow_20 : decode cX5_openRow 20 = .ok (.iload_n 1, 1) := by decide +kernel
theorem dX5_openRow_21 : decode cX5_openRow 21 = .ok (.bipush 10, 2) := by decide +kernel
theorem dX5_openRow_23 : decode cX5_openRow 23 = .ok (.imul, 1) := by decide +kernel
theorem dX5_openRow_24 : decode cX5_openRow 24 = .ok (.invokevirtual 124, 3) := by decide +kernel
theorem dX5_openRow_27 : decode cX5_openRow 27 = .ok (.aload_n 0, 1) := by decide +kernel
theorem dX5_openRow_28 : decode cX5_openRow 28 = .ok (.getfield 28, 3) := by decide +kernel
theorem dX5_openRow_31 : decode cX5_openRow 31 = .ok (.getfield 128, 3) := by decide +kernel
theorem dX5_openRow_34 : decode cX5_openRow 34 = .ok (.iload_n 1, 1) := by decide +kernel
theorem dX5_openRow_35 : decode cX5_openRow 35 = .ok (.aload_n 0, 1) := by decide +kernel
theorem dX5_openRow_36 : decode cX5_openRow 36 = .ok (.getfield 12, 3) := by decide +kernel
theorem dX5_openRow_39 : decode cX5_openRow 39 = .ok (.getfield 131, 3) := by decide +kernel
theorem dX5_openRow_42 : decode cX5_openRow 42 = .ok (.iastore, 1) := by decide +kernel
theorem dX5_openRow_43 : decode cX5_openRow 43 = .ok (.aload_n 0, 1) := by decide +kernel
theorem dX5_openRow_44 : decode cX5_openRow 44 = .ok (.getfield 28, 3) := by decide +kernel
theorem dX5_openRow_47 : decode cX5_openRow 47 = .ok (.getfield 133, 3) := by decide +kernel
theorem dX5_openRow_50 : decode cX5_openRow 50 = .ok (.iload_n 1, 1) := by decide +kernel
theorem dX5_openRow_51 : decode cX5_openRow 51 = .ok (.aload_n 0, 1) := by decide +kernel
theorem dX5_openRow_52 : decode cX5_openRow 52 = .ok (.getfield 12, 3) := by decide +kernel
theorem dX5_openRow_55 : decode cX5_openRow 55 = .ok (.iconst 1, 1) := by decide +kernel
theorem dX5_openRow_56 : decode cX5_openRow 56 = .ok (.invokevirtual 136, 3) := by decide +kernel
theorem dX5_openRow_59 : decode cX5_openRow 59 = .ok (.iastore, 1) := by decide +kernel
theorem dX5_openRow_60 : decode cX5_openRow 60 = .ok (.aload_n 0, 1) := by decide +kernel
theorem dX5_openRow_61 : decode cX5_openRow 61 = .ok (.getfield 28, 3) := by decide +kernel
theorem dX5_openRow_64 : decode cX5_openRow 64 = .ok (.getfield 139, 3) := by decide +kernel
theorem dX5_openRow_67 : decode cX5_openRow 67 = .ok (.iload_n 1, 1) := by decide +kernel
theorem dX5_openRow_68 : decode cX5_openRow 68 = .ok (.aload_n 0, 1) := by decide +kernel
theorem dX5_openRow_69 : decode cX5_openRow 69 = .ok (.getfield 12, 3) := by decide +kernel
theorem dX5_openRow_72 : decode cX5_openRow 72 = .ok (.iconst 2, 1) := by decide +kernel
theorem dX5_openRow_73 : decode cX5_openRow 73 = .ok (.invokevirtual 136, 3) := by decide +kernel
theorem dX5_openRow_76 : decode cX5_openRow 76 = .ok (.iastore, 1) := by decide +kernel
theorem dX5_openRow_77 : decode cX5_openRow 77 = .ok (.aload_n 0, 1) := by decide +kernel
theorem dX5_openRow_78 : decode cX5_openRow 78 = .ok (.getfield 28, 3) := by decide +kernel
theorem dX5_openRow_81 : decode cX5_openRow 81 = .ok (.getfield 100, 3) := by decide +kernel
theorem dX5_openRow_84 : decode cX5_openRow 84 = .ok (.iload_n 1, 1) := by decide +kernel
theorem dX5_openRow_85 : decode cX5_openRow 85 = .ok (.aload_n 0, 1) := by decide +kernel
theorem dX5_openRow_86 : decode cX5_openRow 86 = .ok (.getfield 12, 3) := by decide +kernel
theorem dX5_openRow_89 : decode cX5_openRow 89 = .ok (.getfield 131, 3) := by decide +kernel
theorem dX5_openRow_92 : decode cX5_openRow 92 = .ok (.aload_n 0, 1) := by decide +kernel
theorem dX5_openRow_93 : decode cX5_openRow 93 = .ok (.getfield 12, 3) := by decide +kernel
theorem dX5_openRow_96 : decode cX5_openRow 96 = .ok (.iconst 0, 1) := by decide +kernel
theorem dX5_openRow_97 : decode cX5_openRow 97 = .ok (.invokevirtual 136, 3) := by decide +kernel
theorem dX5_openRow_100 : decode cX5_openRow 100 = .ok (.iand, 1) := by decide +kernel
theorem dX5_openRow_101 : decode cX5_openRow 101 = .ok (.iastore, 1) := by decide +kernel
theorem dX5_openRow_102 : decode cX5_openRow 102 = .ok (.aload_n 0, 1) := by decide +kernel
theorem dX5_openRow_103 : decode cX5_openRow 103 = .ok (.getfield 28, 3) := by decide +kernel
theorem dX5_openRow_106 : decode cX5_openRow 106 = .ok (.getfield 142, 3) := by decide +kernel
theorem dX5_openRow_109 : decode cX5_openRow 109 = .ok (.iload_n 1, 1) := by decide +kernel
theorem dX5_openRow_110 : decode cX5_openRow 110 = .ok (.iconst 0, 1) := by decide +kernel
theorem dX5_openRow_111 : decode cX5_openRow 111 = .ok (.iastore, 1) := by decide +kernel
theorem dX5_openRow_112 : decode cX5_openRow 112 = .ok (.iload_n 1, 1) := by decide +kernel
theorem dX5_openRow_113 : decode cX5_openRow 113 = .ok (.ireturn, 1) := by decide +kernel
theorem dX5_countStrikes_0 : decode cX5_countStrikes 0 = .ok (.iconst 0, 1) := by decide +kernel
theorem dX5_countStrikes_1 : decode cX5_countStrikes 1 = .ok (.istore_n 2, 1) := by decide +kernel
theorem dX5_countStrikes_2 : decode cX5_countStrikes 2 = .ok (.iload_n 2, 1) := by decide +kernel
theorem dX5_countStrikes_3 : decode cX5_countStrikes 3 = .ok (.aload_n 0, 1) := by decide +kernel
theorem dX5_countStrikes_4 : decode cX5_countStrikes 4 = .ok (.getfield 12, 3) := by decide +kernel
theorem dX5_countStrikes_7 : decode cX5_countStrikes 7 = .ok (.getfield 70, 3) := by decide +kernel
theorem dX5_countStrikes_10 : decode cX5_countStrikes 10 = .ok (.if_icmp .ge 102, 3) := by decide +kernel
theorem dX5_countStrikes_13 : decode cX5_countStrikes 13 = .ok (.aload_n 0, 1) := by decide +kernel
theorem dX5_countStrikes_14 : decode cX5_countStrikes 14 = .ok (.getfield 28, 3) := by decide +kernel
theorem dX5_countStrikes_17 : decode cX5_countStrikes 17 = .ok (.getfield 103, 3) := by decide +kernel
theorem dX5_countStrikes_20 : decode cX5_countStrikes 20 = .ok (.iload_n 1, 1) := by decide +kernel
theorem dX5_countStrikes_21 : decode cX5_countStrikes 21 = .ok (.iaload, 1) := by decide +kernel
theorem dX5_countStrikes_22 : decode cX5_countStrikes 22 = .ok (.iload_n 2, 1) := by decide +kernel
theorem dX5_countStrikes_23 : decode cX5_countStrikes 23 = .ok (.invokestatic 145, 3) := by decide +kernel
theorem dX5_countStrikes_26 : decode cX5_countStrikes 26 = .ok (.ifCond .eq 26, 3) := by decide +kernel
theorem dX5_countStrikes_29 : decode cX5_countStrikes 29 = .ok (.aload_n 0, 1) := by decide +kernel
theorem dX5_countStrikes_30 : decode cX5_countStrikes 30 = .ok (.getfield 12, 3) := by decide +kernel
theorem dX5_countStrikes_33 : decode cX5_countStrikes 33 = .ok (.getfield 149, 3) := by decide +kernel
theorem dX5_countStrikes_36 : decode cX5_countStrikes 36 = .ok (.iload_n 2, 1) := by decide +kernel
theorem dX5_countStrikes_37 : decode cX5_countStrikes 37 = .ok (.iconst 0, 1) := by decide +kernel
theorem dX5_countStrikes_38 : decode cX5_countStrikes 38 = .ok (.iastore, 1) := by decide +kernel
theorem dX5_countStrikes_39 : decode cX5_countStrikes 39 = .ok (.aload_n 0, 1) := by decide +kernel
theorem dX5_countStrikes_40 : decode cX5_countStrikes 40 = .ok (.getfield 12, 3) := by decide +kernel
theorem dX5_countStrikes_43 : decode cX5_countStrikes 43 = .ok (.getfield 152, 3) := by decide +kernel
theorem dX5_countStrikes_46 : decode cX5_countStrikes 46 = .ok (.iload_n 2, 1) := by decide +kernel
theorem dX5_countStrikes_47 : decode cX5_countStrikes 47 = .ok (.iconst (-1), 1) := by decide +kernel
theorem dX5_countStrikes_48 : decode cX5_countStrikes 48 = .ok (.iastore, 1) := by decide +kernel
theorem dX5_countStrikes_49 : decode cX5_countStrikes 49 = .ok (.goto 57, 3) := by decide +kernel
theorem dX5_countStrikes_52 : decode cX5_countStrikes 52 = .ok (.aload_n 0, 1) := by decide +kernel
theorem dX5_countStrikes_53 : decode cX5_countStrikes 53 = .ok (.getfield 28, 3) := by decide +kernel
theorem dX5_countStrikes_56 : decode cX5_countStrikes 56 = .ok (.getfield 100, 3) := by decide +kernel
theorem dX5_countStrikes_59 : decode cX5_countStrikes 59 = .ok (.iload_n 1, 1) := by decide +kernel
theorem dX5_countStrikes_60 : decode cX5_countStrikes 60 = .ok (.iaload, 1) := by decide +kernel
theorem dX5_countStrikes_61 : decode cX5_countStrikes 61 = .ok (.iload_n 2, 1) := by decide +kernel
theorem dX5_countStrikes_62 : decode cX5_countStrikes 62 = .ok (.invokestatic 145, 3) := by decide +kernel
theorem dX5_countStrikes_65 : decode cX5_countStrikes 65 = .ok (.ifCond .eq 41, 3) := by decide +kernel
theorem dX5_countStrikes_68 : decode cX5_countStrikes 68 = .ok (.aload_n 0, 1) := by decide +kernel
theorem dX5_countStrikes_69 : decode cX5_countStrikes 69 = .ok (.getfield 12, 3) := by decide +kernel
theorem dX5_countStrikes_72 : decode cX5_countStrikes 72 = .ok (.getfield 149, 3) := by decide +kernel
theorem dX5_countStrikes_75 : decode cX5_countStrikes 75 = .ok (.iload_n 2, 1) := by decide +kernel
theorem dX5_countStrikes_76 : decode cX5_countStrikes 76 = .ok (.iaload, 1) := by decide +kernel
theorem dX5_countStrikes_77 : decode cX5_countStrikes 77 = .ok (.ifCond .ne 16, 3) := by decide +kernel
theorem dX5_countStrikes_80 : decode cX5_countStrikes 80 = .ok (.aload_n 0, 1) := by decide +kernel
theorem dX5_countStrikes_81 : decode cX5_countStrikes 81 = .ok (.getfield 12, 3) := by decide +kernel
theorem dX5_countStrikes_84 : decode cX5_countStrikes 84 = .ok (.getfield 152, 3) := by decide +kernel
theorem dX5_countStrikes_87 : decode cX5_countStrikes 87 = .ok (.iload_n 2, 1) := by decide +kernel
theorem dX5_countStrikes_88 : decode cX5_countStrikes 88 = .ok (.aload_n 0, 1) := by decide +kernel
theorem dX5_countStrikes_89 : decode cX5_countStrikes 89 = .ok (.getfield 45, 3) := by decide +kernel
theorem dX5_countStrikes_92 : decode cX5_countStrikes 92 = .ok (.iastore, 1) := by decide +kernel
theorem dX5_countStrikes_93 : decode cX5_countStrikes 93 = .ok (.aload_n 0, 1) := by decide +kernel
theorem dX5_countStrikes_94 : decode cX5_countStrikes 94 = .ok (.getfield 12, 3) := by decide +kernel
theorem dX5_countStrikes_97 : decode cX5_countStrikes 97 = .ok (.getfield 149, 3) := by decide +kernel
theorem dX5_countStrikes_100 : decode cX5_countStrikes 100 = .ok (.iload_n 2, 1) := by decide +kernel
theorem dX5_countStrikes_101 : decode cX5_countStrikes 101 = .ok (.dup2, 1) := by decide +kernel
theorem dX5_countStrikes_102 : decode cX5_countStrikes 102 = .ok (.iaload, 1) := by decide +kernel
theorem dX5_countStrikes_103 : decode cX5_countStrikes 103 = .ok (.iconst 1, 1) := by decide +kernel
theorem dX5_countStrikes_104 : decode cX5_countStrikes 104 = .ok (.iadd, 1) := by decide +kernel
theorem dX5_countStrikes_105 : decode cX5_countStrikes 105 = .ok (.iastore, 1) := by decide +kernel
theorem dX5_countStrikes_106 : decode cX5_countStrikes 106 = .ok (.iinc 2 1, 3) := by decide +kernel
theorem dX5_countStrikes_109 : decode cX5_countStrikes 109 = .ok (.goto (-107), 3) := by decide +kernel
theorem dX5_countStrikes_112 : decode cX5_countStrikes 112 = .ok (.return_, 1) := by decide +kernel
theorem dX5_countAgreed_0 : decode cX5_countAgreed 0 = .ok (.aload_n 0, 1) := by decide +kernel
theorem dX5_countAgreed_1 : decode cX5_countAgreed 1 = .ok (.getfield 28, 3) := by decide +kernel
theorem dX5_countAgreed_4 : decode cX5_countAgreed 4 = .ok (.getfield 133, 3) := by decide +kernel
theorem dX5_countAgreed_7 : decode cX5_countAgreed 7 = .ok (.iload_n 1, 1) := by decide +kernel
theorem dX5_countAgreed_8 : decode cX5_countAgreed 8 = .ok (.iaload, 1) := by decide +kernel
theorem dX5_countAgreed_9 : decode cX5_countAgreed 9 = .ok (.aload_n 0, 1) := by decide +kernel
theorem dX5_countAgreed_10 : decode cX5_countAgreed 10 = .ok (.getfield 28, 3) := by decide +kernel
theorem dX5_countAgreed_13 : decode cX5_countAgreed 13 = .ok (.getfield 128, 3) := by decide +kernel
theorem dX5_countAgreed_16 : decode cX5_countAgreed 16 = .ok (.iload_n 1, 1) := by decide +kernel
theorem dX5_countAgreed_17 : decode cX5_countAgreed 17 = .ok (.iaload, 1) := by decide +kernel
theorem dX5_countAgreed_18 : decode cX5_countAgreed 18 = .ok (.iand, 1) := by decide +kernel
theorem dX5_countAgreed_19 : decode cX5_countAgreed 19 = .ok (.istore_n 2, 1) := by decide +kernel
theorem dX5_countAgreed_20 : decode cX5_countAgreed 20 = .ok (.iconst 0, 1) := by decide +kernel
theorem dX5_countAgreed_21 : decode cX5_countAgreed 21 = .ok (.istore_n 3, 1) := by decide +kernel
theorem dX5_countAgreed_22 : decode cX5_countAgreed 22 = .ok (.iload_n 3, 1) := by decide +kernel
theorem dX5_countAgreed_23 : decode cX5_countAgreed 23 = .ok (.aload_n 0, 1) := by decide +kernel
theorem dX5_countAgreed_24 : decode cX5_countAgreed 24 = .ok (.getfield 12, 3) := by decide +kernel
theorem dX5_countAgreed_27 : decode cX5_countAgreed 27 = .ok (.getfield 70, 3) := by decide +kernel
theorem dX5_countAgreed_30 : decode cX5_countAgreed 30 = .ok (.if_icmp .ge 79, 3) := by decide +kernel
theorem dX5_countAgreed_33 : decode cX5_countAgreed 33 = .ok (.iload_n 2, 1) := by decide +kernel
theorem dX5_countAgreed_34 : decode cX5_countAgreed 34 = .ok (.iload_n 3, 1) := by decide +kernel
theorem dX5_countAgreed_35 : decode cX5_countAgreed 35 = .ok (.invokestatic 145, 3) := by decide +kernel
theorem dX5_countAgreed_38 : decode cX5_countAgreed 38 = .ok (.ifCond .eq 65, 3) := by decide +kernel
theorem dX5_countAgreed_41 : decode cX5_countAgreed 41 = .ok (.aload_n 0, 1) := by decide +kernel
theorem dX5_countAgreed_42 : decode cX5_countAgreed 42 = .ok (.getfield 28, 3) := by decide +kernel
theorem dX5_countAgreed_45 : decode cX5_countAgreed 45 = .ok (.getfield 92, 3) := by decide +kernel
theorem dX5_countAgreed_48 : decode cX5_countAgreed 48 = .ok (.iload_n 1, 1) := by decide +kernel
theorem dX5_countAgreed_49 : decode cX5_countAgreed 49 = .ok (.bipush 10, 2) := by decide +kernel
theorem dX5_countAgreed_51 : decode cX5_countAgreed 51 = .ok (.imul, 1) := by decide +kernel
theorem dX5_countAgreed_52 : decode cX5_countAgreed 52 = .ok (.iload_n 3, 1) := by decide +kernel
theorem dX5_countAgreed_53 : decode cX5_countAgreed 53 = .ok (.iadd, 1) := by decide +kernel
theorem dX5_countAgreed_54 : decode cX5_countAgreed 54 = .ok (.iaload, 1) := by decide +kernel
theorem dX5_countAgreed_55 : decode cX5_countAgreed 55 = .ok (.aload_n 0, 1) := by decide +kernel
theorem dX5_countAgreed_56 : decode cX5_countAgreed 56 = .ok (.getfield 28, 3) := by decide +kernel
theorem dX5_countAgreed_59 : decode cX5_countAgreed 59 = .ok (.getfield 114, 3) := by decide +kernel
theorem dX5_countAgreed_62 : decode cX5_countAgreed 62 = .ok (.iload_n 1, 1) := by decide +kernel
theorem dX5_countAgreed_63 : decode cX5_countAgreed 63 = .ok (.iaload, 1) := by decide +kernel
theorem dX5_countAgreed_64 : decode cX5_countAgreed 64 = .ok (.isub, 1) := by decide +kernel
theorem dX5_countAgreed_65 : decode cX5_countAgreed 65 = .ok (.istore 4, 2) := by decide +kernel
theorem dX5_countAgreed_67 : decode cX5_countAgreed 67 = .ok (.aload_n 0, 1) := by decide +kernel
theorem dX5_countAgreed_68 : decode cX5_countAgreed 68 = .ok (.getfield 12, 3) := by decide +kernel
theorem dX5_countAgreed_71 : decode cX5_countAgreed 71 = .ok (.getfield 155, 3) := by decide +kernel
theorem dX5_countAgreed_74 : decode cX5_countAgreed 74 = .ok (.iload_n 3, 1) := by decide +kernel
theorem dX5_countAgreed_75 : decode cX5_countAgreed 75 = .ok (.iload 4, 2) := by decide +kernel
theorem dX5_countAgreed_77 : decode cX5_countAgreed 77 = .ok (.invokestatic 158, 3) := by decide +kernel
theorem dX5_countAgreed_80 : decode cX5_countAgreed 80 = .ok (.aload_n 0, 1) := by decide +kernel
theorem dX5_countAgreed_81 : decode cX5_countAgreed 81 = .ok (.getfield 32, 3) := by decide +kernel
theorem dX5_countAgreed_84 : decode cX5_countAgreed 84 = .ok (.if_icmp .gt 17, 3) := by decide +kernel
theorem dX5_countAgreed_87 : decode cX5_countAgreed 87 = .ok (.aload_n 0, 1) := by decide +kernel
theorem dX5_countAgreed_88 : decode cX5_countAgreed 88 = .ok (.getfield 12, 3) := by decide +kernel
theorem dX5_countAgreed_91 : decode cX5_countAgreed 91 = .ok (.getfield 155, 3) := by decide +kernel
theorem dX5_countAgreed_94 : decode cX5_countAgreed 94 = .ok (.iload_n 3, 1) := by decide +kernel
theorem dX5_countAgreed_95 : decode cX5_countAgreed 95 = .ok (.iaload, 1) := by decide +kernel
theorem dX5_countAgreed_96 : decode cX5_countAgreed 96 = .ok (.iconst 1, 1) := by decide +kernel
theorem dX5_countAgreed_97 : decode cX5_countAgreed 97 = .ok (.iadd, 1) := by decide +kernel
theorem dX5_countAgreed_98 : decode cX5_countAgreed 98 = .ok (.goto 4, 3) := by decide +kernel
theorem dX5_countAgreed_101 : decode cX5_countAgreed 101 = .ok (.iconst 0, 1) := by decide +kernel
theorem dX5_countAgreed_102 : decode cX5_countAgreed 102 = .ok (.iastore, 1) := by decide +kernel
theorem dX5_countAgreed_103 : decode cX5_countAgreed 103 = .ok (.iinc 3 1, 3) := by decide +kernel
theorem dX5_countAgreed_106 : decode cX5_countAgreed 106 = .ok (.goto (-84), 3) := by decide +kernel
theorem dX5_countAgreed_109 : decode cX5_countAgreed 109 = .ok (.return_, 1) := by decide +kernel
theorem dX5_trustAgain_0 : decode cX5_trustAgain 0 = .ok (.iconst 0, 1) := by decide +kernel
theorem dX5_trustAgain_1 : decode cX5_trustAgain 1 = .ok (.istore_n 1, 1) := by decide +kernel
theorem dX5_trustAgain_2 : decode cX5_trustAgain 2 = .ok (.iload_n 1, 1) := by decide +kernel
theorem dX5_trustAgain_3 : decode cX5_trustAgain 3 = .ok (.aload_n 0, 1) := by decide +kernel
theorem dX5_trustAgain_4 : decode cX5_trustAgain 4 = .ok (.getfield 12, 3) := by decide +kernel
theorem dX5_trustAgain_7 : decode cX5_trustAgain 7 = .ok (.getfield 70, 3) := by decide +kernel
theorem dX5_trustAgain_10 : decode cX5_trustAgain 10 = .ok (.if_icmp .ge 58, 3) := by decide +kernel
theorem dX5_trustAgain_13 : decode cX5_trustAgain 13 = .ok (.aload_n 0, 1) := by decide +kernel
theorem dX5_trustAgain_14 : decode cX5_trustAgain 14 = .ok (.getfield 12, 3) := by decide +kernel
theorem dX5_trustAgain_17 : decode cX5_trustAgain 17 = .ok (.getfield 161, 3) := by decide +kernel
theorem dX5_trustAgain_20 : decode cX5_trustAgain 20 = .ok (.iload_n 1, 1) := by decide +kernel
theorem dX5_trustAgain_21 : decode cX5_trustAgain 21 = .ok (.iaload, 1) := by decide +kernel
theorem dX5_trustAgain_22 : decode cX5_trustAgain 22 = .ok (.iconst 1, 1) := by decide +kernel
theorem dX5_trustAgain_23 : decode cX5_trustAgain 23 = .ok (.if_icmp .ne 39, 3) := by decide +kernel
theorem dX5_trustAgain_26 : decode cX5_trustAgain 26 = .ok (.aload_n 0, 1) := by decide +kernel
theorem dX5_trustAgain_27 : decode cX5_trustAgain 27 = .ok (.getfield 12, 3) := by decide +kernel
theorem dX5_trustAgain_30 : decode cX5_trustAgain 30 = .ok (.getfield 155, 3) := by decide +kernel
theorem dX5_trustAgain_33 : decode cX5_trustAgain 33 = .ok (.iload_n 1, 1) := by decide +kernel
theorem dX5_trustAgain_34 : decode cX5_trustAgain 34 = .ok (.iaload, 1) := by decide +kernel
theorem dX5_trustAgain_35 : decode cX5_trustAgain 35 = .ok (.aload_n 0, 1) := by decide +kernel
theorem dX5_trustAgain_36 : decode cX5_trustAgain 36 = .ok (.getfield 39, 3) := by decide +kernel
theorem dX5_trustAgain_39 : decode cX5_trustAgain 39 = .ok (.if_icmp .lt 23, 3) := by decide +kernel
theorem dX5_trustAgain_42 : decode cX5_trustAgain 42 = .ok (.aload_n 0, 1) := by decide +kernel
theorem dX5_trustAgain_43 : decode cX5_trustAgain 43 = .ok (.getfield 12, 3) := by decide +kernel
theorem dX5_trustAgain_46 : decode cX5_trustAgain 46 = .ok (.getfield 161, 3) := by decide +kernel
theorem dX5_trustAgain_49 : decode cX5_trustAgain 49 = .ok (.iload_n 1, 1) := by decide +kernel
theorem dX5_trustAgain_50 : decode cX5_trustAgain 50 = .ok (.iconst 0, 1) := by decide +kernel
theorem dX5_trustAgain_51 : decode cX5_trustAgain 51 = .ok (.iastore, 1) := by decide +kernel
theorem dX5_trustAgain_52 : decode cX5_trustAgain 52 = .ok (.aload_n 0, 1) := by decide +kernel
theorem dX5_trustAgain_53 : decode cX5_trustAgain 53 = .ok (.getfield 12, 3) := by decide +kernel
theorem dX5_trustAgain_56 : decode cX5_trustAgain 56 = .ok (.getfield 155, 3) := by decide +kernel
theorem dX5_trustAgain_59 : decode cX5_trustAgain 59 = .ok (.iload_n 1, 1) := by decide +kernel
theorem dX5_trustAgain_60 : decode cX5_trustAgain 60 = .ok (.iconst 0, 1) := by decide +kernel
theorem dX5_trustAgain_61 : decode cX5_trustAgain 61 = .ok (.iastore, 1) := by decide +kernel
theorem dX5_trustAgain_62 : decode cX5_trustAgain 62 = .ok (.iinc 1 1, 3) := by decide +kernel
theorem dX5_trustAgain_65 : decode cX5_trustAgain 65 = .ok (.goto (-63), 3) := by decide +kernel
theorem dX5_trustAgain_68 : decode cX5_trustAgain 68 = .ok (.return_, 1) := by decide +kernel
theorem dX5_dragVoters_0 : decode cX5_dragVoters 0 = .ok (.iconst 0, 1) := by decide +kernel
theorem dX5_dragVoters_1 : decode cX5_dragVoters 1 = .ok (.istore_n 2, 1) := by decide +kernel
theorem dX5_dragVoters_2 : decode cX5_dragVoters 2 = .ok (.iconst 0, 1) := by decide +kernel
theorem dX5_dragVoters_3 : decode cX5_dragVoters 3 = .ok (.istore_n 3, 1) := by decide +kernel
theorem dX5_dragVoters_4 : decode cX5_dragVoters 4 = .ok (.iload_n 3, 1) := by decide +kernel
theorem dX5_dragVoters_5 : decode cX5_dragVoters 5 = .ok (.aload_n 0, 1) := by decide +kernel
theorem dX5_dragVoters_6 : decode cX5_dragVoters 6 = .ok (.getfield 12, 3) := by decide +kernel
theorem dX5_dragVoters_9 : decode cX5_dragVoters 9 = .ok (.getfield 70, 3) := by decide +kernel
theorem dX5_dragVoters_12 : decode cX5_dragVoters 12 = .ok (.if_icmp .ge 57, 3) := by decide +kernel
theorem dX5_dragVoters_15 : decode cX5_dragVoters 15 = .ok (.aload_n 0, 1) := by decide +kernel
theorem dX5_dragVoters_16 : decode cX5_dragVoters 16 = .ok (.getfield 28, 3) := by decide +kernel
theorem dX5_dragVoters_19 : decode cX5_dragVoters 19 = .ok (.getfield 100, 3) := by decide +kernel
theorem dX5_dragVoters_22 : decode cX5_dragVoters 22 = .ok (.iload_n 1, 1) := by decide +kernel
theorem dX5_dragVoters_23 : decode cX5_dragVoters 23 = .ok (.iaload, 1) := by decide +kernel
theorem dX5_dragVoters_24 : decode cX5_dragVoters 24 = .ok (.iload_n 3, 1) := by decide +kernel
theorem dX5_dragVoters_25 : decode cX5_dragVoters 25 = .ok (.invokestatic 145, 3) := by decide +kernel
theorem dX5_dragVoters_28 : decode cX5_dragVoters 28 = .ok (.ifCond .eq 35, 3) := by decide +kernel
theorem dX5_dragVoters_31 : decode cX5_dragVoters 31 = .ok (.aload_n 0, 1) := by decide +kernel
theorem dX5_dragVoters_32 : decode cX5_dragVoters 32 = .ok (.getfield 12, 3) := by decide +kernel
theorem dX5_dragVoters_35 : decode cX5_dragVoters 35 = .ok (.getfield 149, 3) := by decide +kernel
theorem dX5_dragVoters_38 : decode cX5_dragVoters 38 = .ok (.iload_n 3, 1) := by decide +kernel
theorem dX5_dragVoters_39 : decode cX5_dragVoters 39 = .ok (.iaload, 1) := by decide +kernel
theorem dX5_dragVoters_40 : decode cX5_dragVoters 40 = .ok (.aload_n 0, 1) := by decide +kernel
theorem dX5_dragVoters_41 : decode cX5_dragVoters 41 = .ok (.getfield 36, 3) := by decide +kernel
theorem dX5_dragVoters_44 : decode cX5_dragVoters 44 = .ok (.if_icmp .lt 19, 3) := by decide +kernel
theorem dX5_dragVoters_47 : decode cX5_dragVoters 47 = .ok (.aload_n 0, 1) := by decide +kernel
theorem dX5_dragVoters_48 : decode cX5_dragVoters 48 = .ok (.getfield 12, 3) := by decide +kernel
theorem dX5_dragVoters_51 : decode cX5_dragVoters 51 = .ok (.getfield 161, 3) := by decide +kernel
theorem dX5_dragVoters_54 : decode cX5_dragVoters 54 = .ok (.iload_n 3, 1) := by decide +kernel
theorem dX5_dragVoters_55 : decode cX5_dragVoters 55 = .ok (.iconst 2, 1) := by decide +kernel
theorem dX5_dragVoters_56 : decode cX5_dragVoters 56 = .ok (.iastore, 1) := by decide +kernel
theorem dX5_dragVoters_57 : decode cX5_dragVoters 57 = .ok (.iload_n 2, 1) := by decide +kernel
theorem dX5_dragVoters_58 : decode cX5_dragVoters 58 = .ok (.iconst 1, 1) := by decide +kernel
theorem dX5_dragVoters_59 : decode cX5_dragVoters 59 = .ok (.iload_n 3, 1) := by decide +kernel
theorem dX5_dragVoters_60 : decode cX5_dragVoters 60 = .ok (.ishl, 1) := by decide +kernel
theorem dX5_dragVoters_61 : decode cX5_dragVoters 61 = .ok (.ior, 1) := by decide +kernel
theorem dX5_dragVoters_62 : decode cX5_dragVoters 62 = .ok (.istore_n 2, 1) := by decide +kernel
theorem dX5_dragVoters_63 : decode cX5_dragVoters 63 = .ok (.iinc 3 1, 3) := by decide +kernel
theorem dX5_dragVoters_66 : decode cX5_dragVoters 66 = .ok (.goto (-62), 3) := by decide +kernel
theorem dX5_dragVoters_69 : decode cX5_dragVoters 69 = .ok (.iload_n 2, 1) := by decide +kernel
theorem dX5_dragVoters_70 : decode cX5_dragVoters 70 = .ok (.ireturn, 1) := by decide +kernel
theorem dX5_takeOut_0 : decode cX5_takeOut 0 = .ok (.aload_n 0, 1) := by decide +kernel
theorem dX5_takeOut_1 : decode cX5_takeOut 1 = .ok (.invokevirtual 164, 3) := by decide +kernel
theorem dX5_takeOut_4 : decode cX5_takeOut 4 = .ok (.istore_n 3, 1) := by decide +kernel
theorem dX5_takeOut_5 : decode cX5_takeOut 5 = .ok (.iload_n 3, 1) := by decide +kernel
theorem dX5_takeOut_6 : decode cX5_takeOut 6 = .ok (.aload_n 0, 1) := by decide +kernel
theorem dX5_takeOut_7 : decode cX5_takeOut 7 = .ok (.getfield 45, 3) := by decide +kernel
theorem dX5_takeOut_10 : decode cX5_takeOut 10 = .ok (.if_icmp .ge 89, 3) := by decide +kernel
theorem dX5_takeOut_13 : decode cX5_takeOut 13 = .ok (.aload_n 0, 1) := by decide +kernel
theorem dX5_takeOut_14 : decode cX5_takeOut 14 = .ok (.iload_n 3, 1) := by decide +kernel
theorem dX5_takeOut_15 : decode cX5_takeOut 15 = .ok (.invokevirtual 120, 3) := by decide +kernel
theorem dX5_takeOut_18 : decode cX5_takeOut 18 = .ok (.istore 4, 2) := by decide +kernel
theorem dX5_takeOut_20 : decode cX5_takeOut 20 = .ok (.aload_n 0, 1) := by decide +kernel
theorem dX5_takeOut_21 : decode cX5_takeOut 21 = .ok (.getfield 28, 3) := by decide +kernel
theorem dX5_takeOut_24 : decode cX5_takeOut 24 = .ok (.getfield 100, 3) := by decide +kernel
theorem dX5_takeOut_27 : decode cX5_takeOut 27 = .ok (.iload 4, 2) := by decide +kernel
theorem dX5_takeOut_29 : decode cX5_takeOut 29 = .ok (.iaload, 1) := by decide +kernel
theorem dX5_takeOut_30 : decode cX5_takeOut 30 = .ok (.aload_n 0, 1) := by decide +kernel
theorem dX5_takeOut_31 : decode cX5_takeOut 31 = .ok (.iload_n 1, 1) := by decide +kernel
theorem dX5_takeOut_32 : decode cX5_takeOut 32 = .ok (.iload_n 3, 1) := by decide +kernel
theorem dX5_takeOut_33 : decode cX5_takeOut 33 = .ok (.invokevirtual 168, 3) := by decide +kernel
theorem dX5_takeOut_36 : decode cX5_takeOut 36 = .ok (.iand, 1) := by decide +kernel
theorem dX5_takeOut_37 : decode cX5_takeOut 37 = .ok (.istore 5, 2) := by decide +kernel
theorem dX5_takeOut_39 : decode cX5_takeOut 39 = .ok (.iload 5, 2) := by decide +kernel
theorem dX5_takeOut_41 : decode cX5_takeOut 41 = .ok (.ifCond .eq 52, 3) := by decide +kernel
theorem dX5_takeOut_44 : decode cX5_takeOut 44 = .ok (.aload_n 0, 1) := by decide +kernel
theorem dX5_takeOut_45 : decode cX5_takeOut 45 = .ok (.getfield 28, 3) := by decide +kernel
theorem dX5_takeOut_48 : decode cX5_takeOut 48 = .ok (.getfield 100, 3) := by decide +kernel
theorem dX5_takeOut_51 : decode cX5_takeOut 51 = .ok (.iload 4, 2) := by decide +kernel
theorem dX5_takeOut_53 : decode cX5_takeOut 53 = .ok (.dup2, 1) := by decide +kernel
theorem dX5_takeOut_54 : decode cX5_takeOut 54 = .ok (.iaload, 1) := by decide +kernel
theorem dX5_takeOut_55 : decode cX5_takeOut 55 = .ok (.iload 5, 2) := by decide +kernel
theorem dX5_takeOut_57 : decode cX5_takeOut 57 = .ok (.iconst (-1), 1) := by decide +kernel
theorem dX5_takeOut_58 : decode cX5_takeOut 58 = .ok (.ixor, 1) := by decide +kernel
theorem dX5_takeOut_59 : decode cX5_takeOut 59 = .ok (.iand, 1) := by decide +kernel
theorem dX5_takeOut_60 : decode cX5_takeOut 60 = .ok (.iastore, 1) := by decide +kernel
theorem dX5_takeOut_61 : decode cX5_takeOut 61 = .ok (.aload_n 0, 1) := by decide +kernel
theorem dX5_takeOut_62 : decode cX5_takeOut 62 = .ok (.getfield 28, 3) := by decide +kernel
theorem dX5_takeOut_65 : decode cX5_takeOut 65 = .ok (.getfield 142, 3) := by decide +kernel
theorem dX5_takeOut_68 : decode cX5_takeOut 68 = .ok (.iload 4, 2) := by decide +kernel
theorem dX5_takeOut_70 : decode cX5_takeOut 70 = .ok (.dup2, 1) := by decide +kernel
theorem dX5_takeOut_71 : decode cX5_takeOut 71 = .ok (.iaload, 1) := by decide +kernel
theorem dX5_takeOut_72 : decode cX5_takeOut 72 = .ok (.iload 5, 2) := by decide +kernel
theorem dX5_takeOut_74 : decode cX5_takeOut 74 = .ok (.ior, 1) := by decide +kernel
theorem dX5_takeOut_75 : decode cX5_takeOut 75 = .ok (.iastore, 1) := by decide +kernel
theorem dX5_takeOut_76 : decode cX5_takeOut 76 = .ok (.aload_n 0, 1) := by decide +kernel
theorem dX5_takeOut_77 : decode cX5_takeOut 77 = .ok (.iload 4, 2) := by decide +kernel
theorem dX5_takeOut_79 : decode cX5_takeOut 79 = .ok (.aload_n 2, 1) := by decide +kernel
theorem dX5_takeOut_80 : decode cX5_takeOut 80 = .ok (.invokevirtual 171, 3) := by decide +kernel
theorem dX5_takeOut_83 : decode cX5_takeOut 83 = .ok (.aload_n 0, 1) := by decide +kernel
theorem dX5_takeOut_84 : decode cX5_takeOut 84 = .ok (.dup, 1) := by decide +kernel
theorem dX5_takeOut_85 : decode cX5_takeOut 85 = .ok (.getfield 51, 3) := by decide +kernel
theorem dX5_takeOut_88 : decode cX5_takeOut 88 = .ok (.iconst 1, 1) := by decide +kernel
theorem dX5_takeOut_89 : decode cX5_takeOut 89 = .ok (.iadd, 1) := by decide +kernel
theorem dX5_takeOut_90 : decode cX5_takeOut 90 = .ok (.putfield 51, 3) := by decide +kernel
theorem dX5_takeOut_93 : decode cX5_takeOut 93 = .ok (.iinc 3 1, 3) := by decide +kernel
theorem dX5_takeOut_96 : decode cX5_takeOut 96 = .ok (.goto (-91), 3) := by decide +kernel
theorem dX5_takeOut_99 : decode cX5_takeOut 99 = .ok (.return_, 1) := by decide +kernel
theorem dX5_draggedSince_0 : decode cX5_draggedSince 0 = .ok (.iconst 0, 1) := by decide +kernel
theorem dX5_draggedSince_1 : decode cX5_draggedSince 1 = .ok (.istore_n 3, 1) := by decide +kernel
theorem dX5_draggedSince_2 : decode cX5_draggedSince 2 = .ok (.iconst 0, 1) := by decide +kernel
theorem dX5_draggedSince_3 : decode cX5_draggedSince 3 = .ok (.istore 4, 2) := by decide +kernel
theorem dX5_draggedSince_5 : decode cX5_draggedSince 5 = .ok (.iload 4, 2) := by decide +kernel
theorem dX5_draggedSince_7 : decode cX5_draggedSince 7 = .ok (.aload_n 0, 1) := by decide +kernel
theorem dX5_draggedSince_8 : decode cX5_draggedSince 8 = .ok (.getfield 12, 3) := by decide +kernel
theorem dX5_draggedSince_11 : decode cX5_draggedSince 11 = .ok (.getfield 70, 3) := by decide +kernel
theorem dX5_draggedSince_14 : decode cX5_draggedSince 14 = .ok (.if_icmp .ge 39, 3) := by decide +kernel
theorem dX5_draggedSince_17 : decode cX5_draggedSince 17 = .ok (.iload_n 1, 1) := by decide +kernel
theorem dX5_draggedSince_18 : decode cX5_draggedSince 18 = .ok (.iload 4, 2) := by decide +kernel
theorem dX5_draggedSince_20 : decode cX5_draggedSince 20 = .ok (.invokestatic 145, 3) := by decide +kernel
theorem dX5_draggedSince_23 : decode cX5_draggedSince 23 = .ok (.ifCond .eq 24, 3) := by decide +kernel
theorem dX5_draggedSince_26 : decode cX5_draggedSince 26 = .ok (.aload_n 0, 1) := by decide +kernel
theorem dX5_draggedSince_27 : decode cX5_draggedSince 27 = .ok (.getfield 12, 3) := by decide +kernel
theorem dX5_draggedSince_30 : decode cX5_draggedSince 30 = .ok (.getfield 152, 3) := by decide +kernel
theorem dX5_draggedSince_33 : decode cX5_draggedSince 33 = .ok (.iload 4, 2) := by decide +kernel
theorem dX5_draggedSince_35 : decode cX5_draggedSince 35 = .ok (.iaload, 1) := by decide +kernel
theorem dX5_draggedSince_36 : decode cX5_draggedSince 36 = .ok (.iload_n 2, 1) := by decide +kernel
theorem dX5_draggedSince_37 : decode cX5_draggedSince 37 = .ok (.if_icmp .gt 10, 3) := by decide +kernel
theorem dX5_draggedSince_40 : decode cX5_draggedSince 40 = .ok (.iload_n 3, 1) := by decide +kernel
theorem dX5_draggedSince_41 : decode cX5_draggedSince 41 = .ok (.iconst 1, 1) := by decide +kernel
theorem dX5_draggedSince_42 : decode cX5_draggedSince 42 = .ok (.iload 4, 2) := by decide +kernel
theorem dX5_draggedSince_44 : decode cX5_draggedSince 44 = .ok (.ishl, 1) := by decide +kernel
theorem dX5_draggedSince_45 : decode cX5_draggedSince 45 = .ok (.ior, 1) := by decide +kernel
theorem dX5_draggedSince_46 : decode cX5_draggedSince 46 = .ok (.istore_n 3, 1) := by decide +kernel
theorem dX5_draggedSince_47 : decode cX5_draggedSince 47 = .ok (.iinc 4 1, 3) := by decide +kernel
theorem dX5_draggedSince_50 : decode cX5_draggedSince 50 = .ok (.goto (-45), 3) := by decide +kernel
theorem dX5_draggedSince_53 : decode cX5_draggedSince 53 = .ok (.iload_n 3, 1) := by decide +kernel
theorem dX5_draggedSince_54 : decode cX5_draggedSince 54 = .ok (.ireturn, 1) := by decide +kernel
theorem dX5_endsSegment_0 : decode cX5_endsSegment 0 = .ok (.iload_n 1, 1) := by decide +kernel
theorem dX5_endsSegment_1 : decode cX5_endsSegment 1 = .ok (.aload_n 0, 1) := by decide +kernel
theorem dX5_endsSegment_2 : decode cX5_endsSegment 2 = .ok (.getfield 12, 3) := by decide +kernel
theorem dX5_endsSegment_5 : decode cX5_endsSegment 5 = .ok (.getfield 70, 3) := by decide +kernel
theorem dX5_endsSegment_8 : decode cX5_endsSegment 8 = .ok (.iconst 1, 1) := by decide +kernel
theorem dX5_endsSegment_9 : decode cX5_endsSegment 9 = .ok (.isub, 1) := by decide +kernel
theorem dX5_endsSegment_10 : decode cX5_endsSegment 10 = .ok (.if_icmp .eq 11, 3) := by decide +kernel
theorem dX5_endsSegment_13 : decode cX5_endsSegment 13 = .ok (.iload_n 2, 1) := by decide +kernel
theorem dX5_endsSegment_14 : decode cX5_endsSegment 14 = .ok (.iload_n 1, 1) := by decide +kernel
theorem dX5_endsSegment_15 : decode cX5_endsSegment 15 = .ok (.invokestatic 145, 3) := by decide +kernel
theorem dX5_endsSegment_18 : decode cX5_endsSegment 18 = .ok (.ifCond .eq 7, 3) := by decide +kernel
theorem dX5_endsSegment_21 : decode cX5_endsSegment 21 = .ok (.iconst 1, 1) := by decide +kernel
theorem dX5_endsSegment_22 : decode cX5_endsSegment 22 = .ok (.goto 4, 3) := by decide +kernel
theorem dX5_endsSegment_25 : decode cX5_endsSegment 25 = .ok (.iconst 0, 1) := by decide +kernel
theorem dX5_endsSegment_26 : decode cX5_endsSegment 26 = .ok (.ireturn, 1) := by decide +kernel
theorem dX5_breaking_0 : decode cX5_breaking 0 = .ok (.iconst 0, 1) := by decide +kernel
theorem dX5_breaking_1 : decode cX5_breaking 1 = .ok (.istore 4, 2) := by decide +kernel
theorem dX5_breaking_3 : decode cX5_breaking 3 = .ok (.iconst 0, 1) := by decide +kernel
theorem dX5_breaking_4 : decode cX5_breaking 4 = .ok (.istore 5, 2) := by decide +kernel
theorem dX5_breaking_6 : decode cX5_breaking 6 = .ok (.iload 5, 2) := by decide +kernel
theorem dX5_breaking_8 : decode cX5_breaking 8 = .ok (.aload_n 0, 1) := by decide +kernel
theorem dX5_breaking_9 : decode cX5_breaking 9 = .ok (.getfield 12, 3) := by decide +kernel
theorem dX5_breaking_12 : decode cX5_breaking 12 = .ok (.getfield 70, 3) := by decide +kernel
theorem dX5_breaking_15 : decode cX5_breaking 15 = .ok (.iconst 1, 1) := by decide +kernel
theorem dX5_breaking_16 : decode cX5_breaking 16 = .ok (.isub, 1) := by decide +kernel
theorem dX5_breaking_17 : decode cX5_breaking 17 = .ok (.if_icmp .ge 82, 3) := by decide +kernel
theorem dX5_breaking_20 : decode cX5_breaking 20 = .ok (.iload 5, 2) := by decide +kernel
theorem dX5_breaking_22 : decode cX5_breaking 22 = .ok (.iload_n 2, 1) := by decide +kernel
theorem dX5_breaking_23 : decode cX5_breaking 23 = .ok (.if_icmp .lt 28, 3) := by decide +kernel
theorem dX5_breaking_26 : decode cX5_breaking 26 = .ok (.iload 5, 2) := by decide +kernel
theorem dX5_breaking_28 : decode cX5_breaking 28 = .ok (.iload_n 3, 1) := by decide +kernel
theorem dX5_breaking_29 : decode cX5_breaking 29 = .ok (.if_icmp .ge 22, 3) := by decide +kernel
theorem dX5_breaking_32 : decode cX5_breaking 32 = .ok (.aload_n 0, 1) := by decide +kernel
theorem dX5_breaking_33 : decode cX5_breaking 33 = .ok (.getfield 21, 3) := by decide +kernel
theorem dX5_breaking_36 : decode cX5_breaking 36 = .ok (.getfield 175, 3) := by decide +kernel
theorem dX5_breaking_39 : decode cX5_breaking 39 = .ok (.iload 5, 2) := by decide +kernel
theorem dX5_breaking_41 : decode cX5_breaking 41 = .ok (.invokestatic 145, 3) := by decide +kernel
theorem dX5_breaking_44 : decode cX5_breaking 44 = .ok (.ifCond .ne 7, 3) := by decide +kernel
theorem dX5_breaking_47 : decode cX5_breaking 47 = .ok (.iconst 1, 1) := by decide +kernel
theorem dX5_breaking_48 : decode cX5_breaking 48 = .ok (.goto 4, 3) := by decide +kernel
theorem dX5_breaking_51 : decode cX5_breaking 51 = .ok (.iconst 0, 1) := by decide +kernel
theorem dX5_breaking_52 : decode cX5_breaking 52 = .ok (.istore 6, 2) := by decide +kernel
theorem dX5_breaking_54 : decode cX5_breaking 54 = .ok (.iload 6, 2) := by decide +kernel
theorem dX5_breaking_56 : decode cX5_breaking 56 = .ok (.ifCond .eq 37, 3) := by decide +kernel
theorem dX5_breaking_59 : decode cX5_breaking 59 = .ok (.aload_n 0, 1) := by decide +kernel
theorem dX5_breaking_60 : decode cX5_breaking 60 = .ok (.getfield 21, 3) := by decide +kernel
theorem dX5_breaking_63 : decode cX5_breaking 63 = .ok (.getfield 178, 3) := by decide +kernel
theorem dX5_breaking_66 : decode cX5_breaking 66 = .ok (.iload 5, 2) := by decide +kernel
theorem dX5_breaking_68 : decode cX5_breaking 68 = .ok (.iaload, 1) := by decide +kernel
theorem dX5_breaking_69 : decode cX5_breaking 69 = .ok (.iload_n 1, 1) := by decide +kernel
theorem dX5_breaking_70 : decode cX5_breaking 70 = .ok (.iadd, 1) := by decide +kernel
theorem dX5_breaking_71 : decode cX5_breaking 71 = .ok (.aload_n 0, 1) := by decide +kernel
theorem dX5_breaking_72 : decode cX5_breaking 72 = .ok (.getfield 21, 3) := by decide +kernel
theorem dX5_breaking_75 : decode cX5_breaking 75 = .ok (.getfield 181, 3) := by decide +kernel
theorem dX5_breaking_78 : decode cX5_breaking 78 = .ok (.iload 5, 2) := by decide +kernel
theorem dX5_breaking_80 : decode cX5_breaking 80 = .ok (.iaload, 1) := by decide +kernel
theorem dX5_breaking_81 : decode cX5_breaking 81 = .ok (.if_icmp .le 12, 3) := by decide +kernel
theorem dX5_breaking_84 : decode cX5_breaking 84 = .ok (.iload 4, 2) := by decide +kernel
theorem dX5_breaking_86 : decode cX5_breaking 86 = .ok (.iconst 1, 1) := by decide +kernel
theorem dX5_breaking_87 : decode cX5_breaking 87 = .ok (.iload 5, 2) := by decide +kernel
theorem dX5_breaking_89 : decode cX5_breaking 89 = .ok (.ishl, 1) := by decide +kernel
theorem dX5_breaking_90 : decode cX5_breaking 90 = .ok (.ior, 1) := by decide +kernel
theorem dX5_breaking_91 : decode cX5_breaking 91 = .ok (.istore 4, 2) := by decide +kernel
theorem dX5_breaking_93 : decode cX5_breaking 93 = .ok (.iinc 5 1, 3) := by decide +kernel
theorem dX5_breaking_96 : decode cX5_breaking 96 = .ok (.goto (-90), 3) := by decide +kernel
theorem dX5_breaking_99 : decode cX5_breaking 99 = .ok (.iload 4, 2) := by decide +kernel
theorem dX5_breaking_101 : decode cX5_breaking 101 = .ok (.ireturn, 1) := by decide +kernel
theorem dX5_drifting_0 : decode cX5_drifting 0 = .ok (.aload_n 0, 1) := by decide +kernel
theorem dX5_drifting_1 : decode cX5_drifting 1 = .ok (.getfield 21, 3) := by decide +kernel
theorem dX5_drifting_4 : decode cX5_drifting 4 = .ok (.getfield 175, 3) := by decide +kernel
theorem dX5_drifting_7 : decode cX5_drifting 7 = .ok (.aload_n 0, 1) := by decide +kernel
theorem dX5_drifting_8 : decode cX5_drifting 8 = .ok (.iload_n 1, 1) := by decide +kernel
theorem dX5_drifting_9 : decode cX5_drifting 9 = .ok (.iload_n 2, 1) := by decide +kernel
theorem dX5_drifting_10 : decode cX5_drifting 10 = .ok (.iload_n 3, 1) := by decide +kernel
theorem dX5_drifting_11 : decode cX5_drifting 11 = .ok (.invokevirtual 184, 3) := by decide +kernel
theorem dX5_drifting_14 : decode cX5_drifting 14 = .ok (.ior, 1) := by decide +kernel
theorem dX5_drifting_15 : decode cX5_drifting 15 = .ok (.istore 4, 2) := by decide +kernel
theorem dX5_drifting_17 : decode cX5_drifting 17 = .ok (.iconst 0, 1) := by decide +kernel
theorem dX5_drifting_18 : decode cX5_drifting 18 = .ok (.istore 5, 2) := by decide +kernel
theorem dX5_drifting_20 : decode cX5_drifting 20 = .ok (.iconst 0, 1) := by decide +kernel
theorem dX5_drifting_21 : decode cX5_drifting 21 = .ok (.istore 6, 2) := by decide +kernel
theorem dX5_drifting_23 : decode cX5_drifting 23 = .ok (.iconst 0, 1) := by decide +kernel
theorem dX5_drifting_24 : decode cX5_drifting 24 = .ok (.istore 7, 2) := by decide +kernel
theorem dX5_drifting_26 : decode cX5_drifting 26 = .ok (.iconst 0, 1) := by decide +kernel
theorem dX5_drifting_27 : decode cX5_drifting 27 = .ok (.istore 8, 2) := by decide +kernel
theorem dX5_drifting_29 : decode cX5_drifting 29 = .ok (.iconst 0, 1) := by decide +kernel
theorem dX5_drifting_30 : decode cX5_drifting 30 = .ok (.istore 9, 2) := by decide +kernel
theorem dX5_drifting_32 : decode cX5_drifting 32 = .ok (.iload 9, 2) := by decide +kernel
theorem dX5_drifting_34 : decode cX5_drifting 34 = .ok (.aload_n 0, 1) := by decide +kernel
theorem dX5_drifting_35 : decode cX5_drifting 35 = .ok (.getfield 12, 3) := by decide +kernel
theorem dX5_drifting_38 : decode cX5_drifting 38 = .ok (.getfield 70, 3) := by decide +kernel
theorem dX5_drifting_41 : decode cX5_drifting 41 = .ok (.if_icmp .ge 91, 3) := by decide +kernel
theorem dX5_drifting_44 : decode cX5_drifting 44 = .ok (.iload 6, 2) := by decide +kernel
theorem dX5_drifting_46 : decode cX5_drifting 46 = .ok (.iconst 1, 1) := by decide +kernel
theorem dX5_drifting_47 : decode cX5_drifting 47 = .ok (.iload 9, 2) := by decide +kernel
theorem dX5_drifting_49 : decode cX5_drifting 49 = .ok (.ishl, 1) := by decide +kernel
theorem dX5_drifting_50 : decode cX5_drifting 50 = .ok (.ior, 1) := by decide +kernel
theorem dX5_drifting_51 : decode cX5_drifting 51 = .ok (.istore 6, 2) := by decide +kernel
theorem dX5_drifting_53 : decode cX5_drifting 53 = .ok (.iload 7, 2) := by decide +kernel
theorem dX5_drifting_55 : decode cX5_drifting 55 = .ok (.aload_n 0, 1) := by decide +kernel
theorem dX5_drifting_56 : decode cX5_drifting 56 = .ok (.getfield 12, 3) := by decide +kernel
theorem dX5_drifting_59 : decode cX5_drifting 59 = .ok (.getfield 188, 3) := by decide +kernel
theorem dX5_drifting_62 : decode cX5_drifting 62 = .ok (.iload 9, 2) := by decide +kernel
theorem dX5_drifting_64 : decode cX5_drifting 64 = .ok (.iaload, 1) := by decide +kernel
theorem dX5_drifting_65 : decode cX5_drifting 65 = .ok (.iadd, 1) := by decide +kernel
theorem dX5_drifting_66 : decode cX5_drifting 66 = .ok (.istore 7, 2) := by decide +kernel
theorem dX5_drifting_68 : decode cX5_drifting 68 = .ok (.iload 8, 2) := by decide +kernel
theorem dX5_drifting_70 : decode cX5_drifting 70 = .ok (.iload 9, 2) := by decide +kernel
theorem dX5_drifting_72 : decode cX5_drifting 72 = .ok (.iload_n 2, 1) := by decide +kernel
theorem dX5_drifting_73 : decode cX5_drifting 73 = .ok (.if_icmp .lt 13, 3) := by decide +kernel
theorem dX5_drifting_76 : decode cX5_drifting 76 = .ok (.iload 9, 2) := by decide +kernel
theorem dX5_drifting_78 : decode cX5_drifting 78 = .ok (.iload_n 3, 1) := by decide +kernel
theorem dX5_drifting_79 : decode cX5_drifting 79 = .ok (.if_icmp .gt 7, 3) := by decide +kernel
theorem dX5_drifting_82 : decode cX5_drifting 82 = .ok (.iconst 1, 1) := by decide +kernel
theorem dX5_drifting_83 : decode cX5_drifting 83 = .ok (.goto 4, 3) := by decide +kernel
theorem dX5_drifting_86 : decode cX5_drifting 86 = .ok (.iconst 0, 1) := by decide +kernel
theorem dX5_drifting_87 : decode cX5_drifting 87 = .ok (.iadd, 1) := by decide +kernel
theorem dX5_drifting_88 : decode cX5_drifting 88 = .ok (.istore 8, 2) := by decide +kernel
theorem dX5_drifting_90 : decode cX5_drifting 90 = .ok (.aload_n 0, 1) := by decide +kernel
theorem dX5_drifting_91 : decode cX5_drifting 91 = .ok (.iload 9, 2) := by decide +kernel
theorem dX5_drifting_93 : decode cX5_drifting 93 = .ok (.iload 4, 2) := by decide +kernel
theorem dX5_drifting_95 : decode cX5_drifting 95 = .ok (.invokevirtual 191, 3) := by decide +kernel
theorem dX5_drifting_98 : decode cX5_drifting 98 = .ok (.ifCond .eq 28, 3) := by decide +kernel
theorem dX5_drifting_101 : decode cX5_drifting 101 = .ok (.iload 7, 2) := by decide +kernel
theorem dX5_drifting_103 : decode cX5_drifting 103 = .ok (.iload_n 1, 1) := by decide +kernel
theorem dX5_drifting_104 : decode cX5_drifting 104 = .ok (.iload 8, 2) := by decide +kernel
theorem dX5_drifting_106 : decode cX5_drifting 106 = .ok (.imul, 1) := by decide +kernel
theorem dX5_drifting_107 : decode cX5_drifting 107 = .ok (.if_icmp .ge 10, 3) := by decide +kernel
theorem dX5_drifting_110 : decode cX5_drifting 110 = .ok (.iload 5, 2) := by decide +kernel
theorem dX5_drifting_112 : decode cX5_drifting 112 = .ok (.iload 6, 2) := by decide +kernel
theorem dX5_drifting_114 : decode cX5_drifting 114 = .ok (.ior, 1) := by decide +kernel
theorem dX5_drifting_115 : decode cX5_drifting 115 = .ok (.istore 5, 2) := by decide +kernel
theorem dX5_drifting_117 : decode cX5_drifting 117 = .ok (.iconst 0, 1) := by decide +kernel
theorem dX5_drifting_118 : decode cX5_drifting 118 = .ok (.istore 6, 2) := by decide +kernel
theorem dX5_drifting_120 : decode cX5_drifting 120 = .ok (.iconst 0, 1) := by decide +kernel
theorem dX5_drifting_121 : decode cX5_drifting 121 = .ok (.istore 7, 2) := by decide +kernel
theorem dX5_drifting_123 : decode cX5_drifting 123 = .ok (.iconst 0, 1) := by decide +kernel
theorem dX5_drifting_124 : decode cX5_drifting 124 = .ok (.istore 8, 2) := by decide +kernel
theorem dX5_drifting_126 : decode cX5_drifting 126 = .ok (.iinc 9 1, 3) := by decide +kernel
theorem dX5_drifting_129 : decode cX5_drifting 129 = .ok (.goto (-97), 3) := by decide +kernel
theorem dX5_drifting_132 : decode cX5_drifting 132 = .ok (.iload 5, 2) := by decide +kernel
theorem dX5_drifting_134 : decode cX5_drifting 134 = .ok (.ireturn, 1) := by decide +kernel
theorem dX5_blow_0 : decode cX5_blow 0 = .ok (.aload_n 0, 1) := by decide +kernel
theorem dX5_blow_1 : decode cX5_blow 1 = .ok (.iload_n 1, 1) := by decide +kernel
theorem dX5_blow_2 : decode cX5_blow 2 = .ok (.iload_n 2, 1) := by decide +kernel
theorem dX5_blow_3 : decode cX5_blow 3 = .ok (.iload_n 3, 1) := by decide +kernel
theorem dX5_blow_4 : decode cX5_blow 4 = .ok (.invokevirtual 194, 3) := by decide +kernel
theorem dX5_blow_7 : decode cX5_blow 7 = .ok (.istore 4, 2) := by decide +kernel
theorem dX5_blow_9 : decode cX5_blow 9 = .ok (.aload_n 0, 1) := by decide +kernel
theorem dX5_blow_10 : decode cX5_blow 10 = .ok (.iload_n 1, 1) := by decide +kernel
theorem dX5_blow_11 : decode cX5_blow 11 = .ok (.iload_n 2, 1) := by decide +kernel
theorem dX5_blow_12 : decode cX5_blow 12 = .ok (.iload_n 3, 1) := by decide +kernel
theorem dX5_blow_13 : decode cX5_blow 13 = .ok (.invokevirtual 184, 3) := by decide +kernel
theorem dX5_blow_16 : decode cX5_blow 16 = .ok (.istore 5, 2) := by decide +kernel
theorem dX5_blow_18 : decode cX5_blow 18 = .ok (.iconst 0, 1) := by decide +kernel
theorem dX5_blow_19 : decode cX5_blow 19 = .ok (.istore 6, 2) := by decide +kernel
theorem dX5_blow_21 : decode cX5_blow 21 = .ok (.iload 6, 2) := by decide +kernel
theorem dX5_blow_23 : decode cX5_blow 23 = .ok (.aload_n 0, 1) := by decide +kernel
theorem dX5_blow_24 : decode cX5_blow 24 = .ok (.getfield 12, 3) := by decide +kernel
theorem dX5_blow_27 : decode cX5_blow 27 = .ok (.getfield 70, 3) := by decide +kernel
theorem dX5_blow_30 : decode cX5_blow 30 = .ok (.iconst 1, 1) := by decide +kernel
theorem dX5_blow_31 : decode cX5_blow 31 = .ok (.isub, 1) := by decide +kernel
theorem dX5_blow_32 : decode cX5_blow 32 = .ok (.if_icmp .ge 50, 3) := by decide +kernel
theorem dX5_blow_35 : decode cX5_blow 35 = .ok (.iload 6, 2) := by decide +kernel
theorem dX5_blow_37 : decode cX5_blow 37 = .ok (.iload_n 2, 1) := by decide +kernel
theorem dX5_blow_38 : decode cX5_blow 38 = .ok (.if_icmp .lt 38, 3) := by decide +kernel
theorem dX5_blow_41 : decode cX5_blow 41 = .ok (.iload 6, 2) := by decide +kernel
theorem dX5_blow_43 : decode cX5_blow 43 = .ok (.iload_n 3, 1) := by decide +kernel
theorem dX5_blow_44 : decode cX5_blow 44 = .ok (.if_icmp .ge 32, 3) := by decide +kernel
theorem dX5_blow_47 : decode cX5_blow 47 = .ok (.aload_n 0, 1) := by decide +kernel
theorem dX5_blow_48 : decode cX5_blow 48 = .ok (.getfield 21, 3) := by decide +kernel
theorem dX5_blow_51 : decode cX5_blow 51 = .ok (.getfield 175, 3) := by decide +kernel
theorem dX5_blow_54 : decode cX5_blow 54 = .ok (.iload 6, 2) := by decide +kernel
theorem dX5_blow_56 : decode cX5_blow 56 = .ok (.invokestatic 145, 3) := by decide +kernel
theorem dX5_blow_59 : decode cX5_blow 59 = .ok (.ifCond .ne 17, 3) := by decide +kernel
theorem dX5_blow_62 : decode cX5_blow 62 = .ok (.aload_n 0, 1) := by decide +kernel
theorem dX5_blow_63 : decode cX5_blow 63 = .ok (.getfield 21, 3) := by decide +kernel
theorem dX5_blow_66 : decode cX5_blow 66 = .ok (.getfield 178, 3) := by decide +kernel
theorem dX5_blow_69 : decode cX5_blow 69 = .ok (.iload 6, 2) := by decide +kernel
theorem dX5_blow_71 : decode cX5_blow 71 = .ok (.dup2, 1) := by decide +kernel
theorem dX5_blow_72 : decode cX5_blow 72 = .ok (.iaload, 1) := by decide +kernel
theorem dX5_blow_73 : decode cX5_blow 73 = .ok (.iload_n 1, 1) := by decide +kernel
theorem dX5_blow_74 : decode cX5_blow 74 = .ok (.iadd, 1) := by decide +kernel
theorem dX5_blow_75 : decode cX5_blow 75 = .ok (.iastore, 1) := by decide +kernel
theorem dX5_blow_76 : decode cX5_blow 76 = .ok (.iinc 6 1, 3) := by decide +kernel
theorem dX5_blow_79 : decode cX5_blow 79 = .ok (.goto (-58), 3) := by decide +kernel
theorem dX5_blow_82 : decode cX5_blow 82 = .ok (.aload_n 0, 1) := by decide +kernel
theorem dX5_blow_83 : decode cX5_blow 83 = .ok (.getfield 21, 3) := by decide +kernel
theorem dX5_blow_86 : decode cX5_blow 86 = .ok (.dup, 1) := by decide +kernel
theorem dX5_blow_87 : decode cX5_blow 87 = .ok (.getfield 175, 3) := by decide +kernel
theorem dX5_blow_90 : decode cX5_blow 90 = .ok (.iload 5, 2) := by decide +kernel
theorem dX5_blow_92 : decode cX5_blow 92 = .ok (.ior, 1) := by decide +kernel
theorem dX5_blow_93 : decode cX5_blow 93 = .ok (.putfield 175, 3) := by decide +kernel
theorem dX5_blow_96 : decode cX5_blow 96 = .ok (.iconst 0, 1) := by decide +kernel
theorem dX5_blow_97 : decode cX5_blow 97 = .ok (.istore 6, 2) := by decide +kernel
theorem dX5_blow_99 : decode cX5_blow 99 = .ok (.iload 6, 2) := by decide +kernel
theorem dX5_blow_101 : decode cX5_blow 101 = .ok (.aload_n 0, 1) := by decide +kernel
theorem dX5_blow_102 : decode cX5_blow 102 = .ok (.getfield 12, 3) := by decide +kernel
theorem dX5_blow_105 : decode cX5_blow 105 = .ok (.getfield 70, 3) := by decide +kernel
theorem dX5_blow_108 : decode cX5_blow 108 = .ok (.if_icmp .ge 42, 3) := by decide +kernel
theorem dX5_blow_111 : decode cX5_blow 111 = .ok (.iload 4, 2) := by decide +kernel
theorem dX5_blow_113 : decode cX5_blow 113 = .ok (.iload 6, 2) := by decide +kernel
theorem dX5_blow_115 : decode cX5_blow 115 = .ok (.invokestatic 145, 3) := by decide +kernel
theorem dX5_blow_118 : decode cX5_blow 118 = .ok (.ifCond .eq 26, 3) := by decide +kernel
theorem dX5_blow_121 : decode cX5_blow 121 = .ok (.aload_n 0, 1) := by decide +kernel
theorem dX5_blow_122 : decode cX5_blow 122 = .ok (.getfield 12, 3) := by decide +kernel
theorem dX5_blow_125 : decode cX5_blow 125 = .ok (.getfield 161, 3) := by decide +kernel
theorem dX5_blow_128 : decode cX5_blow 128 = .ok (.iload 6, 2) := by decide +kernel
theorem dX5_blow_130 : decode cX5_blow 130 = .ok (.iaload, 1) := by decide +kernel
theorem dX5_blow_131 : decode cX5_blow 131 = .ok (.iconst 2, 1) := by decide +kernel
theorem dX5_blow_132 : decode cX5_blow 132 = .ok (.if_icmp .eq 12, 3) := by decide +kernel
theorem dX5_blow_135 : decode cX5_blow 135 = .ok (.aload_n 0, 1) := by decide +kernel
theorem dX5_blow_136 : decode cX5_blow 136 = .ok (.getfield 12, 3) := by decide +kernel
theorem dX5_blow_139 : decode cX5_blow 139 = .ok (.iload 6, 2) := by decide +kernel
theorem dX5_blow_141 : decode cX5_blow 141 = .ok (.invokevirtual 197, 3) := by decide +kernel
theorem dX5_blow_144 : decode cX5_blow 144 = .ok (.iinc 6 1, 3) := by decide +kernel
theorem dX5_blow_147 : decode cX5_blow 147 = .ok (.goto (-48), 3) := by decide +kernel
theorem dX5_blow_150 : decode cX5_blow 150 = .ok (.aload_n 0, 1) := by decide +kernel
theorem dX5_blow_151 : decode cX5_blow 151 = .ok (.dup, 1) := by decide +kernel
theorem dX5_blow_152 : decode cX5_blow 152 = .ok (.getfield 48, 3) := by decide +kernel
theorem dX5_blow_155 : decode cX5_blow 155 = .ok (.iconst 1, 1) := by decide +kernel
theorem dX5_blow_156 : decode cX5_blow 156 = .ok (.iadd, 1) := by decide +kernel
theorem dX5_blow_157 : decode cX5_blow 157 = .ok (.putfield 48, 3) := by decide +kernel
theorem dX5_blow_160 : decode cX5_blow 160 = .ok (.iload 4, 2) := by decide +kernel
theorem dX5_blow_162 : decode cX5_blow 162 = .ok (.ireturn, 1) := by decide +kernel
theorem dX5_lacking_0 : decode cX5_lacking 0 = .ok (.iconst 0, 1) := by decide +kernel
theorem dX5_lacking_1 : decode cX5_lacking 1 = .ok (.istore_n 3, 1) := by decide +kernel
theorem dX5_lacking_2 : decode cX5_lacking 2 = .ok (.iconst 0, 1) := by decide +kernel
theorem dX5_lacking_3 : decode cX5_lacking 3 = .ok (.istore 4, 2) := by decide +kernel
theorem dX5_lacking_5 : decode cX5_lacking 5 = .ok (.iconst 0, 1) := by decide +kernel
theorem dX5_lacking_6 : decode cX5_lacking 6 = .ok (.istore 5, 2) := by decide +kernel
theorem dX5_lacking_8 : decode cX5_lacking 8 = .ok (.iload 5, 2) := by decide +kernel
theorem dX5_lacking_10 : decode cX5_lacking 10 = .ok (.aload_n 0, 1) := by decide +kernel
theorem dX5_lacking_11 : decode cX5_lacking 11 = .ok (.getfield 12, 3) := by decide +kernel
theorem dX5_lacking_14 : decode cX5_lacking 14 = .ok (.getfield 70, 3) := by decide +kernel
theorem dX5_lacking_17 : decode cX5_lacking 17 = .ok (.if_icmp .ge 48, 3) := by decide +kernel
theorem dX5_lacking_20 : decode cX5_lacking 20 = .ok (.iload 4, 2) := by decide +kernel
theorem dX5_lacking_22 : decode cX5_lacking 22 = .ok (.iload_n 1, 1) := by decide +kernel
theorem dX5_lacking_23 : decode cX5_lacking 23 = .ok (.aload_n 0, 1) := by decide +kernel
theorem dX5_lacking_24 : decode cX5_lacking 24 = .ok (.getfield 12, 3) := by decide +kernel
theorem dX5_lacking_27 : decode cX5_lacking 27 = .ok (.getfield 188, 3) := by decide +kernel
theorem dX5_lacking_30 : decode cX5_lacking 30 = .ok (.iload 5, 2) := by decide +kernel
theorem dX5_lacking_32 : decode cX5_lacking 32 = .ok (.iaload, 1) := by decide +kernel
theorem dX5_lacking_33 : decode cX5_lacking 33 = .ok (.isub, 1) := by decide +kernel
theorem dX5_lacking_34 : decode cX5_lacking 34 = .ok (.iadd, 1) := by decide +kernel
theorem dX5_lacking_35 : decode cX5_lacking 35 = .ok (.istore 4, 2) := by decide +kernel
theorem dX5_lacking_37 : decode cX5_lacking 37 = .ok (.aload_n 0, 1) := by decide +kernel
theorem dX5_lacking_38 : decode cX5_lacking 38 = .ok (.iload 5, 2) := by decide +kernel
theorem dX5_lacking_40 : decode cX5_lacking 40 = .ok (.iload_n 2, 1) := by decide +kernel
theorem dX5_lacking_41 : decode cX5_lacking 41 = .ok (.invokevirtual 191, 3) := by decide +kernel
theorem dX5_lacking_44 : decode cX5_lacking 44 = .ok (.ifCond .eq 15, 3) := by decide +kernel
theorem dX5_lacking_47 : decode cX5_lacking 47 = .ok (.iload_n 3, 1) := by decide +kernel
theorem dX5_lacking_48 : decode cX5_lacking 48 = .ok (.iconst 0, 1) := by decide +kernel
theorem dX5_lacking_49 : decode cX5_lacking 49 = .ok (.iload 4, 2) := by decide +kernel
theorem dX5_lacking_51 : decode cX5_lacking 51 = .ok (.invokestatic 79, 3) := by decide +kernel
theorem dX5_lacking_54 : decode cX5_lacking 54 = .ok (.iadd, 1) := by decide +kernel
theorem dX5_lacking_55 : decode cX5_lacking 55 = .ok (.istore_n 3, 1) := by decide +kernel
theorem dX5_lacking_56 : decode cX5_lacking 56 = .ok (.iconst 0, 1) := by decide +kernel
theorem dX5_lacking_57 : decode cX5_lacking 57 = .ok (.istore 4, 2) := by decide +kernel
theorem dX5_lacking_59 : decode cX5_lacking 59 = .ok (.iinc 5 1, 3) := by decide +kernel
theorem dX5_lacking_62 : decode cX5_lacking 62 = .ok (.goto (-54), 3) := by decide +kernel
theorem dX5_lacking_65 : decode cX5_lacking 65 = .ok (.iload_n 3, 1) := by decide +kernel
theorem dX5_lacking_66 : decode cX5_lacking 66 = .ok (.ireturn, 1) := by decide +kernel
theorem dX5_lengthOf_0 : decode cX5_lengthOf 0 = .ok (.iconst 0, 1) := by decide +kernel
theorem dX5_lengthOf_1 : decode cX5_lengthOf 1 = .ok (.istore_n 2, 1) := by decide +kernel
theorem dX5_lengthOf_2 : decode cX5_lengthOf 2 = .ok (.iconst 0, 1) := by decide +kernel
theorem dX5_lengthOf_3 : decode cX5_lengthOf 3 = .ok (.istore_n 3, 1) := by decide +kernel
theorem dX5_lengthOf_4 : decode cX5_lengthOf 4 = .ok (.iload_n 3, 1) := by decide +kernel
theorem dX5_lengthOf_5 : decode cX5_lengthOf 5 = .ok (.aload_n 0, 1) := by decide +kernel
theorem dX5_lengthOf_6 : decode cX5_lengthOf 6 = .ok (.getfield 12, 3) := by decide +kernel
theorem dX5_lengthOf_9 : decode cX5_lengthOf 9 = .ok (.getfield 70, 3) := by decide +kernel
theorem dX5_lengthOf_12 : decode cX5_lengthOf 12 = .ok (.iconst 1, 1) := by decide +kernel
theorem dX5_lengthOf_13 : decode cX5_lengthOf 13 = .ok (.isub, 1) := by decide +kernel
theorem dX5_lengthOf_14 : decode cX5_lengthOf 14 = .ok (.if_icmp .ge 28, 3) := by decide +kernel
theorem dX5_lengthOf_17 : decode cX5_lengthOf 17 = .ok (.iload_n 1, 1) := by decide +kernel
theorem dX5_lengthOf_18 : decode cX5_lengthOf 18 = .ok (.iload_n 3, 1) := by decide +kernel
theorem dX5_lengthOf_19 : decode cX5_lengthOf 19 = .ok (.invokestatic 145, 3) := by decide +kernel
theorem dX5_lengthOf_22 : decode cX5_lengthOf 22 = .ok (.ifCond .eq 14, 3) := by decide +kernel
theorem dX5_lengthOf_25 : decode cX5_lengthOf 25 = .ok (.iload_n 2, 1) := by decide +kernel
theorem dX5_lengthOf_26 : decode cX5_lengthOf 26 = .ok (.aload_n 0, 1) := by decide +kernel
theorem dX5_lengthOf_27 : decode cX5_lengthOf 27 = .ok (.getfield 12, 3) := by decide +kernel
theorem dX5_lengthOf_30 : decode cX5_lengthOf 30 = .ok (.iload_n 3, 1) := by decide +kernel
theorem dX5_lengthOf_31 : decode cX5_lengthOf 31 = .ok (.invokevirtual 201, 3) := by decide +kernel
theorem dX5_lengthOf_34 : decode cX5_lengthOf 34 = .ok (.iadd, 1) := by decide +kernel
theorem dX5_lengthOf_35 : decode cX5_lengthOf 35 = .ok (.istore_n 2, 1) := by decide +kernel
theorem dX5_lengthOf_36 : decode cX5_lengthOf 36 = .ok (.iinc 3 1, 3) := by decide +kernel
theorem dX5_lengthOf_39 : decode cX5_lengthOf 39 = .ok (.goto (-35), 3) := by decide +kernel
theorem dX5_lengthOf_42 : decode cX5_lengthOf 42 = .ok (.iload_n 2, 1) := by decide +kernel
theorem dX5_lengthOf_43 : decode cX5_lengthOf 43 = .ok (.ireturn, 1) := by decide +kernel
theorem dX5_planFor_0 : decode cX5_planFor 0 = .ok (.iconst (-1), 1) := by decide +kernel
theorem dX5_planFor_1 : decode cX5_planFor 1 = .ok (.istore_n 2, 1) := by decide +kernel
theorem dX5_planFor_2 : decode cX5_planFor 2 = .ok (.iconst 0, 1) := by decide +kernel
theorem dX5_planFor_3 : decode cX5_planFor 3 = .ok (.istore_n 3, 1) := by decide +kernel
theorem dX5_planFor_4 : decode cX5_planFor 4 = .ok (.iconst 1, 1) := by decide +kernel
theorem dX5_planFor_5 : decode cX5_planFor 5 = .ok (.iconst 0, 1) := by decide +kernel
theorem dX5_planFor_6 : decode cX5_planFor 6 = .ok (.aload_n 0, 1) := by decide +kernel
theorem dX5_planFor_7 : decode cX5_planFor 7 = .ok (.getfield 12, 3) := by decide +kernel
theorem dX5_planFor_10 : decode cX5_planFor 10 = .ok (.getfield 70, 3) := by decide +kernel
theorem dX5_planFor_13 : decode cX5_planFor 13 = .ok (.iconst 1, 1) := by decide +kernel
theorem dX5_planFor_14 : decode cX5_planFor 14 = .ok (.isub, 1) := by decide +kernel
theorem dX5_planFor_15 : decode cX5_planFor 15 = .ok (.invokestatic 79, 3) := by decide +kernel
theorem dX5_planFor_18 : decode cX5_planFor 18 = .ok (.ishl, 1) := by decide +kernel
theorem dX5_planFor_19 : decode cX5_planFor 19 = .ok (.istore 4, 2) := by decide +kernel
theorem dX5_planFor_21 : decode cX5_planFor 21 = .ok (.iconst 0, 1) := by decide +kernel
theorem dX5_planFor_22 : decode cX5_planFor 22 = .ok (.istore 5, 2) := by decide +kernel
theorem dX5_planFor_24 : decode cX5_planFor 24 = .ok (.iload 5, 2) := by decide +kernel
theorem dX5_planFor_26 : decode cX5_planFor 26 = .ok (.iload 4, 2) := by decide +kernel
theorem dX5_planFor_28 : decode cX5_planFor 28 = .ok (.if_icmp .ge 108, 3) := by decide +kernel
theorem dX5_planFor_31 : decode cX5_planFor 31 = .ok (.iload 5, 2) := by decide +kernel
theorem dX5_planFor_33 : decode cX5_planFor 33 = .ok (.aload_n 0, 1) := by decide +kernel
theorem dX5_planFor_34 : decode cX5_planFor 34 = .ok (.getfield 21, 3) := by decide +kernel
theorem dX5_planFor_37 : decode cX5_planFor 37 = .ok (.getfield 175, 3) := by decide +kernel
theorem dX5_planFor_40 : decode cX5_planFor 40 = .ok (.iconst (-1), 1) := by decide +kernel
theorem dX5_planFor_41 : decode cX5_planFor 41 = .ok (.ixor, 1) := by decide +kernel
theorem dX5_planFor_42 : decode cX5_planFor 42 = .ok (.iand, 1) := by decide +kernel
theorem dX5_planFor_43 : decode cX5_planFor 43 = .ok (.ifCond .ne 87, 3) := by decide +kernel
theorem dX5_planFor_46 : decode cX5_planFor 46 = .ok (.aload_n 0, 1) := by decide +kernel
theorem dX5_planFor_47 : decode cX5_planFor 47 = .ok (.iload 5, 2) := by decide +kernel
theorem dX5_planFor_49 : decode cX5_planFor 49 = .ok (.invokevirtual 204, 3) := by decide +kernel
theorem dX5_planFor_52 : decode cX5_planFor 52 = .ok (.istore 6, 2) := by decide +kernel
theorem dX5_planFor_54 : decode cX5_planFor 54 = .ok (.iload_n 2, 1) := by decide +kernel
theorem dX5_planFor_55 : decode cX5_planFor 55 = .ok (.iconst (-1), 1) := by decide +kernel
theorem dX5_planFor_56 : decode cX5_planFor 56 = .ok (.if_icmp .eq 27, 3) := by decide +kernel
theorem dX5_planFor_59 : decode cX5_planFor 59 = .ok (.iload 6, 2) := by decide +kernel
theorem dX5_planFor_61 : decode cX5_planFor 61 = .ok (.iload_n 3, 1) := by decide +kernel
theorem dX5_planFor_62 : decode cX5_planFor 62 = .ok (.if_icmp .lt 21, 3) := by decide +kernel
theorem dX5_planFor_65 : decode cX5_planFor 65 = .ok (.iload 6, 2) := by decide +kernel
theorem dX5_planFor_67 : decode cX5_planFor 67 = .ok (.iload_n 3, 1) := by decide +kernel
theorem dX5_planFor_68 : decode cX5_planFor 68 = .ok (.if_icmp .ne 19, 3) := by decide +kernel
theorem dX5_planFor_71 : decode cX5_planFor 71 = .ok (.iload 5, 2) := by decide +kernel
theorem dX5_planFor_73 : decode cX5_planFor 73 = .ok (.invokestatic 207, 3) := by decide +kernel
theorem dX5_planFor_76 : decode cX5_planFor 76 = .ok (.iload_n 2, 1) := by decide +kernel
theorem dX5_planFor_77 : decode cX5_planFor 77 = .ok (.invokestatic 207, 3) := by decide +kernel
theorem dX5_planFor_80 : decode cX5_planFor 80 = .ok (.if_icmp .ge 7, 3) := by decide +kernel
theorem dX5_planFor_83 : decode cX5_planFor 83 = .ok (.iconst 1, 1) := by decide +kernel
theorem dX5_planFor_84 : decode cX5_planFor 84 = .ok (.goto 4, 3) := by decide +kernel
theorem dX5_planFor_87 : decode cX5_planFor 87 = .ok (.iconst 0, 1) := by decide +kernel
theorem dX5_planFor_88 : decode cX5_planFor 88 = .ok (.istore 7, 2) := by decide +kernel
theorem dX5_planFor_90 : decode cX5_planFor 90 = .ok (.iload 7, 2) := by decide +kernel
theorem dX5_planFor_92 : decode cX5_planFor 92 = .ok (.ifCond .eq 38, 3) := by decide +kernel
theorem dX5_planFor_95 : decode cX5_planFor 95 = .ok (.iload 6, 2) := by decide +kernel
theorem dX5_planFor_97 : decode cX5_planFor 97 = .ok (.aload_n 0, 1) := by decide +kernel
theorem dX5_planFor_98 : decode cX5_planFor 98 = .ok (.getfield 42, 3) := by decide +kernel
theorem dX5_planFor_101 : decode cX5_planFor 101 = .ok (.if_icmp .gt 29, 3) := by decide +kernel
theorem dX5_planFor_104 : decode cX5_planFor 104 = .ok (.aload_n 0, 1) := by decide +kernel
theorem dX5_planFor_105 : decode cX5_planFor 105 = .ok (.iload_n 1, 1) := by decide +kernel
theorem dX5_planFor_106 : decode cX5_planFor 106 = .ok (.aload_n 0, 1) := by decide +kernel
theorem dX5_planFor_107 : decode cX5_planFor 107 = .ok (.getfield 21, 3) := by decide +kernel
theorem dX5_planFor_110 : decode cX5_planFor 110 = .ok (.getfield 175, 3) := by decide +kernel
theorem dX5_planFor_113 : decode cX5_planFor 113 = .ok (.iload 5, 2) := by decide +kernel
theorem dX5_planFor_115 : decode cX5_planFor 115 = .ok (.iconst (-1), 1) := by decide +kernel
theorem dX5_planFor_116 : decode cX5_planFor 116 = .ok (.ixor, 1) := by decide +kernel
theorem dX5_planFor_117 : decode cX5_planFor 117 = .ok (.iand, 1) := by decide +kernel
theorem dX5_planFor_118 : decode cX5_planFor 118 = .ok (.invokevirtual 212, 3) := by decide +kernel
theorem dX5_planFor_121 : decode cX5_planFor 121 = .ok (.ifCond .ne 9, 3) := by decide +kernel
theorem dX5_planFor_124 : decode cX5_planFor 124 = .ok (.iload 5, 2) := by decide +kernel
theorem dX5_planFor_126 : decode cX5_planFor 126 = .ok (.istore_n 2, 1) := by decide +kernel
theorem dX5_planFor_127 : decode cX5_planFor 127 = .ok (.iload 6, 2) := by decide +kernel
theorem dX5_planFor_129 : decode cX5_planFor 129 = .ok (.istore_n 3, 1) := by decide +kernel
theorem dX5_planFor_130 : decode cX5_planFor 130 = .ok (.iinc 5 1, 3) := by decide +kernel
theorem dX5_planFor_133 : decode cX5_planFor 133 = .ok (.goto (-109), 3) := by decide +kernel
theorem dX5_planFor_136 : decode cX5_planFor 136 = .ok (.iload_n 2, 1) := by decide +kernel
theorem dX5_planFor_137 : decode cX5_planFor 137 = .ok (.ireturn, 1) := by decide +kernel
theorem dX5_renew_0 : decode cX5_renew 0 = .ok (.aload_n 0, 1) := by decide +kernel
theorem dX5_renew_1 : decode cX5_renew 1 = .ok (.iload_n 1, 1) := by decide +kernel
theorem dX5_renew_2 : decode cX5_renew 2 = .ok (.invokevirtual 204, 3) := by decide +kernel
theorem dX5_renew_5 : decode cX5_renew 5 = .ok (.istore_n 2, 1) := by decide +kernel
theorem dX5_renew_6 : decode cX5_renew 6 = .ok (.iconst 0, 1) := by decide +kernel
theorem dX5_renew_7 : decode cX5_renew 7 = .ok (.istore_n 3, 1) := by decide +kernel
theorem dX5_renew_8 : decode cX5_renew 8 = .ok (.iload_n 3, 1) := by decide +kernel
theorem dX5_renew_9 : decode cX5_renew 9 = .ok (.aload_n 0, 1) := by decide +kernel
theorem dX5_renew_10 : decode cX5_renew 10 = .ok (.getfield 12, 3) := by decide +kernel
theorem dX5_renew_13 : decode cX5_renew 13 = .ok (.getfield 70, 3) := by decide +kernel
theorem dX5_renew_16 : decode cX5_renew 16 = .ok (.iconst 1, 1) := by decide +kernel
theorem dX5_renew_17 : decode cX5_renew 17 = .ok (.isub, 1) := by decide +kernel
theorem dX5_renew_18 : decode cX5_renew 18 = .ok (.if_icmp .ge 27, 3) := by decide +kernel
theorem dX5_renew_21 : decode cX5_renew 21 = .ok (.iload_n 1, 1) := by decide +kernel
theorem dX5_renew_22 : decode cX5_renew 22 = .ok (.iload_n 3, 1) := by decide +kernel
theorem dX5_renew_23 : decode cX5_renew 23 = .ok (.invokestatic 145, 3) := by decide +kernel
theorem dX5_renew_26 : decode cX5_renew 26 = .ok (.ifCond .eq 13, 3) := by decide +kernel
theorem dX5_renew_29 : decode cX5_renew 29 = .ok (.aload_n 0, 1) := by decide +kernel
theorem dX5_renew_30 : decode cX5_renew 30 = .ok (.getfield 21, 3) := by decide +kernel
theorem dX5_renew_33 : decode cX5_renew 33 = .ok (.getfield 178, 3) := by decide +kernel
theorem dX5_renew_36 : decode cX5_renew 36 = .ok (.iload_n 3, 1) := by decide +kernel
theorem dX5_renew_37 : decode cX5_renew 37 = .ok (.iconst 0, 1) := by decide +kernel
theorem dX5_renew_38 : decode cX5_renew 38 = .ok (.iastore, 1) := by decide +kernel
theorem dX5_renew_39 : decode cX5_renew 39 = .ok (.iinc 3 1, 3) := by decide +kernel
theorem dX5_renew_42 : decode cX5_renew 42 = .ok (.goto (-34), 3) := by decide +kernel
theorem dX5_renew_45 : decode cX5_renew 45 = .ok (.aload_n 0, 1) := by decide +kernel
theorem dX5_renew_46 : decode cX5_renew 46 = .ok (.getfield 21, 3) := by decide +kernel
theorem dX5_renew_49 : decode cX5_renew 49 = .ok (.dup, 1) := by decide +kernel
theorem dX5_renew_50 : decode cX5_renew 50 = .ok (.getfield 175, 3) := by decide +kernel
theorem dX5_renew_53 : decode cX5_renew 53 = .ok (.iload_n 1, 1) := by decide +kernel
theorem dX5_renew_54 : decode cX5_renew 54 = .ok (.iconst (-1), 1) := by decide +kernel
theorem dX5_renew_55 : decode cX5_renew 55 = .ok (.ixor, 1) := by decide +kernel
theorem dX5_renew_56 : decode cX5_renew 56 = .ok (.iand, 1) := by decide +kernel
theorem dX5_renew_57 : decode cX5_renew 57 = .ok (.putfield 175, 3) := by decide +kernel
theorem dX5_renew_60 : decode cX5_renew 60 = .ok (.aload_n 0, 1) := by decide +kernel
theorem dX5_renew_61 : decode cX5_renew 61 = .ok (.dup, 1) := by decide +kernel
theorem dX5_renew_62 : decode cX5_renew 62 = .ok (.getfield 42, 3) := by decide +kernel
theorem dX5_renew_65 : decode cX5_renew 65 = .ok (.iload_n 2, 1) := by decide +kernel
theorem dX5_renew_66 : decode cX5_renew 66 = .ok (.isub, 1) := by decide +kernel
theorem dX5_renew_67 : decode cX5_renew 67 = .ok (.putfield 42, 3) := by decide +kernel
theorem dX5_renew_70 : decode cX5_renew 70 = .ok (.aload_n 0, 1) := by decide +kernel
theorem dX5_renew_71 : decode cX5_renew 71 = .ok (.dup, 1) := by decide +kernel
theorem dX5_renew_72 : decode cX5_renew 72 = .ok (.getfield 57, 3) := by decide +kernel
theorem dX5_renew_75 : decode cX5_renew 75 = .ok (.iload_n 2, 1) := by decide +kernel
theorem dX5_renew_76 : decode cX5_renew 76 = .ok (.iadd, 1) := by decide +kernel
theorem dX5_renew_77 : decode cX5_renew 77 = .ok (.putfield 57, 3) := by decide +kernel
theorem dX5_renew_80 : decode cX5_renew 80 = .ok (.return_, 1) := by decide +kernel
theorem dX6_init_0 : decode cX6_init 0 = .ok (.aload_n 0, 1) := by decide +kernel
theorem dX6_init_1 : decode cX6_init 1 = .ok (.invokespecial 3, 3) := by decide +kernel
theorem dX6_init_4 : decode cX6_init 4 = .ok (.aload_n 0, 1) := by decide +kernel
theorem dX6_init_5 : decode cX6_init 5 = .ok (.iconst 0, 1) := by decide +kernel
theorem dX6_init_6 : decode cX6_init 6 = .ok (.putfield 9, 3) := by decide +kernel
theorem dX6_init_9 : decode cX6_init 9 = .ok (.aload_n 0, 1) := by decide +kernel
theorem dX6_init_10 : decode cX6_init 10 = .ok (.iconst 0, 1) := by decide +kernel
theorem dX6_init_11 : decode cX6_init 11 = .ok (.putfield 15, 3) := by decide +kernel
theorem dX6_init_14 : decode cX6_init 14 = .ok (.aload_n 0, 1) := by decide +kernel
theorem dX6_init_15 : decode cX6_init 15 = .ok (.iconst 0, 1) := by decide +kernel
theorem dX6_init_16 : decode cX6_init 16 = .ok (.putfield 19, 3) := by decide +kernel
theorem dX6_init_19 : decode cX6_init 19 = .ok (.aload_n 0, 1) := by decide +kernel
theorem dX6_init_20 : decode cX6_init 20 = .ok (.bipush 10, 2) := by decide +kernel
theorem dX6_init_22 : decode cX6_init 22 = .ok (.newarray .int, 2) := by decide +kernel
theorem dX6_init_24 : decode cX6_init 24 = .ok (.putfield 22, 3) := by decide +kernel
theorem dX6_init_27 : decode cX6_init 27 = .ok (.aload_n 0, 1) := by decide +kernel
theorem dX6_init_28 : decode cX6_init 28 = .ok (.bipush 10, 2) := by decide +kernel
theorem dX6_init_30 : decode cX6_init 30 = .ok (.newarray .int, 2) := by decide +kernel
theorem dX6_init_32 : decode cX6_init 32 = .ok (.putfield 26, 3) := by decide +kernel
theorem dX6_init_35 : decode cX6_init 35 = .ok (.aload_n 0, 1) := by decide +kernel
theorem dX6_init_36 : decode cX6_init 36 = .ok (.iconst 0, 1) := by decide +kernel
theorem dX6_init_37 : decode cX6_init 37 = .ok (.putfield 29, 3) := by decide +kernel
theorem dX6_init_40 : decode cX6_init 40 = .ok (.return_, 1) := by decide +kernel
theorem dX6_count_0 : decode cX6_count 0 = .ok (.aload_n 0, 1) := by decide +kernel
theorem dX6_count_1 : decode cX6_count 1 = .ok (.iconst 0, 1) := by decide +kernel
theorem dX6_count_2 : decode cX6_count 2 = .ok (.putfield 29, 3) := by decide +kernel
theorem dX6_count_5 : decode cX6_count 5 = .ok (.iconst 0, 1) := by decide +kernel
theorem dX6_count_6 : decode cX6_count 6 = .ok (.istore 6, 2) := by decide +kernel
theorem dX6_count_8 : decode cX6_count 8 = .ok (.iload 6, 2) := by decide +kernel
theorem dX6_count_10 : decode cX6_count 10 = .ok (.bipush 10, 2) := by decide +kernel
theorem dX6_count_12 : decode cX6_count 12 = .ok (.if_icmp .ge 106, 3) := by decide +kernel
theorem dX6_count_15 : decode cX6_count 15 = .ok (.iload_n 1, 1) := by decide +kernel
theorem dX6_count_16 : decode cX6_count 16 = .ok (.iload 6, 2) := by decide +kernel
theorem dX6_count_18 : decode cX6_count 18 = .ok (.invokestatic 32, 3) := by decide +kernel
theorem dX6_count_21 : decode cX6_count 21 = .ok (.ifCond .eq 29, 3) := by decide +kernel
theorem dX6_count_24 : decode cX6_count 24 = .ok (.iload 6, 2) := by decide +kernel
theorem dX6_count_26 : decode cX6_count 26 = .ok (.aload_n 2, 1) := by decide +kernel
theorem dX6_count_27 : decode cX6_count 27 = .ok (.arraylength, 1) := by decide +kernel
theorem dX6_count_28 : decode cX6_count 28 = .ok (.if_icmp .ge 22, 3) := by decide +kernel
theorem dX6_count_31 : decode cX6_count 31 = .ok (.iload 4, 2) := by decide +kernel
theorem dX6_count_33 : decode cX6_count 33 = .ok (.ifCond .lt 17, 3) := by decide +kernel
theorem dX6_count_36 : decode cX6_count 36 = .ok (.iload 4, 2) := by decide +kernel
theorem dX6_count_38 : decode cX6_count 38 = .ok (.iload 6, 2) := by decide +kernel
theorem dX6_count_40 : decode cX6_count 40 = .ok (.iadd, 1) := by decide +kernel
theorem dX6_count_41 : decode cX6_count 41 = .ok (.aload_n 3, 1) := by decide +kernel
theorem dX6_count_42 : decode cX6_count 42 = .ok (.arraylength, 1) := by decide +kernel
theorem dX6_count_43 : decode cX6_count 43 = .ok (.if_icmp .ge 7, 3) := by decide +kernel
theorem dX6_count_46 : decode cX6_count 46 = .ok (.iconst 1, 1) := by decide +kernel
theorem dX6_count_47 : decode cX6_count 47 = .ok (.goto 4, 3) := by decide +kernel
theorem dX6_count_50 : decode cX6_count 50 = .ok (.iconst 0, 1) := by decide +kernel
theorem dX6_count_51 : decode cX6_count 51 = .ok (.istore 7, 2) := by decide +kernel
theorem dX6_count_53 : decode cX6_count 53 = .ok (.aload_n 0, 1) := by decide +kernel
theorem dX6_count_54 : decode cX6_count 54 = .ok (.getfield 22, 3) := by decide +kernel
theorem dX6_count_57 : decode cX6_count 57 = .ok (.iload 6, 2) := by decide +kernel
theorem dX6_count_59 : decode cX6_count 59 = .ok (.iload 7, 2) := by decide +kernel
theorem dX6_count_61 : decode cX6_count 61 = .ok (.ifCond .eq 10, 3) := by decide +kernel
theorem dX6_count_64 : decode cX6_count 64 = .ok (.aload_n 2, 1) := by decide +kernel
theorem dX6_count_65 : decode cX6_count 65 = .ok (.iload 6, 2) := by decide +kernel
theorem dX6_count_67 : decode cX6_count 67 = .ok (.iaload, 1) := by decide +kernel
theorem dX6_count_68 : decode cX6_count 68 = .ok (.goto 4, 3) := by decide +kernel
theorem dX6_count_71 : decode cX6_count 71 = .ok (.iconst 0, 1) := by decide +kernel
theorem dX6_count_72 : decode cX6_count 72 = .ok (.iastore, 1) := by decide +kernel
theorem dX6_count_73 : decode cX6_count 73 = .ok (.aload_n 0, 1) := by decide +kernel
theorem dX6_count_74 : decode cX6_count 74 = .ok (.getfield 26, 3) := by decide +kernel
theorem dX6_count_77 : decode cX6_count 77 = .ok (.iload 6, 2) := by decide +kernel
theorem dX6_count_79 : decode cX6_count 79 = .ok (.iload 7, 2) := by decide +kernel
theorem dX6_count_81 : decode cX6_count 81 = .ok (.ifCond .eq 13, 3) := by decide +kernel
theorem dX6_count_84 : decode cX6_count 84 = .ok (.aload_n 3, 1) := by decide +kernel
theorem dX6_count_85 : decode cX6_count 85 = .ok (.iload 4, 2) := by decide +kernel
theorem dX6_count_87 : decode cX6_count 87 = .ok (.iload 6, 2) := by decide +kernel
theorem dX6_count_89 : decode cX6_count 89 = .ok (.iadd, 1) := by decide +kernel
theorem dX6_count_90 : decode cX6_count 90 = .ok (.iaload, 1) := by decide +kernel
theorem dX6_count_91 : decode cX6_count 91 = .ok (.goto 4, 3) := by decide +kernel
theorem dX6_count_94 : decode cX6_count 94 = .ok (.iconst 0, 1) := by decide +kernel
theorem dX6_count_95 : decode cX6_count 95 = .ok (.iastore, 1) := by decide +kernel
theorem dX6_count_96 : decode cX6_count 96 = .ok (.aload_n 0, 1) := by decide +kernel
theorem dX6_count_97 : decode cX6_count 97 = .ok (.dup, 1) := by decide +kernel
theorem dX6_count_98 : decode cX6_count 98 = .ok (.getfield 29, 3) := by decide +kernel
theorem dX6_count_101 : decode cX6_count 101 = .ok (.aload_n 0, 1) := by decide +kernel
theorem dX6_count_102 : decode cX6_count 102 = .ok (.getfield 22, 3) := by decide +kernel
theorem dX6_count_105 : decode cX6_count 105 = .ok (.iload 6, 2) := by decide +kernel
theorem dX6_count_107 : decode cX6_count 107 = .ok (.iaload, 1) := by decide +kernel
theorem dX6_count_108 : decode cX6_count 108 = .ok (.iadd, 1) := by decide +kernel
theorem dX6_count_109 : decode cX6_count 109 = .ok (.putfield 29, 3) := by decide +kernel
theorem dX6_count_112 : decode cX6_count 112 = .ok (.iinc 6 1, 3) := by decide +kernel
theorem dX6_count_115 : decode cX6_count 115 = .ok (.goto (-107), 3) := by decide +kernel
theorem dX6_count_118 : decode cX6_count 118 = .ok (.aload_n 0, 1) := by decide +kernel
theorem dX6_count_119 : decode cX6_count 119 = .ok (.aload_n 0, 1) := by decide +kernel
theorem dX6_count_120 : decode cX6_count 120 = .ok (.invokevirtual 36, 3) := by decide +kernel
theorem dX6_count_123 : decode cX6_count 123 = .ok (.iload 5, 2) := by decide +kernel
theorem dX6_count_125 : decode cX6_count 125 = .ok (.invokevirtual 40, 3) := by decide +kernel
theorem dX6_count_128 : decode cX6_count 128 = .ok (.return_, 1) := by decide +kernel
theorem dX6_middle_0 : decode cX6_middle 0 = .ok (.ldc 44, 2) := by decide +kernel
theorem dX6_middle_2 : decode cX6_middle 2 = .ok (.istore_n 1, 1) := by decide +kernel
theorem dX6_middle_3 : decode cX6_middle 3 = .ok (.iconst 0, 1) := by decide +kernel
theorem dX6_middle_4 : decode cX6_middle 4 = .ok (.istore_n 2, 1) := by decide +kernel
theorem dX6_middle_5 : decode cX6_middle 5 = .ok (.iload_n 2, 1) := by decide +kernel
theorem dX6_middle_6 : decode cX6_middle 6 = .ok (.bipush 10, 2) := by decide +kernel
theorem dX6_middle_8 : decode cX6_middle 8 = .ok (.if_icmp .ge 93, 3) := by decide +kernel
theorem dX6_middle_11 : decode cX6_middle 11 = .ok (.iconst 0, 1) := by decide +kernel
theorem dX6_middle_12 : decode cX6_middle 12 = .ok (.istore_n 3, 1) := by decide +kernel
theorem dX6_middle_13 : decode cX6_middle 13 = .ok (.iconst 0, 1) := by decide +kernel
theorem dX6_middle_14 : decode cX6_middle 14 = .ok (.istore 4, 2) := by decide +kernel
theorem dX6_middle_16 : decode cX6_middle 16 = .ok (.iload 4, 2) := by decide +kernel
theorem dX6_middle_18 : decode cX6_middle 18 = .ok (.bipush 10, 2) := by decide +kernel
theorem dX6_middle_20 : decode cX6_middle 20 = .ok (.if_icmp .ge 39, 3) := by decide +kernel
theorem dX6_middle_23 : decode cX6_middle 23 = .ok (.iload_n 3, 1) := by decide +kernel
theorem dX6_middle_24 : decode cX6_middle 24 = .ok (.aload_n 0, 1) := by decide +kernel
theorem dX6_middle_25 : decode cX6_middle 25 = .ok (.getfield 26, 3) := by decide +kernel
theorem dX6_middle_28 : decode cX6_middle 28 = .ok (.iload 4, 2) := by decide +kernel
theorem dX6_middle_30 : decode cX6_middle 30 = .ok (.iaload, 1) := by decide +kernel
theorem dX6_middle_31 : decode cX6_middle 31 = .ok (.aload_n 0, 1) := by decide +kernel
theorem dX6_middle_32 : decode cX6_middle 32 = .ok (.getfield 26, 3) := by decide +kernel
theorem dX6_middle_35 : decode cX6_middle 35 = .ok (.iload_n 2, 1) := by decide +kernel
theorem dX6_middle_36 : decode cX6_middle 36 = .ok (.iaload, 1) := by decide +kernel
theorem dX6_middle_37 : decode cX6_middle 37 = .ok (.if_icmp .gt 13, 3) := by decide +kernel
theorem dX6_middle_40 : decode cX6_middle 40 = .ok (.aload_n 0, 1) := by decide +kernel
theorem dX6_middle_41 : decode cX6_middle 41 = .ok (.getfield 22, 3) := by decide +kernel
theorem dX6_middle_44 : decode cX6_middle 44 = .ok (.iload 4, 2) := by decide +kernel
theorem dX6_middle_46 : decode cX6_middle 46 = .ok (.iaload, 1) := by decide +kernel
theorem dX6_middle_47 : decode cX6_middle 47 = .ok (.goto 4, 3) := by decide +kernel
theorem dX6_middle_50 : decode cX6_middle 50 = .ok (.iconst 0, 1) := by decide +kernel
theorem dX6_middle_51 : decode cX6_middle 51 = .ok (.iadd, 1) := by decide +kernel
theorem dX6_middle_52 : decode cX6_middle 52 = .ok (.istore_n 3, 1) := by decide +kernel
theorem dX6_middle_53 : decode cX6_middle 53 = .ok (.iinc 4 1, 3) := by decide +kernel
theorem dX6_middle_56 : decode cX6_middle 56 = .ok (.goto (-40), 3) := by decide +kernel
theorem dX6_middle_59 : decode cX6_middle 59 = .ok (.aload_n 0, 1) := by decide +kernel
theorem dX6_middle_60 : decode cX6_middle 60 = .ok (.getfield 22, 3) := by decide +kernel
theorem dX6_middle_63 : decode cX6_middle 63 = .ok (.iload_n 2, 1) := by decide +kernel
theorem dX6_middle_64 : decode cX6_middle 64 = .ok (.iaload, 1) := by decide +kernel
theorem dX6_middle_65 : decode cX6_middle 65 = .ok (.ifCond .le 30, 3) := by decide +kernel
theorem dX6_middle_68 : decode cX6_middle 68 = .ok (.aload_n 0, 1) := by decide +kernel
theorem dX6_middle_69 : decode cX6_middle 69 = .ok (.getfield 26, 3) := by decide +kernel
theorem dX6_middle_72 : decode cX6_middle 72 = .ok (.iload_n 2, 1) := by decide +kernel
theorem dX6_middle_73 : decode cX6_middle 73 = .ok (.iaload, 1) := by decide +kernel
theorem dX6_middle_74 : decode cX6_middle 74 = .ok (.iload_n 1, 1) := by decide +kernel
theorem dX6_middle_75 : decode cX6_middle 75 = .ok (.if_icmp .ge 20, 3) := by decide +kernel
theorem dX6_middle_78 : decode cX6_middle 78 = .ok (.iconst 2, 1) := by decide +kernel
theorem dX6_middle_79 : decode cX6_middle 79 = .ok (.iload_n 3, 1) := by decide +kernel
theorem dX6_middle_80 : decode cX6_middle 80 = .ok (.imul, 1) := by decide +kernel
theorem dX6_middle_81 : decode cX6_middle 81 = .ok (.aload_n 0, 1) := by decide +kernel
theorem dX6_middle_82 : decode cX6_middle 82 = .ok (.getfield 29, 3) := by decide +kernel
theorem dX6_middle_85 : decode cX6_middle 85 = .ok (.if_icmp .lt 10, 3) := by decide +kernel
theorem dX6_middle_88 : decode cX6_middle 88 = .ok (.aload_n 0, 1) := by decide +kernel
theorem dX6_middle_89 : decode cX6_middle 89 = .ok (.getfield 26, 3) := by decide +kernel
theorem dX6_middle_92 : decode cX6_middle 92 = .ok (.iload_n 2, 1) := by decide +kernel
theorem dX6_middle_93 : decode cX6_middle 93 = .ok (.iaload, 1) := by decide +kernel
theorem dX6_middle_94 : decode cX6_middle 94 = .ok (.istore_n 1, 1) := by decide +kernel
theorem dX6_middle_95 : decode cX6_middle 95 = .ok (.iinc 2 1, 3) := by decide +kernel
theorem dX6_middle_98 : decode cX6_middle 98 = .ok (.goto (-93), 3) := by decide +kernel
theorem dX6_middle_101 : decode cX6_middle 101 = .ok (.iload_n 1, 1) := by decide +kernel
theorem dX6_middle_102 : decode cX6_middle 102 = .ok (.ireturn, 1) := by decide +kernel
theorem dX6_weigh_0 : decode cX6_weigh 0 = .ok (.aload_n 0, 1) := by decide +kernel
theorem dX6_weigh_1 : decode cX6_weigh 1 = .ok (.iconst 0, 1) := by decide +kernel
theorem dX6_weigh_2 : decode cX6_weigh 2 = .ok (.putfield 9, 3) := by decide +kernel
theorem dX6_weigh_5 : decode cX6_weigh 5 = .ok (.iconst 0, 1) := by decide +kernel
theorem dX6_weigh_6 : decode cX6_weigh 6 = .ok (.istore_n 3, 1) := by decide +kernel
theorem dX6_weigh_7 : decode cX6_weigh 7 = .ok (.iconst 0, 1) := by decide +kernel
theorem dX6_weigh_8 : decode cX6_weigh 8 = .ok (.istore 4, 2) := by decide +kernel
theorem dX6_weigh_10 : decode cX6_weigh 10 = .ok (.iconst 0, 1) := by decide +kernel
theorem dX6_weigh_11 : decode cX6_weigh 11 = .ok (.istore 5, 2) := by decide +kernel
theorem dX6_weigh_13 : decode cX6_weigh 13 = .ok (.iload 5, 2) := by decide +kernel
theorem dX6_weigh_15 : decode cX6_weigh 15 = .ok (.bipush 10, 2) := by decide +kernel
theorem dX6_weigh_17 : decode cX6_weigh 17 = .ok (.if_icmp .ge 78, 3) := by decide +kernel
theorem dX6_weigh_20 : decode cX6_weigh 20 = .ok (.aload_n 0, 1) := by decide +kernel
theorem dX6_weigh_21 : decode cX6_weigh 21 = .ok (.getfield 22, 3) := by decide +kernel
theorem dX6_weigh_24 : decode cX6_weigh 24 = .ok (.iload 5, 2) := by decide +kernel
theorem dX6_weigh_26 : decode cX6_weigh 26 = .ok (.iaload, 1) := by decide +kernel
theorem dX6_weigh_27 : decode cX6_weigh 27 = .ok (.ifCond .le 62, 3) := by decide +kernel
theorem dX6_weigh_30 : decode cX6_weigh 30 = .ok (.aload_n 0, 1) := by decide +kernel
theorem dX6_weigh_31 : decode cX6_weigh 31 = .ok (.getfield 26, 3) := by decide +kernel
theorem dX6_weigh_34 : decode cX6_weigh 34 = .ok (.iload 5, 2) := by decide +kernel
theorem dX6_weigh_36 : decode cX6_weigh 36 = .ok (.iaload, 1) := by decide +kernel
theorem dX6_weigh_37 : decode cX6_weigh 37 = .ok (.iload_n 1, 1) := by decide +kernel
theorem dX6_weigh_38 : decode cX6_weigh 38 = .ok (.isub, 1) := by decide +kernel
theorem dX6_weigh_39 : decode cX6_weigh 39 = .ok (.invokestatic 45, 3) := by decide +kernel
theorem dX6_weigh_42 : decode cX6_weigh 42 = .ok (.iload_n 2, 1) := by decide +kernel
theorem dX6_weigh_43 : decode cX6_weigh 43 = .ok (.if_icmp .gt 46, 3) := by decide +kernel
theorem dX6_weigh_46 : decode cX6_weigh 46 = .ok (.aload_n 0, 1) := by decide +kernel
theorem dX6_weigh_47 : decode cX6_weigh 47 = .ok (.dup, 1) := by decide +kernel
theorem dX6_weigh_48 : decode cX6_weigh 48 = .ok (.getfield 9, 3) := by decide +kernel
theorem dX6_weigh_51 : decode cX6_weigh 51 = .ok (.iconst 1, 1) := by decide +kernel
theorem dX6_weigh_52 : decode cX6_weigh 52 = .ok (.iload 5, 2) := by decide +kernel
theorem dX6_weigh_54 : decode cX6_weigh 54 = .ok (.ishl, 1) := by decide +kernel
theorem dX6_weigh_55 : decode cX6_weigh 55 = .ok (.ior, 1) := by decide +kernel
theorem dX6_weigh_56 : decode cX6_weigh 56 = .ok (.putfield 9, 3) := by decide +kernel
theorem dX6_weigh_59 : decode cX6_weigh 59 = .ok (.iload_n 3, 1) := by decide +kernel
theorem dX6_weigh_60 : decode cX6_weigh 60 = .ok (.aload_n 0, 1) := by decide +kernel
theorem dX6_weigh_61 : decode cX6_weigh 61 = .ok (.getfield 22, 3) := by decide +kernel
theorem dX6_weigh_64 : decode cX6_weigh 64 = .ok (.iload 5, 2) := by decide +kernel
theorem dX6_weigh_66 : decode cX6_weigh 66 = .ok (.iaload, 1) := by decide +kernel
theorem dX6_weigh_67 : decode cX6_weigh 67 = .ok (.iadd, 1) := by decide +kernel
theorem dX6_weigh_68 : decode cX6_weigh 68 = .ok (.istore_n 3, 1) := by decide +kernel
theorem dX6_weigh_69 : decode cX6_weigh 69 = .ok (.iload 4, 2) := by decide +kernel
theorem dX6_weigh_71 : decode cX6_weigh 71 = .ok (.aload_n 0, 1) := by decide +kernel
theorem dX6_weigh_72 : decode cX6_weigh 72 = .ok (.getfield 22, 3) := by decide +kernel
theorem dX6_weigh_75 : decode cX6_weigh 75 = .ok (.iload 5, 2) := by decide +kernel
theorem dX6_weigh_77 : decode cX6_weigh 77 = .ok (.iaload, 1) := by decide +kernel
theorem dX6_weigh_78 : decode cX6_weigh 78 = .ok (.aload_n 0, 1) := by decide +kernel
theorem dX6_weigh_79 : decode cX6_weigh 79 = .ok (.getfield 26, 3) := by decide +kernel
theorem dX6_weigh_82 : decode cX6_weigh 82 = .ok (.iload 5, 2) := by decide +kernel
theorem dX6_weigh_84 : decode cX6_weigh 84 = .ok (.iaload, 1) := by decide +kernel
theorem dX6_weigh_85 : decode cX6_weigh 85 = .ok (.imul, 1) := by decide +kernel
theorem dX6_weigh_86 : decode cX6_weigh 86 = .ok (.iadd, 1) := by decide +kernel
theorem dX6_weigh_87 : decode cX6_weigh 87 = .ok (.istore 4, 2) := by decide +kernel
theorem dX6_weigh_89 : decode cX6_weigh 89 = .ok (.iinc 5 1, 3) := by decide +kernel
theorem dX6_weigh_92 : decode cX6_weigh 92 = .ok (.goto (-79), 3) := by decide +kernel
theorem dX6_weigh_95 : decode cX6_weigh 95 = .ok (.aload_n 0, 1) := by decide +kernel
theorem dX6_weigh_96 : decode cX6_weigh 96 = .ok (.iload_n 3, 1) := by decide +kernel
theorem dX6_weigh_97 : decode cX6_weigh 97 = .ok (.ifCond .le 17, 3) := by decide +kernel
theorem dX6_weigh_100 : decode cX6_weigh 100 = .ok (.iconst 2, 1) := by decide +kernel
theorem dX6_weigh_101 : decode cX6_weigh 101 = .ok (.iload_n 3, 1) := by decide +kernel
theorem dX6_weigh_102 : decode cX6_weigh 102 = .ok (.imul, 1) := by decide +kernel
theorem dX6_weigh_103 : decode cX6_weigh 103 = .ok (.aload_n 0, 1) := by decide +kernel
theorem dX6_weigh_104 : decode cX6_weigh 104 = .ok (.getfield 29, 3) := by decide +kernel
theorem dX6_weigh_107 : decode cX6_weigh 107 = .ok (.if_icmp .le 7, 3) := by decide +kernel
theorem dX6_weigh_110 : decode cX6_weigh 110 = .ok (.iconst 1, 1) := by decide +kernel
theorem dX6_weigh_111 : decode cX6_weigh 111 = .ok (.goto 4, 3) := by decide +kernel
theorem dX6_weigh_114 : decode cX6_weigh 114 = .ok (.iconst 0, 1) := by decide +kernel
theorem dX6_weigh_115 : decode cX6_weigh 115 = .ok (.putfield 15, 3) := by decide +kernel
theorem dX6_weigh_118 : decode cX6_weigh 118 = .ok (.aload_n 0, 1) := by decide +kernel
theorem dX6_weigh_119 : decode cX6_weigh 119 = .ok (.aload_n 0, 1) := by decide +kernel
theorem dX6_weigh_120 : decode cX6_weigh 120 = .ok (.getfield 15, 3) := by decide +kernel
theorem dX6_weigh_123 : decode cX6_weigh 123 = .ok (.ifCond .eq 12, 3) := by decide +kernel
theorem dX6_weigh_126 : decode cX6_weigh 126 = .ok (.iload 4, 2) := by decide +kernel
theorem dX6_weigh_128 : decode cX6_weigh 128 = .ok (.iload_n 3, 1) := by decide +kernel
theorem dX6_weigh_129 : decode cX6_weigh 129 = .ok (.invokestatic 51, 3) := by decide +kernel
theorem dX6_weigh_132 : decode cX6_weigh 132 = .ok (.goto 4, 3) := by decide +kernel
theorem dX6_weigh_135 : decode cX6_weigh 135 = .ok (.iconst 0, 1) := by decide +kernel
theorem dX6_weigh_136 : decode cX6_weigh 136 = .ok (.putfield 19, 3) := by decide +kernel
theorem dX6_weigh_139 : decode cX6_weigh 139 = .ok (.return_, 1) := by decide +kernel
theorem dX7_init_0 : decode cX7_init 0 = .ok (.aload_n 0, 1) := by decide +kernel
theorem dX7_init_1 : decode cX7_init 1 = .ok (.invokespecial 1, 3) := by decide +kernel
theorem dX7_init_4 : decode cX7_init 4 = .ok (.aload_n 0, 1) := by decide +kernel
theorem dX7_init_5 : decode cX7_init 5 = .ok (.new 7, 3) := by decide +kernel
theorem dX7_init_8 : decode cX7_init 8 = .ok (.dup, 1) := by decide +kernel
theorem dX7_init_9 : decode cX7_init 9 = .ok (.invokespecial 9, 3) := by decide +kernel
theorem dX7_init_12 : decode cX7_init 12 = .ok (.putfield 10, 3) := by decide +kernel
theorem dX7_init_15 : decode cX7_init 15 = .ok (.aload_n 0, 1) := by decide +kernel
theorem dX7_init_16 : decode cX7_init 16 = .ok (.new 7, 3) := by decide +kernel
theorem dX7_init_19 : decode cX7_init 19 = .ok (.dup, 1) := by decide +kernel
theorem dX7_init_20 : decode cX7_init 20 = .ok (.invokespecial 9, 3) := by decide +kernel
theorem dX7_init_23 : decode cX7_init 23 = .ok (.putfield 16, 3) := by decide +kernel
theorem dX7_init_26 : decode cX7_init 26 = .ok (.aload_n 0, 1) := by decide +kernel
theorem dX7_init_27 : decode cX7_init 27 = .ok (.bipush 8, 2) := by decide +kernel
theorem dX7_init_29 : decode cX7_init 29 = .ok (.anewarray 7, 3) := by decide +kernel
theorem dX7_init_32 : decode cX7_init 32 = .ok (.putfield 19, 3) := by decide +kernel
theorem dX7_init_35 : decode cX7_init 35 = .ok (.aload_n 0, 1) := by decide +kernel
theorem dX7_init_36 : decode cX7_init 36 = .ok (.iconst 0, 1) := by decide +kernel
theorem dX7_init_37 : decode cX7_init 37 = .ok (.putfield 23, 3) := by decide +kernel
theorem dX7_init_40 : decode cX7_init 40 = .ok (.aload_n 0, 1) := by decide +kernel
theorem dX7_init_41 : decode cX7_init 41 = .ok (.iconst 0, 1) := by decide +kernel
theorem dX7_init_42 : decode cX7_init 42 = .ok (.putfield 27, 3) := by decide +kernel
theorem dX7_init_45 : decode cX7_init 45 = .ok (.aload_n 0, 1) := by decide +kernel
theorem dX7_init_46 : decode cX7_init 46 = .ok (.iconst 2, 1) := by decide +kernel
theorem dX7_init_47 : decode cX7_init 47 = .ok (.anewarray 7, 3) := by decide +kernel
theorem dX7_init_50 : decode cX7_init 50 = .ok (.putfield 30, 3) := by decide +kernel
theorem dX7_init_53 : decode cX7_init 53 = .ok (.aload_n 0, 1) := by decide +kernel
theorem dX7_init_54 : decode cX7_init 54 = .ok (.iconst 0, 1) := by decide +kernel
theorem dX7_init_55 : decode cX7_init 55 = .ok (.putfield 33, 3) := by decide +kernel
theorem dX7_init_58 : decode cX7_init 58 = .ok (.aload_n 0, 1) := by decide +kernel
theorem dX7_init_59 : decode cX7_init 59 = .ok (.iconst 5, 1) := by decide +kernel
theorem dX7_init_60 : decode cX7_init 60 = .ok (.newarray .int, 2) := by decide +kernel
theorem dX7_init_62 : decode cX7_init 62 = .ok (.putfield 36, 3) := by decide +kernel
theorem dX7_init_65 : decode cX7_init 65 = .ok (.aload_n 0, 1) := by decide +kernel
theorem dX7_init_66 : decode cX7_init 66 = .ok (.new 40, 3) := by decide +kernel
theorem dX7_init_69 : decode cX7_init 69 = .ok (.dup, 1) := by decide +kernel
theorem dX7_init_70 : decode cX7_init 70 = .ok (.invokespecial 42, 3) := by decide +kernel
theorem dX7_init_73 : decode cX7_init 73 = .ok (.putfield 43, 3) := by decide +kernel
theorem dX7_init_76 : decode cX7_init 76 = .ok (.aload_n 0, 1) := by decide +kernel
theorem dX7_init_77 : decode cX7_init 77 = .ok (.bipush 10, 2) := by decide +kernel
theorem dX7_init_79 : decode cX7_init 79 = .ok (.newarray .int, 2) := by decide +kernel
theorem dX7_init_81 : decode cX7_init 81 = .ok (.putfield 47, 3) := by decide +kernel
theorem dX7_init_84 : decode cX7_init 84 = .ok (.aload_n 0, 1) := by decide +kernel
theorem dX7_init_85 : decode cX7_init 85 = .ok (.new 50, 3) := by decide +kernel
theorem dX7_init_88 : decode cX7_init 88 = .ok (.dup, 1) := by decide +kernel
theorem dX7_init_89 : decode cX7_init 89 = .ok (.invokespecial 52, 3) := by decide +kernel
theorem dX7_init_92 : decode cX7_init 92 = .ok (.putfield 53, 3) := by decide +kernel
theorem dX7_init_95 : decode cX7_init 95 = .ok (.aload_n 0, 1) := by decide +kernel
theorem dX7_init_96 : decode cX7_init 96 = .ok (.new 57, 3) := by decide +kernel
theorem dX7_init_99 : decode cX7_init 99 = .ok (.dup, 1) := by decide +kernel
theorem dX7_init_100 : decode cX7_init 100 = .ok (.invokespecial 59, 3) := by decide +kernel
theorem dX7_init_103 : decode cX7_init 103 = .ok (.putfield 60, 3) := by decide +kernel
theorem dX7_init_106 : decode cX7_init 106 = .ok (.aload_n 0, 1) := by decide +kernel
theorem dX7_init_107 : decode cX7_init 107 = .ok (.iconst 0, 1) := by decide +kernel
theorem dX7_init_108 : decode cX7_init 108 = .ok (.putfield 64, 3) := by decide +kernel
theorem dX7_init_111 : decode cX7_init 111 = .ok (.aload_n 0, 1) := by decide +kernel
theorem dX7_init_112 : decode cX7_init 112 = .ok (.iconst (-1), 1) := by decide +kernel
theorem dX7_init_113 : decode cX7_init 113 = .ok (.putfield 67, 3) := by decide +kernel
theorem dX7_init_116 : decode cX7_init 116 = .ok (.aload_n 0, 1) := by decide +kernel
theorem dX7_init_117 : decode cX7_init 117 = .ok (.sipush 500, 3) := by decide +kernel
theorem dX7_init_120 : decode cX7_init 120 = .ok (.newarray .int, 2) := by decide +kernel
theorem dX7_init_122 : decode cX7_init 122 = .ok (.putfield 70, 3) := by decide +kernel
theorem dX7_init_125 : decode cX7_init 125 = .ok (.aload_n 0, 1) := by decide +kernel
theorem dX7_init_126 : decode cX7_init 126 = .ok (.iconst 0, 1) := by decide +kernel
theorem dX7_init_127 : decode cX7_init 127 = .ok (.putfield 73, 3) := by decide +kernel
theorem dX7_init_130 : decode cX7_init 130 = .ok (.iconst 0, 1) := by decide +kernel
theorem dX7_init_131 : decode cX7_init 131 = .ok (.istore_n 1, 1) := by decide +kernel
theorem dX7_init_132 : decode cX7_init 132 = .ok (.iload_n 1, 1) := by decide +kernel
theorem dX7_init_133 : decode cX7_init 133 = .ok (.bipush 8, 2) := by decide +kernel
theorem dX7_init_135 : decode cX7_init 135 = .ok (.if_icmp .ge 22, 3) := by decide +kernel
theorem dX7_init_138 : decode cX7_init 138 = .ok (.aload_n 0, 1) := by decide +kernel
theorem dX7_init_139 : decode cX7_init 139 = .ok (.getfield 19, 3) := by decide +kernel
theorem dX7_init_142 : decode cX7_init 142 = .ok (.iload_n 1, 1) := by decide +kernel
theorem dX7_init_143 : decode cX7_init 143 = .ok (.new 7, 3) := by decide +kernel
theorem dX7_init_146 : decode cX7_init 146 = .ok (.dup, 1) := by decide +kernel
theorem dX7_init_147 : decode cX7_init 147 = .ok (.invokespecial 9, 3) := by decide +kernel
theorem dX7_init_150 : decode cX7_init 150 = .ok (.aastore, 1) := by decide +kernel
theorem dX7_init_151 : decode cX7_init 151 = .ok (.iinc 1 1, 3) := by decide +kernel
theorem dX7_init_154 : decode cX7_init 154 = .ok (.goto (-22), 3) := by decide +kernel
theorem dX7_init_157 : decode cX7_init 157 = .ok (.iconst 0, 1) := by decide +kernel
theorem dX7_init_158 : decode cX7_init 158 = .ok (.istore_n 1, 1) := by decide +kernel
theorem dX7_init_159 : decode cX7_init 159 = .ok (.iload_n 1, 1) := by decide +kernel
theorem dX7_init_160 : decode cX7_init 160 = .ok (.iconst 2, 1) := by decide +kernel
theorem dX7_init_161 : decode cX7_init 161 = .ok (.if_icmp .ge 22, 3) := by decide +kernel
theorem dX7_init_164 : decode cX7_init 164 = .ok (.aload_n 0, 1) := by decide +kernel
theorem dX7_init_165 : decode cX7_init 165 = .ok (.getfield 30, 3) := by decide +kernel
theorem dX7_init_168 : decode cX7_init 168 = .ok (.iload_n 1, 1) := by decide +kernel
theorem dX7_init_169 : decode cX7_init 169 = .ok (.new 7, 3) := by decide +kernel
theorem dX7_init_172 : decode cX7_init 172 = .ok (.dup, 1) := by decide +kernel
theorem dX7_init_173 : decode cX7_init 173 = .ok (.invokespecial 9, 3) := by decide +kernel
theorem dX7_init_176 : decode cX7_init 176 = .ok (.aastore, 1) := by decide +kernel
theorem dX7_init_177 : decode cX7_init 177 = .ok (.iinc 1 1, 3) := by decide +kernel
theorem dX7_init_180 : decode cX7_init 180 = .ok (.goto (-21), 3) := by decide +kernel
theorem dX7_init_183 : decode cX7_init 183 = .ok (.aload_n 0, 1) := by decide +kernel
theorem dX7_init_184 : decode cX7_init 184 = .ok (.getfield 10, 3) := by decide +kernel
theorem dX7_init_187 : decode cX7_init 187 = .ok (.invokevirtual 76, 3) := by decide +kernel
theorem dX7_init_190 : decode cX7_init 190 = .ok (.aload_n 0, 1) := by decide +kernel
theorem dX7_init_191 : decode cX7_init 191 = .ok (.getfield 10, 3) := by decide +kernel
theorem dX7_init_194 : decode cX7_init 194 = .ok (.bipush 20, 2) := by decide +kernel
theorem dX7_init_196 : decode cX7_init 196 = .ok (.putfield 79, 3) := by decide +kernel
theorem dX7_init_199 : decode cX7_init 199 = .ok (.aload_n 0, 1) := by decide +kernel
theorem dX7_init_200 : decode cX7_init 200 = .ok (.getfield 10, 3) := by decide +kernel
theorem dX7_init_203 : decode cX7_init 203 = .ok (.iconst 3, 1) := by decide +kernel
theorem dX7_init_204 : decode cX7_init 204 = .ok (.putfield 82, 3) := by decide +kernel
theorem dX7_init_207 : decode cX7_init 207 = .ok (.aload_n 0, 1) := by decide +kernel
theorem dX7_init_208 : decode cX7_init 208 = .ok (.getfield 10, 3) := by decide +kernel
theorem dX7_init_211 : decode cX7_init 211 = .ok (.iconst 2, 1) := by decide +kernel
theorem dX7_init_212 : decode cX7_init 212 = .ok (.putfield 85, 3) := by decide +kernel
theorem dX7_init_215 : decode cX7_init 215 = .ok (.aload_n 0, 1) := by decide +kernel
theorem dX7_init_216 : decode cX7_init 216 = .ok (.getfield 10, 3) := by decide +kernel
theorem dX7_init_219 : decode cX7_init 219 = .ok (.getfield 88, 3) := by decide +kernel
theorem dX7_init_222 : decode cX7_init 222 = .ok (.iconst 0, 1) := by decide +kernel
theorem dX7_init_223 : decode cX7_init 223 = .ok (.iconst 1, 1) := by decide +kernel
theorem dX7_init_224 : decode cX7_init 224 = .ok (.bipush 9, 2) := by decide +kernel
theorem dX7_init_226 : decode cX7_init 226 = .ok (.iconst 0, 1) := by decide +kernel
theorem dX7_init_227 : decode cX7_init 227 = .ok (.invokevirtual 92, 3) := by decide +kernel
theorem dX7_init_230 : decode cX7_init 230 = .ok (.aload_n 0, 1) := by decide +kernel
theorem dX7_init_231 : decode cX7_init 231 = .ok (.getfield 10, 3) := by decide +kernel
theorem dX7_init_234 : decode cX7_init 234 = .ok (.getfield 88, 3) := by decide +kernel
theorem dX7_init_237 : decode cX7_init 237 = .ok (.bipush 100, 2) := by decide +kernel
theorem dX7_init_239 : decode cX7_init 239 = .ok (.iconst 1, 1) := by decide +kernel
theorem dX7_init_240 : decode cX7_init 240 = .ok (.bipush 9, 2) := by decide +kernel
theorem dX7_init_242 : decode cX7_init 242 = .ok (.iconst 0, 1) := by decide +kernel
theorem dX7_init_243 : decode cX7_init 243 = .ok (.invokevirtual 92, 3) := by decide +kernel
theorem dX7_init_246 : decode cX7_init 246 = .ok (.return_, 1) := by decide +kernel
theorem dX7_append_0 : decode cX7_append 0 = .ok (.iload_n 1, 1) := by decide +kernel
theorem dX7_append_1 : decode cX7_append 1 = .ok (.invokestatic 98, 3) := by decide +kernel
theorem dX7_append_4 : decode cX7_append 4 = .ok (.iload_n 2, 1) := by decide +kernel
theorem dX7_append_5 : decode cX7_append 5 = .ok (.invokestatic 98, 3) := by decide +kernel
theorem dX7_append_8 : decode cX7_append 8 = .ok (.iadd, 1) := by decide +kernel
theorem dX7_append_9 : decode cX7_append 9 = .ok (.iload_n 3, 1) := by decide +kernel
theorem dX7_append_10 : decode cX7_append 10 = .ok (.invokestatic 98, 3) := by decide +kernel
theorem dX7_append_13 : decode cX7_append 13 = .ok (.iadd, 1) := by decide +kernel
theorem dX7_append_14 : decode cX7_append 14 = .ok (.iload 4, 2) := by decide +kernel
theorem dX7_append_16 : decode cX7_append 16 = .ok (.invokestatic 98, 3) := by decide +kernel
theorem dX7_append_19 : decode cX7_append 19 = .ok (.iadd, 1) := by decide +kernel
theorem dX7_append_20 : decode cX7_append 20 = .ok (.iload 5, 2) := by decide +kernel
theorem dX7_append_22 : decode cX7_append 22 = .ok (.invokestatic 98, 3) := by decide +kernel
theorem dX7_append_25 : decode cX7_append 25 = .ok (.iadd, 1) := by decide +kernel
theorem dX7_append_26 : decode cX7_append 26 = .ok (.istore 6, 2) := by decide +kernel
theorem dX7_append_28 : decode cX7_append 28 = .ok (.aload_n 0, 1) := by decide +kernel
theorem dX7_append_29 : decode cX7_append 29 = .ok (.getfield 53, 3) := by decide +kernel
theorem dX7_append_32 : decode cX7_append 32 = .ok (.getfield 102, 3) := by decide +kernel
theorem dX7_append_35 : decode cX7_append 35 = .ok (.iload 6, 2) := by decide +kernel
theorem dX7_append_37 : decode cX7_append 37 = .ok (.iadd, 1) := by decide +kernel
theorem dX7_append_38 : decode cX7_append 38 = .ok (.sipush 500, 3) := by decide +kernel
theorem dX7_append_41 : decode cX7_append 41 = .ok (.if_icmp .le 13, 3) := by decide +kernel
theorem dX7_append_44 : decode cX7_append 44 = .ok (.new 105, 3) := by decide +kernel
theorem dX7_append_47 : decode cX7_append 47 = .ok (.dup, 1) := by decide +kernel
theorem dX7_append_48 : decode cX7_append 48 = .ok (.ldc 107, 2) := by decide +kernel
theorem dX7_append_50 : decode cX7_append 50 = .ok (.invokespecial 109, 3) := by decide +kernel
theorem dX7_append_53 : decode cX7_append 53 = .ok (.athrow, 1) := by decide +kernel
theorem dX7_append_54 : decode cX7_append 54 = .ok (.aload_n 0, 1) := by decide +kernel
theorem dX7_append_55 : decode cX7_append 55 = .ok (.getfield 53, 3) := by decide +kernel
theorem dX7_append_58 : decode cX7_append 58 = .ok (.iload_n 1, 1) := by decide +kernel
theorem dX7_append_59 : decode cX7_append 59 = .ok (.invokevirtual 112, 3) := by decide +kernel
theorem dX7_append_62 : decode cX7_append 62 = .ok (.aload_n 0, 1) := by decide +kernel
theorem dX7_append_63 : decode cX7_append 63 = .ok (.getfield 53, 3) := by decide +kernel
theorem dX7_append_66 : decode cX7_append 66 = .ok (.iload_n 2, 1) := by decide +kernel
theorem dX7_append_67 : decode cX7_append 67 = .ok (.invokevirtual 112, 3) := by decide +kernel
theorem dX7_append_70 : decode cX7_append 70 = .ok (.aload_n 0, 1) := by decide +kernel
theorem dX7_append_71 : decode cX7_append 71 = .ok (.getfield 53, 3) := by decide +kernel
theorem dX7_append_74 : decode cX7_append 74 = .ok (.iload_n 3, 1) := by decide +kernel
theorem dX7_append_75 : decode cX7_append 75 = .ok (.invokevirtual 112, 3) := by decide +kernel
theorem dX7_append_78 : decode cX7_append 78 = .ok (.aload_n 0, 1) := by decide +kernel
theorem dX7_append_79 : decode cX7_append 79 = .ok (.getfield 53, 3) := by decide +kernel
theorem dX7_append_82 : decode cX7_append 82 = .ok (.iload 4, 2) := by decide +kernel
theorem dX7_append_84 : decode cX7_append 84 = .ok (.invokevirtual 112, 3) := by decide +kernel
theorem dX7_append_87 : decode cX7_append 87 = .ok (.aload_n 0, 1) := by decide +kernel
theorem dX7_append_88 : decode cX7_append 88 = .ok (.getfield 53, 3) := by decide +kernel
theorem dX7_append_91 : decode cX7_append 91 = .ok (.iload 5, 2) := by decide +kernel
theorem dX7_append_93 : decode cX7_append 93 = .ok (.invokevirtual 112, 3) := by decide +kernel
theorem dX7_append_96 : decode cX7_append 96 = .ok (.aload_n 0, 1) := by decide +kernel
theorem dX7_append_97 : decode cX7_append 97 = .ok (.getfield 53, 3) := by decide +kernel
theorem dX7_append_100 : decode cX7_append 100 = .ok (.getfield 102, 3) := by decide +kernel
theorem dX7_append_103 : decode cX7_append 103 = .ok (.ireturn, 1) := by decide +kernel
theorem dX7_load_0 : decode cX7_load 0 = .ok (.aload_n 0, 1) := by decide +kernel
theorem dX7_load_1 : decode cX7_load 1 = .ok (.invokevirtual 116, 3) := by decide +kernel
theorem dX7_load_4 : decode cX7_load 4 = .ok (.aload_n 0, 1) := by decide +kernel
theorem dX7_load_5 : decode cX7_load 5 = .ok (.invokevirtual 119, 3) := by decide +kernel
theorem dX7_load_8 : decode cX7_load 8 = .ok (.ifCond .ne 5, 3) := by decide +kernel
theorem dX7_load_11 : decode cX7_load 11 = .ok (.iconst (-1), 1) := by decide +kernel
theorem dX7_load_12 : decode cX7_load 12 = .ok (.ireturn, 1) := by decide +kernel
theorem dX7_load_13 : decode cX7_load 13 = .ok (.aload_n 0, 1) := by decide +kernel
theorem dX7_load_14 : decode cX7_load 14 = .ok (.getfield 16, 3) := by decide +kernel
theorem dX7_load_17 : decode cX7_load 17 = .ok (.aload_n 0, 1) := by decide +kernel
theorem dX7_load_18 : decode cX7_load 18 = .ok (.getfield 16, 3) := by decide +kernel
theorem dX7_load_21 : decode cX7_load 21 = .ok (.getfield 123, 3) := by decide +kernel
theorem dX7_load_24 : decode cX7_load 24 = .ok (.putfield 126, 3) := by decide +kernel
theorem dX7_load_27 : decode cX7_load 27 = .ok (.aload_n 0, 1) := by decide +kernel
theorem dX7_load_28 : decode cX7_load 28 = .ok (.getfield 10, 3) := by decide +kernel
theorem dX7_load_31 : decode cX7_load 31 = .ok (.aload_n 0, 1) := by decide +kernel
theorem dX7_load_32 : decode cX7_load 32 = .ok (.getfield 16, 3) := by decide +kernel
theorem dX7_load_35 : decode cX7_load 35 = .ok (.invokevirtual 129, 3) := by decide +kernel
theorem dX7_load_38 : decode cX7_load 38 = .ok (.aload_n 0, 1) := by decide +kernel
theorem dX7_load_39 : decode cX7_load 39 = .ok (.iconst 0, 1) := by decide +kernel
theorem dX7_load_40 : decode cX7_load 40 = .ok (.putfield 23, 3) := by decide +kernel
theorem dX7_load_43 : decode cX7_load 43 = .ok (.aload_n 0, 1) := by decide +kernel
theorem dX7_load_44 : decode cX7_load 44 = .ok (.getfield 10, 3) := by decide +kernel
theorem dX7_load_47 : decode cX7_load 47 = .ok (.getfield 88, 3) := by decide +kernel
theorem dX7_load_50 : decode cX7_load 50 = .ok (.getfield 133, 3) := by decide +kernel
theorem dX7_load_53 : decode cX7_load 53 = .ok (.ireturn, 1) := by decide +kernel
theorem dX7_play_0 : decode cX7_play 0 = .ok (.aload_n 0, 1) := by decide +kernel
theorem dX7_play_1 : decode cX7_play 1 = .ok (.invokevirtual 136, 3) := by decide +kernel
theorem dX7_play_4 : decode cX7_play 4 = .ok (.aload_n 0, 1) := by decide +kernel
theorem dX7_play_5 : decode cX7_play 5 = .ok (.invokevirtual 119, 3) := by decide +kernel
theorem dX7_play_8 : decode cX7_play 8 = .ok (.ifCond .ne 5, 3) := by decide +kernel
theorem dX7_play_11 : decode cX7_play 11 = .ok (.iconst (-1), 1) := by decide +kernel
theorem dX7_play_12 : decode cX7_play 12 = .ok (.ireturn, 1) := by decide +kernel
theorem dX7_play_13 : decode cX7_play 13 = .ok (.iconst 0, 1) := by decide +kernel
theorem dX7_play_14 : decode cX7_play 14 = .ok (.istore_n 1, 1) := by decide +kernel
theorem dX7_play_15 : decode cX7_play 15 = .ok (.iload_n 1, 1) := by decide +kernel
theorem dX7_play_16 : decode cX7_play 16 = .ok (.aload_n 0, 1) := by decide +kernel
theorem dX7_play_17 : decode cX7_play 17 = .ok (.getfield 60, 3) := by decide +kernel
theorem dX7_play_20 : decode cX7_play 20 = .ok (.getfield 139, 3) := by decide +kernel
theorem dX7_play_23 : decode cX7_play 23 = .ok (.if_icmp .ge 17, 3) := by decide +kernel
theorem dX7_play_26 : decode cX7_play 26 = .ok (.aload_n 0, 1) := by decide +kernel
theorem dX7_play_27 : decode cX7_play 27 = .ok (.iload_n 1, 1) := by decide +kernel
theorem dX7_play_28 : decode cX7_play 28 = .ok (.invokevirtual 140, 3) := by decide +kernel
theorem dX7_play_31 : decode cX7_play 31 = .ok (.ifCond .eq 9, 3) := by decide +kernel
theorem dX7_play_34 : decode cX7_play 34 = .ok (.iinc 1 1, 3) := by decide +kernel
theorem dX7_play_37 : decode cX7_play 37 = .ok (.goto (-22), 3) := by decide +kernel
theorem dX7_play_40 : decode cX7_play 40 = .ok (.iload_n 1, 1) := by decide +kernel
theorem dX7_play_41 : decode cX7_play 41 = .ok (.ireturn, 1) := by decide +kernel
theorem dX7_errorCode_0 : decode cX7_errorCode 0 = .ok (.aload_n 0, 1) := by decide +kernel
theorem dX7_errorCode_1 : decode cX7_errorCode 1 = .ok (.getfield 64, 3) := by decide +kernel
theorem dX7_errorCode_4 : decode cX7_errorCode 4 = .ok (.ireturn, 1) := by decide +kernel
theorem dX7_errorPosition_0 : decode cX7_errorPosition 0 = .ok (.aload_n 0, 1) := by decide +kernel
theorem dX7_errorPosition_1 : decode cX7_errorPosition 1 = .ok (.getfield 67, 3) := by decide +kernel
theorem dX7_errorPosition_4 : decode cX7_errorPosition 4 = .ok (.ireturn, 1) := by decide +kernel
theorem dX7_size_0 : decode cX7_size 0 = .ok (.iload_n 1, 1) := by decide +kernel
theorem dX7_size_1 : decode cX7_size 1 = .ok (.tableswitch 251 0 16 #[83, 94, 102, 118, 133, 148, 163, 177, 185, 193, 201, 209, 217, 222, 227, 235, 243], 83) := by decide +kernel
theorem dX7_size_84 : decode cX7_size 84 = .ok (.aload_n 0, 1) := by decide +kernel
theorem dX7_size_85 : decode cX7_size 85 = .ok (.getfield 10, 3) := by decide +kernel
theorem dX7_size_88 : decode cX7_size 88 = .ok (.getfield 88, 3) := by decide +kernel
theorem dX7_size_91 : decode cX7_size 91 = .ok (.getfield 133, 3) := by decide +kernel
theorem dX7_size_94 : decode cX7_size 94 = .ok (.ireturn, 1) := by decide +kernel
theorem dX7_size_95 : decode cX7_size 95 = .ok (.aload_n 0, 1) := by decide +kernel
theorem dX7_size_96 : decode cX7_size 96 = .ok (.getfield 10, 3) := by decide +kernel
theorem dX7_size_99 : decode cX7_size 99 = .ok (.getfield 144, 3) := by decide +kernel
theorem dX7_size_102 : decode cX7_size 102 = .ok (.ireturn, 1) := by decide +kernel
theorem dX7_size_103 : decode cX7_size 103 = .ok (.aload_n 0, 1) := by decide +kernel
theorem dX7_size_104 : decode cX7_size 104 = .ok (.getfield 10, 3) := by decide +kernel
theorem dX7_size_107 : decode cX7_size 107 = .ok (.getfield 144, 3) := by decide +kernel
theorem dX7_size_110 : decode cX7_size 110 = .ok (.aload_n 0, 1) := by decide +kernel
theorem dX7_size_111 : decode cX7_size 111 = .ok (.getfield 10, 3) := by decide +kernel
theorem dX7_size_114 : decode cX7_size 114 = .ok (.invokevirtual 147, 3) := by decide +kernel
theorem dX7_size_117 : decode cX7_size 117 = .ok (.isub, 1) := by decide +kernel
theorem dX7_size_118 : decode cX7_size 118 = .ok (.ireturn, 1) := by decide +kernel
theorem dX7_size_119 : decode cX7_size 119 = .ok (.aload_n 0, 1) := by decide +kernel
theorem dX7_size_120 : decode cX7_size 120 = .ok (.getfield 10, 3) := by decide +kernel
theorem dX7_size_123 : decode cX7_size 123 = .ok (.getfield 88, 3) := by decide +kernel
theorem dX7_size_126 : decode cX7_size 126 = .ok (.iconst 0, 1) := by decide +kernel
theorem dX7_size_127 : decode cX7_size 127 = .ok (.invokevirtual 151, 3) := by decide +kernel
theorem dX7_size_130 : decode cX7_size 130 = .ok (.invokestatic 154, 3) := by decide +kernel
theorem dX7_size_133 : decode cX7_size 133 = .ok (.ireturn, 1) := by decide +kernel
theorem dX7_size_134 : decode cX7_size 134 = .ok (.aload_n 0, 1) := by decide +kernel
theorem dX7_size_135 : decode cX7_size 135 = .ok (.getfield 10, 3) := by decide +kernel
theorem dX7_size_138 : decode cX7_size 138 = .ok (.getfield 88, 3) := by decide +kernel
theorem dX7_size_141 : decode cX7_size 141 = .ok (.iconst 1, 1) := by decide +kernel
theorem dX7_size_142 : decode cX7_size 142 = .ok (.invokevirtual 151, 3) := by decide +kernel
theorem dX7_size_145 : decode cX7_size 145 = .ok (.invokestatic 154, 3) := by decide +kernel
theorem dX7_size_148 : decode cX7_size 148 = .ok (.ireturn, 1) := by decide +kernel
theorem dX7_size_149 : decode cX7_size 149 = .ok (.aload_n 0, 1) := by decide +kernel
theorem dX7_size_150 : decode cX7_size 150 = .ok (.getfield 10, 3) := by decide +kernel
theorem dX7_size_153 : decode cX7_size 153 = .ok (.getfield 88, 3) := by decide +kernel
theorem dX7_size_156 : decode cX7_size 156 = .ok (.iconst 2, 1) := by decide +kernel
theorem dX7_size_157 : decode cX7_size 157 = .ok (.invokevirtual 151, 3) := by decide +kernel
theorem dX7_size_160 : decode cX7_size 160 = .ok (.invokestatic 154, 3) := by decide +kernel
theorem dX7_size_163 : decode cX7_size 163 = .ok (.ireturn, 1) := by decide +kernel
theorem dX7_size_164 : decode cX7_size 164 = .ok (.aload_n 0, 1) := by decide +kernel
theorem dX7_size_165 : decode cX7_size 165 = .ok (.getfield 10, 3) := by decide +kernel
theorem dX7_size_168 : decode cX7_size 168 = .ok (.getfield 159, 3) := by decide +kernel
theorem dX7_size_171 : decode cX7_size 171 = .ok (.getfield 163, 3) := by decide +kernel
theorem dX7_size_174 : decode cX7_size 174 = .ok (.invokestatic 154, 3) := by decide +kernel
theorem dX7_size_177 : decode cX7_size 177 = .ok (.ireturn, 1) := by decide +kernel
theorem dX7_size_178 : decode cX7_size 178 = .ok (.aload_n 0, 1) := by decide +kernel
theorem dX7_size_179 : decode cX7_size 179 = .ok (.getfield 10, 3) := by decide +kernel
theorem dX7_size_182 : decode cX7_size 182 = .ok (.getfield 123, 3) := by decide +kernel
theorem dX7_size_185 : decode cX7_size 185 = .ok (.ireturn, 1) := by decide +kernel
theorem dX7_size_186 : decode cX7_size 186 = .ok (.aload_n 0, 1) := by decide +kernel
theorem dX7_size_187 : decode cX7_size 187 = .ok (.getfield 10, 3) := by decide +kernel
theorem dX7_size_190 : decode cX7_size 190 = .ok (.getfield 79, 3) := by decide +kernel
theorem dX7_size_193 : decode cX7_size 193 = .ok (.ireturn, 1) := by decide +kernel
theorem dX7_size_194 : decode cX7_size 194 = .ok (.aload_n 0, 1) := by decide +kernel
theorem dX7_size_195 : decode cX7_size 195 = .ok (.getfield 10, 3) := by decide +kernel
theorem dX7_size_198 : decode cX7_size 198 = .ok (.getfield 82, 3) := by decide +kernel
theorem dX7_size_201 : decode cX7_size 201 = .ok (.ireturn, 1) := by decide +kernel
theorem dX7_size_202 : decode cX7_size 202 = .ok (.aload_n 0, 1) := by decide +kernel
theorem dX7_size_203 : decode cX7_size 203 = .ok (.getfield 10, 3) := by decide +kernel
theorem dX7_size_206 : decode cX7_size 206 = .ok (.getfield 85, 3) := by decide +kernel
theorem dX7_size_209 : decode cX7_size 209 = .ok (.ireturn, 1) := by decide +kernel
theorem dX7_size_210 : decode cX7_size 210 = .ok (.aload_n 0, 1) := by decide +kernel
theorem dX7_size_211 : decode cX7_size 211 = .ok (.getfield 10, 3) := by decide +kernel
theorem dX7_size_214 : decode cX7_size 214 = .ok (.getfield 168, 3) := by decide +kernel
theorem dX7_size_217 : decode cX7_size 217 = .ok (.ireturn, 1) := by decide +kernel
theorem dX7_size_218 : decode cX7_size 218 = .ok (.aload_n 0, 1) := by decide +kernel
theorem dX7_size_219 : decode cX7_size 219 = .ok (.getfield 23, 3) := by decide +kernel
theorem dX7_size_222 : decode cX7_size 222 = .ok (.ireturn, 1) := by decide +kernel
theorem dX7_size_223 : decode cX7_size 223 = .ok (.aload_n 0, 1) := by decide +kernel
theorem dX7_size_224 : decode cX7_size 224 = .ok (.invokevirtual 171, 3) := by decide +kernel
theorem dX7_size_227 : decode cX7_size 227 = .ok (.ireturn, 1) := by decide +kernel
theorem dX7_size_228 : decode cX7_size 228 = .ok (.aload_n 0, 1) := by decide +kernel
theorem dX7_size_229 : decode cX7_size 229 = .ok (.getfield 10, 3) := by decide +kernel
theorem dX7_size_232 : decode cX7_size 232 = .ok (.getfield 174, 3) := by decide +kernel
theorem dX7_size_235 : decode cX7_size 235 = .ok (.ireturn, 1) := by decide +kernel
theorem dX7_size_236 : decode cX7_size 236 = .ok (.aload_n 0, 1) := by decide +kernel
theorem dX7_size_237 : decode cX7_size 237 = .ok (.getfield 10, 3) := by decide +kernel
theorem dX7_size_240 : decode cX7_size 240 = .ok (.getfield 126, 3) := by decide +kernel
theorem dX7_size_243 : decode cX7_size 243 = .ok (.ireturn, 1) := by decide +kernel
theorem dX7_size_244 : decode cX7_size 244 = .ok (.aload_n 0, 1) := by decide +kernel
theorem dX7_size_245 : decode cX7_size 245 = .ok (.getfield 10, 3) := by decide +kernel
theorem dX7_size_248 : decode cX7_size 248 = .ok (.getfield 177, 3) := by decide +kernel
theorem dX7_size_251 : decode cX7_size 251 = .ok (.ireturn, 1) := by decide +kernel
theorem dX7_size_252 : decode cX7_size 252 = .ok (.new 180, 3) := by decide +kernel
theorem dX7_size_255 : decode cX7_size 255 = .ok (.dup, 1) := by decide +kernel
theorem dX7_size_256 : decode cX7_size 256 = .ok (.ldc 182, 2) := by decide +kernel
theorem dX7_size_258 : decode cX7_size 258 = .ok (.invokespecial 184, 3) := by decide +kernel
theorem dX7_size_261 : decode cX7_size 261 = .ok (.athrow, 1) := by decide +kernel
theorem dX7_buoy_0 : decode cX7_buoy 0 = .ok (.aload_n 0, 1) := by decide +kernel
theorem dX7_buoy_1 : decode cX7_buoy 1 = .ok (.iload_n 1, 1) := by decide +kernel
theorem dX7_buoy_2 : decode cX7_buoy 2 = .ok (.invokevirtual 185, 3) := by decide +kernel
theorem dX7_buoy_5 : decode cX7_buoy 5 = .ok (.aload_n 0, 1) := by decide +kernel
theorem dX7_buoy_6 : decode cX7_buoy 6 = .ok (.getfield 10, 3) := by decide +kernel
theorem dX7_buoy_9 : decode cX7_buoy 9 = .ok (.getfield 88, 3) := by decide +kernel
theorem dX7_buoy_12 : decode cX7_buoy 12 = .ok (.astore_n 3, 1) := by decide +kernel
theorem dX7_buoy_13 : decode cX7_buoy 13 = .ok (.iload_n 2, 1) := by decide +kernel
theorem dX7_buoy_14 : decode cX7_buoy 14 = .ok (.tableswitch 134 0 9 #[54, 61, 68, 75, 82, 89, 96, 103, 110, 127], 54) := by decide +kernel
theorem dX7_buoy_68 : decode cX7_buoy 68 = .ok (.aload_n 3, 1) := by decide +kernel
theorem dX7_buoy_69 : decode cX7_buoy 69 = .ok (.getfield 188, 3) := by decide +kernel
theorem dX7_buoy_72 : decode cX7_buoy 72 = .ok (.iload_n 1, 1) := by decide +kernel
theorem dX7_buoy_73 : decode cX7_buoy 73 = .ok (.iaload, 1) := by decide +kernel
theorem dX7_buoy_74 : decode cX7_buoy 74 = .ok (.ireturn, 1) := by decide +kernel
theorem dX7_buoy_75 : decode cX7_buoy 75 = .ok (.aload_n 3, 1) := by decide +kernel
theorem dX7_buoy_76 : decode cX7_buoy 76 = .ok (.getfield 191, 3) := by decide +kernel
theorem dX7_buoy_79 : decode cX7_buoy 79 = .ok (.iload_n 1, 1) := by decide +kernel
theorem dX7_buoy_80 : decode cX7_buoy 80 = .ok (.iaload, 1) := by decide +kernel
theorem dX7_buoy_81 : decode cX7_buoy 81 = .ok (.ireturn, 1) := by decide +kernel
theorem dX7_buoy_82 : decode cX7_buoy 82 = .ok (.aload_n 3, 1) := by decide +kernel
theorem dX7_buoy_83 : decode cX7_buoy 83 = .ok (.getfield 194, 3) := by decide +kernel
theorem dX7_buoy_86 : decode cX7_buoy 86 = .ok (.iload_n 1, 1) := by decide +kernel
theorem dX7_buoy_87 : decode cX7_buoy 87 = .ok (.iaload, 1) := by decide +kernel
theorem dX7_buoy_88 : decode cX7_buoy 88 = .ok (.ireturn, 1) := by decide +kernel
theorem dX7_buoy_89 : decode cX7_buoy 89 = .ok (.aload_n 3, 1) := by decide +kernel
theorem dX7_buoy_90 : decode cX7_buoy 90 = .ok (.getfield 197, 3) := by decide +kernel
theorem dX7_buoy_93 : decode cX7_buoy 93 = .ok (.iload_n 1, 1) := by decide +kernel
theorem dX7_buoy_94 : decode cX7_buoy 94 = .ok (.iaload, 1) := by decide +kernel
theorem dX7_buoy_95 : decode cX7_buoy 95 = .ok (.ireturn, 1) := by decide +kernel
theorem dX7_buoy_96 : decode cX7_buoy 96 = .ok (.aload_n 3, 1) := by decide +kernel
theorem dX7_buoy_97 : decode cX7_buoy 97 = .ok (.getfield 200, 3) := by decide +kernel
theorem dX7_buoy_100 : decode cX7_buoy 100 = .ok (.iload_n 1, 1) := by decide +kernel
theorem dX7_buoy_101 : decode cX7_buoy 101 = .ok (.iaload, 1) := by decide +kernel
theorem dX7_buoy_102 : decode cX7_buoy 102 = .ok (.ireturn, 1) := by decide +kernel
theorem dX7_buoy_103 : decode cX7_buoy 103 = .ok (.aload_n 3, 1) := by decide +kernel
theorem dX7_buoy_104 : decode cX7_buoy 104 = .ok (.getfield 203, 3) := by decide +kernel
theorem dX7_buoy_107 : decode cX7_buoy 107 = .ok (.iload_n 1, 1) := by decide +kernel
theorem dX7_buoy_108 : decode cX7_buoy 108 = .ok (.iaload, 1) := by decide +kernel
theorem dX7_buoy_109 : decode cX7_buoy 109 = .ok (.ireturn, 1) := by decide +kernel
theorem dX7_buoy_110 : decode cX7_buoy 110 = .ok (.aload_n 3, 1) := by decide +kernel
theorem dX7_buoy_111 : decode cX7_buoy 111 = .ok (.getfield 206, 3) := by decide +kernel
theorem dX7_buoy_114 : decode cX7_buoy 114 = .ok (.iload_n 1, 1) := by decide +kernel
theorem dX7_buoy_115 : decode cX7_buoy 115 = .ok (.iaload, 1) := by decide +kernel
theorem dX7_buoy_116 : decode cX7_buoy 116 = .ok (.ireturn, 1) := by decide +kernel
theorem dX7_buoy_117 : decode cX7_buoy 117 = .ok (.aload_n 3, 1) := by decide +kernel
theorem dX7_buoy_118 : decode cX7_buoy 118 = .ok (.getfield 209, 3) := by decide +kernel
theorem dX7_buoy_121 : decode cX7_buoy 121 = .ok (.iload_n 1, 1) := by decide +kernel
theorem dX7_buoy_122 : decode cX7_buoy 122 = .ok (.iaload, 1) := by decide +kernel
theorem dX7_buoy_123 : decode cX7_buoy 123 = .ok (.ireturn, 1) := by decide +kernel
theorem dX7_buoy_124 : decode cX7_buoy 124 = .ok (.aload_n 3, 1) := by decide +kernel
theorem dX7_buoy_125 : decode cX7_buoy 125 = .ok (.getfield 212, 3) := by decide +kernel
theorem dX7_buoy_128 : decode cX7_buoy 128 = .ok (.iload_n 1, 1) := by decide +kernel
theorem dX7_buoy_129 : decode cX7_buoy 129 = .ok (.invokestatic 215, 3) := by decide +kernel
theorem dX7_buoy_132 : decode cX7_buoy 132 = .ok (.ifCond .eq 7, 3) := by decide +kernel
theorem dX7_buoy_135 : decode cX7_buoy 135 = .ok (.iconst 1, 1) := by decide +kernel
theorem dX7_buoy_136 : decode cX7_buoy 136 = .ok (.goto 4, 3) := by decide +kernel
theorem dX7_buoy_139 : decode cX7_buoy 139 = .ok (.iconst 0, 1) := by decide +kernel
theorem dX7_buoy_140 : decode cX7_buoy 140 = .ok (.ireturn, 1) := by decide +kernel
theorem dX7_buoy_141 : decode cX7_buoy 141 = .ok (.aload_n 3, 1) := by decide +kernel
theorem dX7_buoy_142 : decode cX7_buoy 142 = .ok (.getfield 219, 3) := by decide +kernel
theorem dX7_buoy_145 : decode cX7_buoy 145 = .ok (.iload_n 1, 1) := by decide +kernel
theorem dX7_buoy_146 : decode cX7_buoy 146 = .ok (.iaload, 1) := by decide +kernel
theorem dX7_buoy_147 : decode cX7_buoy 147 = .ok (.ireturn, 1) := by decide +kernel
theorem dX7_buoy_148 : decode cX7_buoy 148 = .ok (.new 180, 3) := by decide +kernel
theorem dX7_buoy_151 : decode cX7_buoy 151 = .ok (.dup, 1) := by decide +kernel
theorem dX7_buoy_152 : decode cX7_buoy 152 = .ok (.ldc 182, 2) := by decide +kernel
theorem dX7_buoy_154 : decode cX7_buoy 154 = .ok (.invokespecial 184, 3) := by decide +kernel
theorem dX7_buoy_157 : decode cX7_buoy 157 = .ok (.athrow, 1) := by decide +kernel
theorem dX7_rope_0 : decode cX7_rope 0 = .ok (.aload_n 0, 1) := by decide +kernel
theorem dX7_rope_1 : decode cX7_rope 1 = .ok (.iload_n 1, 1) := by decide +kernel
theorem dX7_rope_2 : decode cX7_rope 2 = .ok (.invokevirtual 222, 3) := by decide +kernel
theorem dX7_rope_5 : decode cX7_rope 5 = .ok (.iload_n 2, 1) := by decide +kernel
theorem dX7_rope_6 : decode cX7_rope 6 = .ok (.tableswitch 91 0 3 #[30, 42, 55, 68], 30) := by decide +kernel
theorem dX7_rope_36 : decode cX7_rope 36 = .ok (.aload_n 0, 1) := by decide +kernel
theorem dX7_rope_37 : decode cX7_rope 37 = .ok (.getfield 10, 3) := by decide +kernel
theorem dX7_rope_40 : decode cX7_rope 40 = .ok (.getfield 88, 3) := by decide +kernel
theorem dX7_rope_43 : decode cX7_rope 43 = .ok (.iload_n 1, 1) := by decide +kernel
theorem dX7_rope_44 : decode cX7_rope 44 = .ok (.invokevirtual 225, 3) := by decide +kernel
theorem dX7_rope_47 : decode cX7_rope 47 = .ok (.ireturn, 1) := by decide +kernel
theorem dX7_rope_48 : decode cX7_rope 48 = .ok (.aload_n 0, 1) := by decide +kernel
theorem dX7_rope_49 : decode cX7_rope 49 = .ok (.getfield 10, 3) := by decide +kernel
theorem dX7_rope_52 : decode cX7_rope 52 = .ok (.getfield 159, 3) := by decide +kernel
theorem dX7_rope_55 : decode cX7_rope 55 = .ok (.getfield 228, 3) := by decide +kernel
theorem dX7_rope_58 : decode cX7_rope 58 = .ok (.iload_n 1, 1) := by decide +kernel
theorem dX7_rope_59 : decode cX7_rope 59 = .ok (.iaload, 1) := by decide +kernel
theorem dX7_rope_60 : decode cX7_rope 60 = .ok (.ireturn, 1) := by decide +kernel
theorem dX7_rope_61 : decode cX7_rope 61 = .ok (.aload_n 0, 1) := by decide +kernel
theorem dX7_rope_62 : decode cX7_rope 62 = .ok (.getfield 10, 3) := by decide +kernel
theorem dX7_rope_65 : decode cX7_rope 65 = .ok (.getfield 159, 3) := by decide +kernel
theorem dX7_rope_68 : decode cX7_rope 68 = .ok (.getfield 231, 3) := by decide +kernel
theorem dX7_rope_71 : decode cX7_rope 71 = .ok (.iload_n 1, 1) := by decide +kernel
theorem dX7_rope_72 : decode cX7_rope 72 = .ok (.iaload, 1) := by decide +kernel
theorem dX7_rope_73 : decode cX7_rope 73 = .ok (.ireturn, 1) := by decide +kernel
theorem dX7_rope_74 : decode cX7_rope 74 = .ok (.aload_n 0, 1) := by decide +kernel
theorem dX7_rope_75 : decode cX7_rope 75 = .ok (.getfield 10, 3) := by decide +kernel
theorem dX7_rope_78 : decode cX7_rope 78 = .ok (.getfield 159, 3) := by decide +kernel
theorem dX7_rope_81 : decode cX7_rope 81 = .ok (.getfield 163, 3) := by decide +kernel
theorem dX7_rope_84 : decode cX7_rope 84 = .ok (.iload_n 1, 1) := by decide +kernel
theorem dX7_rope_85 : decode cX7_rope 85 = .ok (.invokestatic 215, 3) := by decide +kernel
theorem dX7_rope_88 : decode cX7_rope 88 = .ok (.ifCond .eq 7, 3) := by decide +kernel
theorem dX7_rope_91 : decode cX7_rope 91 = .ok (.iconst 1, 1) := by decide +kernel
theorem dX7_rope_92 : decode cX7_rope 92 = .ok (.goto 4, 3) := by decide +kernel
theorem dX7_rope_95 : decode cX7_rope 95 = .ok (.iconst 0, 1) := by decide +kernel
theorem dX7_rope_96 : decode cX7_rope 96 = .ok (.ireturn, 1) := by decide +kernel
theorem dX7_rope_97 : decode cX7_rope 97 = .ok (.new 180, 3) := by decide +kernel
theorem dX7_rope_100 : decode cX7_rope 100 = .ok (.dup, 1) := by decide +kernel
theorem dX7_rope_101 : decode cX7_rope 101 = .ok (.ldc 182, 2) := by decide +kernel
theorem dX7_rope_103 : decode cX7_rope 103 = .ok (.invokespecial 184, 3) := by decide +kernel
theorem dX7_rope_106 : decode cX7_rope 106 = .ok (.athrow, 1) := by decide +kernel
theorem dX7_account_0 : decode cX7_account 0 = .ok (.iload_n 1, 1) := by decide +kernel
theorem dX7_account_1 : decode cX7_account 1 = .ok (.ifCond .lt 12, 3) := by decide +kernel
theorem dX7_account_4 : decode cX7_account 4 = .ok (.iload_n 1, 1) := by decide +kernel
theorem dX7_account_5 : decode cX7_account 5 = .ok (.aload_n 0, 1) := by decide +kernel
theorem dX7_account_6 : decode cX7_account 6 = .ok (.getfield 36, 3) := by decide +kernel
theorem dX7_account_9 : decode cX7_account 9 = .ok (.arraylength, 1) := by decide +kernel
theorem dX7_account_10 : decode cX7_account 10 = .ok (.if_icmp .lt 13, 3) := by decide +kernel
theorem dX7_account_13 : decode cX7_account 13 = .ok (.new 180, 3) := by decide +kernel
theorem dX7_account_16 : decode cX7_account 16 = .ok (.dup, 1) := by decide +kernel
theorem dX7_account_17 : decode cX7_account 17 = .ok (.ldc 182, 2) := by decide +kernel
theorem dX7_account_19 : decode cX7_account 19 = .ok (.invokespecial 184, 3) := by decide +kernel
theorem dX7_account_22 : decode cX7_account 22 = .ok (.athrow, 1) := by decide +kernel
theorem dX7_account_23 : decode cX7_account 23 = .ok (.aload_n 0, 1) := by decide +kernel
theorem dX7_account_24 : decode cX7_account 24 = .ok (.getfield 36, 3) := by decide +kernel
theorem dX7_account_27 : decode cX7_account 27 = .ok (.iload_n 1, 1) := by decide +kernel
theorem dX7_account_28 : decode cX7_account 28 = .ok (.iaload, 1) := by decide +kernel
theorem dX7_account_29 : decode cX7_account 29 = .ok (.ireturn, 1) := by decide +kernel
theorem dX7_hour_0 : decode cX7_hour 0 = .ok (.aload_n 0, 1) := by decide +kernel
theorem dX7_hour_1 : decode cX7_hour 1 = .ok (.iload_n 1, 1) := by decide +kernel
theorem dX7_hour_2 : decode cX7_hour 2 = .ok (.invokevirtual 234, 3) := by decide +kernel
theorem dX7_hour_5 : decode cX7_hour 5 = .ok (.istore_n 3, 1) := by decide +kernel
theorem dX7_hour_6 : decode cX7_hour 6 = .ok (.aload_n 0, 1) := by decide +kernel
theorem dX7_hour_7 : decode cX7_hour 7 = .ok (.getfield 10, 3) := by decide +kernel
theorem dX7_hour_10 : decode cX7_hour 10 = .ok (.getfield 237, 3) := by decide +kernel
theorem dX7_hour_13 : decode cX7_hour 13 = .ok (.astore 4, 2) := by decide +kernel
theorem dX7_hour_15 : decode cX7_hour 15 = .ok (.iload_n 2, 1) := by decide +kernel
theorem dX7_hour_16 : decode cX7_hour 16 = .ok (.tableswitch 79 0 4 #[36, 44, 52, 60, 71], 36) := by decide +kernel
theorem dX7_hour_52 : decode cX7_hour 52 = .ok (.aload 4, 2) := by decide +kernel
theorem dX7_hour_54 : decode cX7_hour 54 = .ok (.getfield 241, 3) := by decide +kernel
theorem dX7_hour_57 : decode cX7_hour 57 = .ok (.iload_n 3, 1) := by decide +kernel
theorem dX7_hour_58 : decode cX7_hour 58 = .ok (.iaload, 1) := by decide +kernel
theorem dX7_hour_59 : decode cX7_hour 59 = .ok (.ireturn, 1) := by decide +kernel
theorem dX7_hour_60 : decode cX7_hour 60 = .ok (.aload 4, 2) := by decide +kernel
theorem dX7_hour_62 : decode cX7_hour 62 = .ok (.getfield 246, 3) := by decide +kernel
theorem dX7_hour_65 : decode cX7_hour 65 = .ok (.iload_n 3, 1) := by decide +kernel
theorem dX7_hour_66 : decode cX7_hour 66 = .ok (.iaload, 1) := by decide +kernel
theorem dX7_hour_67 : decode cX7_hour 67 = .ok (.ireturn, 1) := by decide +kernel
theorem dX7_hour_68 : decode cX7_hour 68 = .ok (.aload 4, 2) := by decide +kernel
theorem dX7_hour_70 : decode cX7_hour 70 = .ok (.getfield 249, 3) := by decide +kernel
theorem dX7_hour_73 : decode cX7_hour 73 = .ok (.iload_n 3, 1) := by decide +kernel
theorem dX7_hour_74 : decode cX7_hour 74 = .ok (.iaload, 1) := by decide +kernel
theorem dX7_hour_75 : decode cX7_hour 75 = .ok (.ireturn, 1) := by decide +kernel
theorem dX7_hour_76 : decode cX7_hour 76 = .ok (.aload 4, 2) := by decide +kernel
theorem dX7_hour_78 : decode cX7_hour 78 = .ok (.getfield 252, 3) := by decide +kernel
theorem dX7_hour_81 : decode cX7_hour 81 = .ok (.iload_n 3, 1) := by decide +kernel
theorem dX7_hour_82 : decode cX7_hour 82 = .ok (.iaload, 1) := by decide +kernel
theorem dX7_hour_83 : decode cX7_hour 83 = .ok (.invokestatic 154, 3) := by decide +kernel
theorem dX7_hour_86 : decode cX7_hour 86 = .ok (.ireturn, 1) := by decide +kernel
theorem dX7_hour_87 : decode cX7_hour 87 = .ok (.aload 4, 2) := by decide +kernel
theorem dX7_hour_89 : decode cX7_hour 89 = .ok (.getfield 254, 3) := by decide +kernel
theorem dX7_hour_92 : decode cX7_hour 92 = .ok (.iload_n 3, 1) := by decide +kernel
theorem dX7_hour_93 : decode cX7_hour 93 = .ok (.iaload, 1) := by decide +kernel
theorem dX7_hour_94 : decode cX7_hour 94 = .ok (.ireturn, 1) := by decide +kernel
theorem dX7_hour_95 : decode cX7_hour 95 = .ok (.new 180, 3) := by decide +kernel
theorem dX7_hour_98 : decode cX7_hour 98 = .ok (.dup, 1) := by decide +kernel
theorem dX7_hour_99 : decode cX7_hour 99 = .ok (.ldc 182, 2) := by decide +kernel
theorem dX7_hour_101 : decode cX7_hour 101 = .ok (.invokespecial 184, 3) := by decide +kernel
theorem dX7_hour_104 : decode cX7_hour 104 = .ok (.athrow, 1) := by decide +kernel
theorem dX7_level_0 : decode cX7_level 0 = .ok (.aload_n 0, 1) := by decide +kernel
theorem dX7_level_1 : decode cX7_level 1 = .ok (.iload_n 1, 1) := by decide +kernel
theorem dX7_level_2 : decode cX7_level 2 = .ok (.invokevirtual 234, 3) := by decide +kernel
theorem dX7_level_5 : decode cX7_level 5 = .ok (.istore_n 2, 1) := by decide +kernel
theorem dX7_level_6 : decode cX7_level 6 = .ok (.aload_n 0, 1) := by decide +kernel
theorem dX7_level_7 : decode cX7_level 7 = .ok (.getfield 10, 3) := by decide +kernel
theorem dX7_level_10 : decode cX7_level 10 = .ok (.getfield 237, 3) := by decide +kernel
theorem dX7_level_13 : decode cX7_level 13 = .ok (.getfield 249, 3) := by decide +kernel
theorem dX7_level_16 : decode cX7_level 16 = .ok (.iload_n 2, 1) := by decide +kernel
theorem dX7_level_17 : decode cX7_level 17 = .ok (.iaload, 1) := by decide +kernel
theorem dX7_level_18 : decode cX7_level 18 = .ok (.ifCond .ne 14, 3) := by decide +kernel
theorem dX7_level_21 : decode cX7_level 21 = .ok (.new 257, 3) := by decide +kernel
theorem dX7_level_24 : decode cX7_level 24 = .ok (.dup, 1) := by decide +kernel
theorem dX7_level_25 : decode cX7_level 25 = .ok (.ldc_w 259, 3) := by decide +kernel
theorem dX7_level_28 : decode cX7_level 28 = .ok (.invokespecial 261, 3) := by decide +kernel
theorem dX7_level_31 : decode cX7_level 31 = .ok (.athrow, 1) := by decide +kernel
theorem dX7_level_32 : decode cX7_level 32 = .ok (.aload_n 0, 1) := by decide +kernel
theorem dX7_level_33 : decode cX7_level 33 = .ok (.getfield 10, 3) := by decide +kernel
theorem dX7_level_36 : decode cX7_level 36 = .ok (.getfield 237, 3) := by decide +kernel
theorem dX7_level_39 : decode cX7_level 39 = .ok (.getfield 262, 3) := by decide +kernel
theorem dX7_level_42 : decode cX7_level 42 = .ok (.iload_n 2, 1) := by decide +kernel
theorem dX7_level_43 : decode cX7_level 43 = .ok (.iaload, 1) := by decide +kernel
theorem dX7_level_44 : decode cX7_level 44 = .ok (.ireturn, 1) := by decide +kernel
theorem dX7_value_0 : decode cX7_value 0 = .ok (.aload_n 0, 1) := by decide +kernel
theorem dX7_value_1 : decode cX7_value 1 = .ok (.iload_n 1, 1) := by decide +kernel
theorem dX7_value_2 : decode cX7_value 2 = .ok (.invokevirtual 234, 3) := by decide +kernel
theorem dX7_value_5 : decode cX7_value 5 = .ok (.istore_n 3, 1) := by decide +kernel
theorem dX7_value_6 : decode cX7_value 6 = .ok (.aload_n 0, 1) := by decide +kernel
theorem dX7_value_7 : decode cX7_value 7 = .ok (.iload_n 2, 1) := by decide +kernel
theorem dX7_value_8 : decode cX7_value 8 = .ok (.invokevirtual 185, 3) := by decide +kernel
theorem dX7_value_11 : decode cX7_value 11 = .ok (.aload_n 0, 1) := by decide +kernel
theorem dX7_value_12 : decode cX7_value 12 = .ok (.getfield 10, 3) := by decide +kernel
theorem dX7_value_15 : decode cX7_value 15 = .ok (.getfield 237, 3) := by decide +kernel
theorem dX7_value_18 : decode cX7_value 18 = .ok (.getfield 252, 3) := by decide +kernel
theorem dX7_value_21 : decode cX7_value 21 = .ok (.iload_n 3, 1) := by decide +kernel
theorem dX7_value_22 : decode cX7_value 22 = .ok (.iaload, 1) := by decide +kernel
theorem dX7_value_23 : decode cX7_value 23 = .ok (.iload_n 2, 1) := by decide +kernel
theorem dX7_value_24 : decode cX7_value 24 = .ok (.invokestatic 215, 3) := by decide +kernel
theorem dX7_value_27 : decode cX7_value 27 = .ok (.ifCond .ne 14, 3) := by decide +kernel
theorem dX7_value_30 : decode cX7_value 30 = .ok (.new 257, 3) := by decide +kernel
theorem dX7_value_33 : decode cX7_value 33 = .ok (.dup, 1) := by decide +kernel
theorem dX7_value_34 : decode cX7_value 34 = .ok (.ldc_w 265, 3) := by decide +kernel
theorem dX7_value_37 : decode cX7_value 37 = .ok (.invokespecial 261, 3) := by decide +kernel
theorem dX7_value_40 : decode cX7_value 40 = .ok (.athrow, 1) := by decide +kernel
theorem dX7_value_41 : decode cX7_value 41 = .ok (.aload_n 0, 1) := by decide +kernel
theorem dX7_value_42 : decode cX7_value 42 = .ok (.getfield 10, 3) := by decide +kernel
theorem dX7_value_45 : decode cX7_value 45 = .ok (.getfield 237, 3) := by decide +kernel
theorem dX7_value_48 : decode cX7_value 48 = .ok (.getfield 267, 3) := by decide +kernel
theorem dX7_value_51 : decode cX7_value 51 = .ok (.iload_n 3, 1) := by decide +kernel
theorem dX7_value_52 : decode cX7_value 52 = .ok (.bipush 10, 2) := by decide +kernel
theorem dX7_value_54 : decode cX7_value 54 = .ok (.imul, 1) := by decide +kernel
theorem dX7_value_55 : decode cX7_value 55 = .ok (.iload_n 2, 1) := by decide +kernel
theorem dX7_value_56 : decode cX7_value 56 = .ok (.iadd, 1) := by decide +kernel
theorem dX7_value_57 : decode cX7_value 57 = .ok (.iaload, 1) := by decide +kernel
theorem dX7_value_58 : decode cX7_value 58 = .ok (.ireturn, 1) := by decide +kernel
theorem dX7_why_0 : decode cX7_why 0 = .ok (.aload_n 0, 1) := by decide +kernel
theorem dX7_why_1 : decode cX7_why 1 = .ok (.iload_n 1, 1) := by decide +kernel
theorem dX7_why_2 : decode cX7_why 2 = .ok (.invokevirtual 234, 3) := by decide +kernel
theorem dX7_why_5 : decode cX7_why 5 = .ok (.istore_n 3, 1) := by decide +kernel
theorem dX7_why_6 : decode cX7_why 6 = .ok (.aload_n 0, 1) := by decide +kernel
theorem dX7_why_7 : decode cX7_why 7 = .ok (.iload_n 2, 1) := by decide +kernel
theorem dX7_why_8 : decode cX7_why 8 = .ok (.invokevirtual 185, 3) := by decide +kernel
theorem dX7_why_11 : decode cX7_why 11 = .ok (.aload_n 0, 1) := by decide +kernel
theorem dX7_why_12 : decode cX7_why 12 = .ok (.getfield 10, 3) := by decide +kernel
theorem dX7_why_15 : decode cX7_why 15 = .ok (.getfield 237, 3) := by decide +kernel
theorem dX7_why_18 : decode cX7_why 18 = .ok (.astore 4, 2) := by decide +kernel
theorem dX7_why_20 : decode cX7_why 20 = .ok (.aload 4, 2) := by decide +kernel
theorem dX7_why_22 : decode cX7_why 22 = .ok (.getfield 252, 3) := by decide +kernel
theorem dX7_why_25 : decode cX7_why 25 = .ok (.iload_n 3, 1) := by decide +kernel
theorem dX7_why_26 : decode cX7_why 26 = .ok (.iaload, 1) := by decide +kernel
theorem dX7_why_27 : decode cX7_why 27 = .ok (.iload_n 2, 1) := by decide +kernel
theorem dX7_why_28 : decode cX7_why 28 = .ok (.invokestatic 215, 3) := by decide +kernel
theorem dX7_why_31 : decode cX7_why 31 = .ok (.ifCond .ne 5, 3) := by decide +kernel
theorem dX7_why_34 : decode cX7_why 34 = .ok (.iconst 1, 1) := by decide +kernel
theorem dX7_why_35 : decode cX7_why 35 = .ok (.ireturn, 1) := by decide +kernel
theorem dX7_why_36 : decode cX7_why 36 = .ok (.aload 4, 2) := by decide +kernel
theorem dX7_why_38 : decode cX7_why 38 = .ok (.getfield 270, 3) := by decide +kernel
theorem dX7_why_41 : decode cX7_why 41 = .ok (.iload_n 3, 1) := by decide +kernel
theorem dX7_why_42 : decode cX7_why 42 = .ok (.iaload, 1) := by decide +kernel
theorem dX7_why_43 : decode cX7_why 43 = .ok (.iload_n 2, 1) := by decide +kernel
theorem dX7_why_44 : decode cX7_why 44 = .ok (.invokestatic 215, 3) := by decide +kernel
theorem dX7_why_47 : decode cX7_why 47 = .ok (.ifCond .eq 5, 3) := by decide +kernel
theorem dX7_why_50 : decode cX7_why 50 = .ok (.iconst 2, 1) := by decide +kernel
theorem dX7_why_51 : decode cX7_why 51 = .ok (.ireturn, 1) := by decide +kernel
theorem dX7_why_52 : decode cX7_why 52 = .ok (.aload 4, 2) := by decide +kernel
theorem dX7_why_54 : decode cX7_why 54 = .ok (.getfield 273, 3) := by decide +kernel
theorem dX7_why_57 : decode cX7_why 57 = .ok (.iload_n 3, 1) := by decide +kernel
theorem dX7_why_58 : decode cX7_why 58 = .ok (.iaload, 1) := by decide +kernel
theorem dX7_why_59 : decode cX7_why 59 = .ok (.iload_n 2, 1) := by decide +kernel
theorem dX7_why_60 : decode cX7_why 60 = .ok (.invokestatic 215, 3) := by decide +kernel
theorem dX7_why_63 : decode cX7_why 63 = .ok (.ifCond .eq 5, 3) := by decide +kernel
theorem dX7_why_66 : decode cX7_why 66 = .ok (.iconst 3, 1) := by decide +kernel
theorem dX7_why_67 : decode cX7_why 67 = .ok (.ireturn, 1) := by decide +kernel
theorem dX7_why_68 : decode cX7_why 68 = .ok (.aload 4, 2) := by decide +kernel
theorem dX7_why_70 : decode cX7_why 70 = .ok (.getfield 254, 3) := by decide +kernel
theorem dX7_why_73 : decode cX7_why 73 = .ok (.iload_n 3, 1) := by decide +kernel
theorem dX7_why_74 : decode cX7_why 74 = .ok (.iaload, 1) := by decide +kernel
theorem dX7_why_75 : decode cX7_why 75 = .ok (.iload_n 2, 1) := by decide +kernel
theorem dX7_why_76 : decode cX7_why 76 = .ok (.invokestatic 215, 3) := by decide +kernel
theorem dX7_why_79 : decode cX7_why 79 = .ok (.ifCond .eq 5, 3) := by decide +kernel
theorem dX7_why_82 : decode cX7_why 82 = .ok (.iconst 5, 1) := by decide +kernel
theorem dX7_why_83 : decode cX7_why 83 = .ok (.ireturn, 1) := by decide +kernel
theorem dX7_why_84 : decode cX7_why 84 = .ok (.aload 4, 2) := by decide +kernel
theorem dX7_why_86 : decode cX7_why 86 = .ok (.getfield 249, 3) := by decide +kernel
theorem dX7_why_89 : decode cX7_why 89 = .ok (.iload_n 3, 1) := by decide +kernel
theorem dX7_why_90 : decode cX7_why 90 = .ok (.iaload, 1) := by decide +kernel
theorem dX7_why_91 : decode cX7_why 91 = .ok (.ifCond .ne 6, 3) := by decide +kernel
theorem dX7_why_94 : decode cX7_why 94 = .ok (.bipush 6, 2) := by decide +kernel
theorem dX7_why_96 : decode cX7_why 96 = .ok (.ireturn, 1) := by decide +kernel
theorem dX7_why_97 : decode cX7_why 97 = .ok (.aload 4, 2) := by decide +kernel
theorem dX7_why_99 : decode cX7_why 99 = .ok (.getfield 246, 3) := by decide +kernel
theorem dX7_why_102 : decode cX7_why 102 = .ok (.iload_n 3, 1) := by decide +kernel
theorem dX7_why_103 : decode cX7_why 103 = .ok (.iaload, 1) := by decide +kernel
theorem dX7_why_104 : decode cX7_why 104 = .ok (.iload_n 2, 1) := by decide +kernel
theorem dX7_why_105 : decode cX7_why 105 = .ok (.invokestatic 215, 3) := by decide +kernel
theorem dX7_why_108 : decode cX7_why 108 = .ok (.ifCond .eq 7, 3) := by decide +kernel
theorem dX7_why_111 : decode cX7_why 111 = .ok (.iconst 0, 1) := by decide +kernel
theorem dX7_why_112 : decode cX7_why 112 = .ok (.goto 4, 3) := by decide +kernel
theorem dX7_why_115 : decode cX7_why 115 = .ok (.iconst 4, 1) := by decide +kernel
theorem dX7_why_116 : decode cX7_why 116 = .ok (.ireturn, 1) := by decide +kernel
theorem dX7_tide_0 : decode cX7_tide 0 = .ok (.aload_n 0, 1) := by decide +kernel
theorem dX7_tide_1 : decode cX7_tide 1 = .ok (.iload_n 1, 1) := by decide +kernel
theorem dX7_tide_2 : decode cX7_tide 2 = .ok (.invokevirtual 234, 3) := by decide +kernel
theorem dX7_tide_5 : decode cX7_tide 5 = .ok (.istore_n 2, 1) := by decide +kernel
theorem dX7_tide_6 : decode cX7_tide 6 = .ok (.aload_n 0, 1) := by decide +kernel
theorem dX7_tide_7 : decode cX7_tide 7 = .ok (.iload_n 1, 1) := by decide +kernel
theorem dX7_tide_8 : decode cX7_tide 8 = .ok (.invokevirtual 276, 3) := by decide +kernel
theorem dX7_tide_11 : decode cX7_tide 11 = .ok (.istore_n 3, 1) := by decide +kernel
theorem dX7_tide_12 : decode cX7_tide 12 = .ok (.aload_n 0, 1) := by decide +kernel
theorem dX7_tide_13 : decode cX7_tide 13 = .ok (.getfield 10, 3) := by decide +kernel
theorem dX7_tide_16 : decode cX7_tide 16 = .ok (.getfield 237, 3) := by decide +kernel
theorem dX7_tide_19 : decode cX7_tide 19 = .ok (.getfield 249, 3) := by decide +kernel
theorem dX7_tide_22 : decode cX7_tide 22 = .ok (.iload_n 2, 1) := by decide +kernel
theorem dX7_tide_23 : decode cX7_tide 23 = .ok (.iaload, 1) := by decide +kernel
theorem dX7_tide_24 : decode cX7_tide 24 = .ok (.ifCond .eq 8, 3) := by decide +kernel
theorem dX7_tide_27 : decode cX7_tide 27 = .ok (.iload_n 3, 1) := by decide +kernel
theorem dX7_tide_28 : decode cX7_tide 28 = .ok (.iconst (-1), 1) := by decide +kernel
theorem dX7_tide_29 : decode cX7_tide 29 = .ok (.if_icmp .ne 14, 3) := by decide +kernel
theorem dX7_tide_32 : decode cX7_tide 32 = .ok (.new 257, 3) := by decide +kernel
theorem dX7_tide_35 : decode cX7_tide 35 = .ok (.dup, 1) := by decide +kernel
theorem dX7_tide_36 : decode cX7_tide 36 = .ok (.ldc_w 279, 3) := by decide +kernel
theorem dX7_tide_39 : decode cX7_tide 39 = .ok (.invokespecial 261, 3) := by decide +kernel
theorem dX7_tide_42 : decode cX7_tide 42 = .ok (.athrow, 1) := by decide +kernel
theorem dX7_tide_43 : decode cX7_tide 43 = .ok (.aload_n 0, 1) := by decide +kernel
theorem dX7_tide_44 : decode cX7_tide 44 = .ok (.getfield 10, 3) := by decide +kernel
theorem dX7_tide_47 : decode cX7_tide 47 = .ok (.getfield 237, 3) := by decide +kernel
theorem dX7_tide_50 : decode cX7_tide 50 = .ok (.getfield 262, 3) := by decide +kernel
theorem dX7_tide_53 : decode cX7_tide 53 = .ok (.iload_n 2, 1) := by decide +kernel
theorem dX7_tide_54 : decode cX7_tide 54 = .ok (.iaload, 1) := by decide +kernel
theorem dX7_tide_55 : decode cX7_tide 55 = .ok (.istore 4, 2) := by decide +kernel
theorem dX7_tide_57 : decode cX7_tide 57 = .ok (.aload_n 0, 1) := by decide +kernel
theorem dX7_tide_58 : decode cX7_tide 58 = .ok (.getfield 10, 3) := by decide +kernel
theorem dX7_tide_61 : decode cX7_tide 61 = .ok (.getfield 237, 3) := by decide +kernel
theorem dX7_tide_64 : decode cX7_tide 64 = .ok (.getfield 262, 3) := by decide +kernel
theorem dX7_tide_67 : decode cX7_tide 67 = .ok (.iload_n 3, 1) := by decide +kernel
theorem dX7_tide_68 : decode cX7_tide 68 = .ok (.iaload, 1) := by decide +kernel
theorem dX7_tide_69 : decode cX7_tide 69 = .ok (.istore 5, 2) := by decide +kernel
theorem dX7_tide_71 : decode cX7_tide 71 = .ok (.iload 4, 2) := by decide +kernel
theorem dX7_tide_73 : decode cX7_tide 73 = .ok (.iload 5, 2) := by decide +kernel
theorem dX7_tide_75 : decode cX7_tide 75 = .ok (.if_icmp .le 7, 3) := by decide +kernel
theorem dX7_tide_78 : decode cX7_tide 78 = .ok (.iconst 1, 1) := by decide +kernel
theorem dX7_tide_79 : decode cX7_tide 79 = .ok (.goto 15, 3) := by decide +kernel
theorem dX7_tide_82 : decode cX7_tide 82 = .ok (.iload 4, 2) := by decide +kernel
theorem dX7_tide_84 : decode cX7_tide 84 = .ok (.iload 5, 2) := by decide +kernel
theorem dX7_tide_86 : decode cX7_tide 86 = .ok (.if_icmp .ge 7, 3) := by decide +kernel
theorem dX7_tide_89 : decode cX7_tide 89 = .ok (.iconst (-1), 1) := by decide +kernel
theorem dX7_tide_90 : decode cX7_tide 90 = .ok (.goto 4, 3) := by decide +kernel
theorem dX7_tide_93 : decode cX7_tide 93 = .ok (.iconst 0, 1) := by decide +kernel
theorem dX7_tide_94 : decode cX7_tide 94 = .ok (.ireturn, 1) := by decide +kernel
theorem dX7_extreme_0 : decode cX7_extreme 0 = .ok (.iconst (-1), 1) := by decide +kernel
theorem dX7_extreme_1 : decode cX7_extreme 1 = .ok (.istore_n 2, 1) := by decide +kernel
theorem dX7_extreme_2 : decode cX7_extreme 2 = .ok (.iconst 0, 1) := by decide +kernel
theorem dX7_extreme_3 : decode cX7_extreme 3 = .ok (.istore_n 3, 1) := by decide +kernel
theorem dX7_extreme_4 : decode cX7_extreme 4 = .ok (.aload_n 0, 1) := by decide +kernel
theorem dX7_extreme_5 : decode cX7_extreme 5 = .ok (.getfield 10, 3) := by decide +kernel
theorem dX7_extreme_8 : decode cX7_extreme 8 = .ok (.invokevirtual 147, 3) := by decide +kernel
theorem dX7_extreme_11 : decode cX7_extreme 11 = .ok (.istore 4, 2) := by decide +kernel
theorem dX7_extreme_13 : decode cX7_extreme 13 = .ok (.iload 4, 2) := by decide +kernel
theorem dX7_extreme_15 : decode cX7_extreme 15 = .ok (.aload_n 0, 1) := by decide +kernel
theorem dX7_extreme_16 : decode cX7_extreme 16 = .ok (.getfield 10, 3) := by decide +kernel
theorem dX7_extreme_19 : decode cX7_extreme 19 = .ok (.getfield 144, 3) := by decide +kernel
theorem dX7_extreme_22 : decode cX7_extreme 22 = .ok (.if_icmp .ge 82, 3) := by decide +kernel
theorem dX7_extreme_25 : decode cX7_extreme 25 = .ok (.aload_n 0, 1) := by decide +kernel
theorem dX7_extreme_26 : decode cX7_extreme 26 = .ok (.getfield 10, 3) := by decide +kernel
theorem dX7_extreme_29 : decode cX7_extreme 29 = .ok (.iload 4, 2) := by decide +kernel
theorem dX7_extreme_31 : decode cX7_extreme 31 = .ok (.invokevirtual 281, 3) := by decide +kernel
theorem dX7_extreme_34 : decode cX7_extreme 34 = .ok (.istore 5, 2) := by decide +kernel
theorem dX7_extreme_36 : decode cX7_extreme 36 = .ok (.aload_n 0, 1) := by decide +kernel
theorem dX7_extreme_37 : decode cX7_extreme 37 = .ok (.getfield 10, 3) := by decide +kernel
theorem dX7_extreme_40 : decode cX7_extreme 40 = .ok (.getfield 237, 3) := by decide +kernel
theorem dX7_extreme_43 : decode cX7_extreme 43 = .ok (.getfield 249, 3) := by decide +kernel
theorem dX7_extreme_46 : decode cX7_extreme 46 = .ok (.iload 5, 2) := by decide +kernel
theorem dX7_extreme_48 : decode cX7_extreme 48 = .ok (.iaload, 1) := by decide +kernel
theorem dX7_extreme_49 : decode cX7_extreme 49 = .ok (.iconst 1, 1) := by decide +kernel
theorem dX7_extreme_50 : decode cX7_extreme 50 = .ok (.if_icmp .ne 48, 3) := by decide +kernel
theorem dX7_extreme_53 : decode cX7_extreme 53 = .ok (.aload_n 0, 1) := by decide +kernel
theorem dX7_extreme_54 : decode cX7_extreme 54 = .ok (.getfield 10, 3) := by decide +kernel
theorem dX7_extreme_57 : decode cX7_extreme 57 = .ok (.getfield 237, 3) := by decide +kernel
theorem dX7_extreme_60 : decode cX7_extreme 60 = .ok (.getfield 262, 3) := by decide +kernel
theorem dX7_extreme_63 : decode cX7_extreme 63 = .ok (.iload 5, 2) := by decide +kernel
theorem dX7_extreme_65 : decode cX7_extreme 65 = .ok (.iaload, 1) := by decide +kernel
theorem dX7_extreme_66 : decode cX7_extreme 66 = .ok (.istore 6, 2) := by decide +kernel
theorem dX7_extreme_68 : decode cX7_extreme 68 = .ok (.iload_n 2, 1) := by decide +kernel
theorem dX7_extreme_69 : decode cX7_extreme 69 = .ok (.iconst (-1), 1) := by decide +kernel
theorem dX7_extreme_70 : decode cX7_extreme 70 = .ok (.if_icmp .eq 22, 3) := by decide +kernel
theorem dX7_extreme_73 : decode cX7_extreme 73 = .ok (.iload_n 1, 1) := by decide +kernel
theorem dX7_extreme_74 : decode cX7_extreme 74 = .ok (.ifCond .eq 12, 3) := by decide +kernel
theorem dX7_extreme_77 : decode cX7_extreme 77 = .ok (.iload 6, 2) := by decide +kernel
theorem dX7_extreme_79 : decode cX7_extreme 79 = .ok (.iload_n 3, 1) := by decide +kernel
theorem dX7_extreme_80 : decode cX7_extreme 80 = .ok (.if_icmp .ge 18, 3) := by decide +kernel
theorem dX7_extreme_83 : decode cX7_extreme 83 = .ok (.goto 9, 3) := by decide +kernel
theorem dX7_extreme_86 : decode cX7_extreme 86 = .ok (.iload 6, 2) := by decide +kernel
theorem dX7_extreme_88 : decode cX7_extreme 88 = .ok (.iload_n 3, 1) := by decide +kernel
theorem dX7_extreme_89 : decode cX7_extreme 89 = .ok (.if_icmp .le 9, 3) := by decide +kernel
theorem dX7_extreme_92 : decode cX7_extreme 92 = .ok (.iload 4, 2) := by decide +kernel
theorem dX7_extreme_94 : decode cX7_extreme 94 = .ok (.istore_n 2, 1) := by decide +kernel
theorem dX7_extreme_95 : decode cX7_extreme 95 = .ok (.iload 6, 2) := by decide +kernel
theorem dX7_extreme_97 : decode cX7_extreme 97 = .ok (.istore_n 3, 1) := by decide +kernel
theorem dX7_extreme_98 : decode cX7_extreme 98 = .ok (.iinc 4 1, 3) := by decide +kernel
theorem dX7_extreme_101 : decode cX7_extreme 101 = .ok (.goto (-88), 3) := by decide +kernel
theorem dX7_extreme_104 : decode cX7_extreme 104 = .ok (.iload_n 2, 1) := by decide +kernel
theorem dX7_extreme_105 : decode cX7_extreme 105 = .ok (.ireturn, 1) := by decide +kernel
theorem dX7_meanLevel_0 : decode cX7_meanLevel 0 = .ok (.aload_n 0, 1) := by decide +kernel
theorem dX7_meanLevel_1 : decode cX7_meanLevel 1 = .ok (.invokevirtual 171, 3) := by decide +kernel
theorem dX7_meanLevel_4 : decode cX7_meanLevel 4 = .ok (.istore_n 1, 1) := by decide +kernel
theorem dX7_meanLevel_5 : decode cX7_meanLevel 5 = .ok (.iload_n 1, 1) := by decide +kernel
theorem dX7_meanLevel_6 : decode cX7_meanLevel 6 = .ok (.ifCond .ne 5, 3) := by decide +kernel
theorem dX7_meanLevel_9 : decode cX7_meanLevel 9 = .ok (.dconst 0, 1) := by decide +kernel
theorem dX7_meanLevel_10 : decode cX7_meanLevel 10 = .ok (.dreturn, 1) := by decide +kernel
theorem dX7_meanLevel_11 : decode cX7_meanLevel 11 = .ok (.iconst 0, 1) := by decide +kernel
theorem dX7_meanLevel_12 : decode cX7_meanLevel 12 = .ok (.istore_n 2, 1) := by decide +kernel
theorem dX7_meanLevel_13 : decode cX7_meanLevel 13 = .ok (.aload_n 0, 1) := by decide +kernel
theorem dX7_meanLevel_14 : decode cX7_meanLevel 14 = .ok (.getfield 10, 3) := by decide +kernel
theorem dX7_meanLevel_17 : decode cX7_meanLevel 17 = .ok (.invokevirtual 147, 3) := by decide +kernel
theorem dX7_meanLevel_20 : decode cX7_meanLevel 20 = .ok (.istore_n 3, 1) := by decide +kernel
theorem dX7_meanLevel_21 : decode cX7_meanLevel 21 = .ok (.iload_n 3, 1) := by decide +kernel
theorem dX7_meanLevel_22 : decode cX7_meanLevel 22 = .ok (.aload_n 0, 1) := by decide +kernel
theorem dX7_meanLevel_23 : decode cX7_meanLevel 23 = .ok (.getfield 10, 3) := by decide +kernel
theorem dX7_meanLevel_26 : decode cX7_meanLevel 26 = .ok (.getfield 144, 3) := by decide +kernel
theorem dX7_meanLevel_29 : decode cX7_meanLevel 29 = .ok (.if_icmp .ge 52, 3) := by decide +kernel
theorem dX7_meanLevel_32 : decode cX7_meanLevel 32 = .ok (.aload_n 0, 1) := by decide +kernel
theorem dX7_meanLevel_33 : decode cX7_meanLevel 33 = .ok (.getfield 10, 3) := by decide +kernel
theorem dX7_meanLevel_36 : decode cX7_meanLevel 36 = .ok (.iload_n 3, 1) := by decide +kernel
theorem dX7_meanLevel_37 : decode cX7_meanLevel 37 = .ok (.invokevirtual 281, 3) := by decide +kernel
theorem dX7_meanLevel_40 : decode cX7_meanLevel 40 = .ok (.istore 4, 2) := by decide +kernel
theorem dX7_meanLevel_42 : decode cX7_meanLevel 42 = .ok (.aload_n 0, 1) := by decide +kernel
theorem dX7_meanLevel_43 : decode cX7_meanLevel 43 = .ok (.getfield 10, 3) := by decide +kernel
theorem dX7_meanLevel_46 : decode cX7_meanLevel 46 = .ok (.getfield 237, 3) := by decide +kernel
theorem dX7_meanLevel_49 : decode cX7_meanLevel 49 = .ok (.getfield 249, 3) := by decide +kernel
theorem dX7_meanLevel_52 : decode cX7_meanLevel 52 = .ok (.iload 4, 2) := by decide +kernel
theorem dX7_meanLevel_54 : decode cX7_meanLevel 54 = .ok (.iaload, 1) := by decide +kernel
theorem dX7_meanLevel_55 : decode cX7_meanLevel 55 = .ok (.iconst 1, 1) := by decide +kernel
theorem dX7_meanLevel_56 : decode cX7_meanLevel 56 = .ok (.if_icmp .ne 19, 3) := by decide +kernel
theorem dX7_meanLevel_59 : decode cX7_meanLevel 59 = .ok (.iload_n 2, 1) := by decide +kernel
theorem dX7_meanLevel_60 : decode cX7_meanLevel 60 = .ok (.aload_n 0, 1) := by decide +kernel
theorem dX7_meanLevel_61 : decode cX7_meanLevel 61 = .ok (.getfield 10, 3) := by decide +kernel
theorem dX7_meanLevel_64 : decode cX7_meanLevel 64 = .ok (.getfield 237, 3) := by decide +kernel
theorem dX7_meanLevel_67 : decode cX7_meanLevel 67 = .ok (.getfield 262, 3) := by decide +kernel
theorem dX7_meanLevel_70 : decode cX7_meanLevel 70 = .ok (.iload 4, 2) := by decide +kernel
theorem dX7_meanLevel_72 : decode cX7_meanLevel 72 = .ok (.iaload, 1) := by decide +kernel
theorem dX7_meanLevel_73 : decode cX7_meanLevel 73 = .ok (.iadd, 1) := by decide +kernel
theorem dX7_meanLevel_74 : decode cX7_meanLevel 74 = .ok (.istore_n 2, 1) := by decide +kernel
theorem dX7_meanLevel_75 : decode cX7_meanLevel 75 = .ok (.iinc 3 1, 3) := by decide +kernel
theorem dX7_meanLevel_78 : decode cX7_meanLevel 78 = .ok (.goto (-57), 3) := by decide +kernel
theorem dX7_meanLevel_81 : decode cX7_meanLevel 81 = .ok (.iload_n 2, 1) := by decide +kernel
theorem dX7_meanLevel_82 : decode cX7_meanLevel 82 = .ok (.i2d, 1) := by decide +kernel
theorem dX7_meanLevel_83 : decode cX7_meanLevel 83 = .ok (.iload_n 1, 1) := by decide +kernel
theorem dX7_meanLevel_84 : decode cX7_meanLevel 84 = .ok (.i2d, 1) := by decide +kernel
theorem dX7_meanLevel_85 : decode cX7_meanLevel 85 = .ok (.ddiv, 1) := by decide +kernel
theorem dX7_meanLevel_86 : decode cX7_meanLevel 86 = .ok (.dreturn, 1) := by decide +kernel
theorem dX7_agreement_0 : decode cX7_agreement 0 = .ok (.aload_n 0, 1) := by decide +kernel
theorem dX7_agreement_1 : decode cX7_agreement 1 = .ok (.iload_n 1, 1) := by decide +kernel
theorem dX7_agreement_2 : decode cX7_agreement 2 = .ok (.invokevirtual 234, 3) := by decide +kernel
theorem dX7_agreement_5 : decode cX7_agreement 5 = .ok (.istore_n 2, 1) := by decide +kernel
theorem dX7_agreement_6 : decode cX7_agreement 6 = .ok (.aload_n 0, 1) := by decide +kernel
theorem dX7_agreement_7 : decode cX7_agreement 7 = .ok (.getfield 10, 3) := by decide +kernel
theorem dX7_agreement_10 : decode cX7_agreement 10 = .ok (.getfield 88, 3) := by decide +kernel
theorem dX7_agreement_13 : decode cX7_agreement 13 = .ok (.aload_n 0, 1) := by decide +kernel
theorem dX7_agreement_14 : decode cX7_agreement 14 = .ok (.getfield 10, 3) := by decide +kernel
theorem dX7_agreement_17 : decode cX7_agreement 17 = .ok (.getfield 237, 3) := by decide +kernel
theorem dX7_agreement_20 : decode cX7_agreement 20 = .ok (.getfield 241, 3) := by decide +kernel
theorem dX7_agreement_23 : decode cX7_agreement 23 = .ok (.iload_n 2, 1) := by decide +kernel
theorem dX7_agreement_24 : decode cX7_agreement 24 = .ok (.iaload, 1) := by decide +kernel
theorem dX7_agreement_25 : decode cX7_agreement 25 = .ok (.invokevirtual 284, 3) := by decide +kernel
theorem dX7_agreement_28 : decode cX7_agreement 28 = .ok (.istore_n 3, 1) := by decide +kernel
theorem dX7_agreement_29 : decode cX7_agreement 29 = .ok (.iload_n 3, 1) := by decide +kernel
theorem dX7_agreement_30 : decode cX7_agreement 30 = .ok (.ifCond .ne 5, 3) := by decide +kernel
theorem dX7_agreement_33 : decode cX7_agreement 33 = .ok (.fconst 0, 1) := by decide +kernel
theorem dX7_agreement_34 : decode cX7_agreement 34 = .ok (.freturn, 1) := by decide +kernel
theorem dX7_agreement_35 : decode cX7_agreement 35 = .ok (.aload_n 0, 1) := by decide +kernel
theorem dX7_agreement_36 : decode cX7_agreement 36 = .ok (.getfield 10, 3) := by decide +kernel
theorem dX7_agreement_39 : decode cX7_agreement 39 = .ok (.getfield 88, 3) := by decide +kernel
theorem dX7_agreement_42 : decode cX7_agreement 42 = .ok (.aload_n 0, 1) := by decide +kernel
theorem dX7_agreement_43 : decode cX7_agreement 43 = .ok (.getfield 10, 3) := by decide +kernel
theorem dX7_agreement_46 : decode cX7_agreement 46 = .ok (.getfield 237, 3) := by decide +kernel
theorem dX7_agreement_49 : decode cX7_agreement 49 = .ok (.getfield 246, 3) := by decide +kernel
theorem dX7_agreement_52 : decode cX7_agreement 52 = .ok (.iload_n 2, 1) := by decide +kernel
theorem dX7_agreement_53 : decode cX7_agreement 53 = .ok (.iaload, 1) := by decide +kernel
theorem dX7_agreement_54 : decode cX7_agreement 54 = .ok (.invokevirtual 284, 3) := by decide +kernel
theorem dX7_agreement_57 : decode cX7_agreement 57 = .ok (.i2f, 1) := by decide +kernel
theorem dX7_agreement_58 : decode cX7_agreement 58 = .ok (.iload_n 3, 1) := by decide +kernel
theorem dX7_agreement_59 : decode cX7_agreement 59 = .ok (.i2f, 1) := by decide +kernel
theorem dX7_agreement_60 : decode cX7_agreement 60 = .ok (.fdiv, 1) := by decide +kernel
theorem dX7_agreement_61 : decode cX7_agreement 61 = .ok (.freturn, 1) := by decide +kernel
theorem dX7_levelNow_0 : decode cX7_levelNow 0 = .ok (.aload_n 0, 1) := by decide +kernel
theorem dX7_levelNow_1 : decode cX7_levelNow 1 = .ok (.getfield 10, 3) := by decide +kernel
theorem dX7_levelNow_4 : decode cX7_levelNow 4 = .ok (.getfield 88, 3) := by decide +kernel
theorem dX7_levelNow_7 : decode cX7_levelNow 7 = .ok (.astore_n 1, 1) := by decide +kernel
theorem dX7_levelNow_8 : decode cX7_levelNow 8 = .ok (.aload_n 1, 1) := by decide +kernel
theorem dX7_levelNow_9 : decode cX7_levelNow 9 = .ok (.aload_n 0, 1) := by decide +kernel
theorem dX7_levelNow_10 : decode cX7_levelNow 10 = .ok (.getfield 47, 3) := by decide +kernel
theorem dX7_levelNow_13 : decode cX7_levelNow 13 = .ok (.iconst 0, 1) := by decide +kernel
theorem dX7_levelNow_14 : decode cX7_levelNow 14 = .ok (.invokevirtual 287, 3) := by decide +kernel
theorem dX7_levelNow_17 : decode cX7_levelNow 17 = .ok (.aload_n 0, 1) := by decide +kernel
theorem dX7_levelNow_18 : decode cX7_levelNow 18 = .ok (.getfield 43, 3) := by decide +kernel
theorem dX7_levelNow_21 : decode cX7_levelNow 21 = .ok (.aload_n 1, 1) := by decide +kernel
theorem dX7_levelNow_22 : decode cX7_levelNow 22 = .ok (.getfield 212, 3) := by decide +kernel
theorem dX7_levelNow_25 : decode cX7_levelNow 25 = .ok (.aload_n 1, 1) := by decide +kernel
theorem dX7_levelNow_26 : decode cX7_levelNow 26 = .ok (.iconst 0, 1) := by decide +kernel
theorem dX7_levelNow_27 : decode cX7_levelNow 27 = .ok (.invokevirtual 151, 3) := by decide +kernel
theorem dX7_levelNow_30 : decode cX7_levelNow 30 = .ok (.iand, 1) := by decide +kernel
theorem dX7_levelNow_31 : decode cX7_levelNow 31 = .ok (.aload_n 1, 1) := by decide +kernel
theorem dX7_levelNow_32 : decode cX7_levelNow 32 = .ok (.getfield 191, 3) := by decide +kernel
theorem dX7_levelNow_35 : decode cX7_levelNow 35 = .ok (.aload_n 0, 1) := by decide +kernel
theorem dX7_levelNow_36 : decode cX7_levelNow 36 = .ok (.getfield 47, 3) := by decide +kernel
theorem dX7_levelNow_39 : decode cX7_levelNow 39 = .ok (.iconst 0, 1) := by decide +kernel
theorem dX7_levelNow_40 : decode cX7_levelNow 40 = .ok (.aload_n 0, 1) := by decide +kernel
theorem dX7_levelNow_41 : decode cX7_levelNow 41 = .ok (.getfield 10, 3) := by decide +kernel
theorem dX7_levelNow_44 : decode cX7_levelNow 44 = .ok (.getfield 79, 3) := by decide +kernel
theorem dX7_levelNow_47 : decode cX7_levelNow 47 = .ok (.invokevirtual 291, 3) := by decide +kernel
theorem dX7_levelNow_50 : decode cX7_levelNow 50 = .ok (.aload_n 0, 1) := by decide +kernel
theorem dX7_levelNow_51 : decode cX7_levelNow 51 = .ok (.getfield 43, 3) := by decide +kernel
theorem dX7_levelNow_54 : decode cX7_levelNow 54 = .ok (.getfield 294, 3) := by decide +kernel
theorem dX7_levelNow_57 : decode cX7_levelNow 57 = .ok (.ifCond .ne 14, 3) := by decide +kernel
theorem dX7_levelNow_60 : decode cX7_levelNow 60 = .ok (.new 257, 3) := by decide +kernel
theorem dX7_levelNow_63 : decode cX7_levelNow 63 = .ok (.dup, 1) := by decide +kernel
theorem dX7_levelNow_64 : decode cX7_levelNow 64 = .ok (.ldc_w 297, 3) := by decide +kernel
theorem dX7_levelNow_67 : decode cX7_levelNow 67 = .ok (.invokespecial 261, 3) := by decide +kernel
theorem dX7_levelNow_70 : decode cX7_levelNow 70 = .ok (.athrow, 1) := by decide +kernel
theorem dX7_levelNow_71 : decode cX7_levelNow 71 = .ok (.aload_n 0, 1) := by decide +kernel
theorem dX7_levelNow_72 : decode cX7_levelNow 72 = .ok (.getfield 43, 3) := by decide +kernel
theorem dX7_levelNow_75 : decode cX7_levelNow 75 = .ok (.getfield 299, 3) := by decide +kernel
theorem dX7_levelNow_78 : decode cX7_levelNow 78 = .ok (.ireturn, 1) := by decide +kernel
theorem dX7_levelWithout_0 : decode cX7_levelWithout 0 = .ok (.aload_n 0, 1) := by decide +kernel
theorem dX7_levelWithout_1 : decode cX7_levelWithout 1 = .ok (.iload_n 1, 1) := by decide +kernel
theorem dX7_levelWithout_2 : decode cX7_levelWithout 2 = .ok (.invokevirtual 234, 3) := by decide +kernel
theorem dX7_levelWithout_5 : decode cX7_levelWithout 5 = .ok (.istore_n 3, 1) := by decide +kernel
theorem dX7_levelWithout_6 : decode cX7_levelWithout 6 = .ok (.aload_n 0, 1) := by decide +kernel
theorem dX7_levelWithout_7 : decode cX7_levelWithout 7 = .ok (.getfield 10, 3) := by decide +kernel
theorem dX7_levelWithout_10 : decode cX7_levelWithout 10 = .ok (.iload_n 3, 1) := by decide +kernel
theorem dX7_levelWithout_11 : decode cX7_levelWithout 11 = .ok (.aload_n 0, 1) := by decide +kernel
theorem dX7_levelWithout_12 : decode cX7_levelWithout 12 = .ok (.getfield 10, 3) := by decide +kernel
theorem dX7_levelWithout_15 : decode cX7_levelWithout 15 = .ok (.getfield 237, 3) := by decide +kernel
theorem dX7_levelWithout_18 : decode cX7_levelWithout 18 = .ok (.getfield 241, 3) := by decide +kernel
theorem dX7_levelWithout_21 : decode cX7_levelWithout 21 = .ok (.iload_n 3, 1) := by decide +kernel
theorem dX7_levelWithout_22 : decode cX7_levelWithout 22 = .ok (.iaload, 1) := by decide +kernel
theorem dX7_levelWithout_23 : decode cX7_levelWithout 23 = .ok (.iload_n 2, 1) := by decide +kernel
theorem dX7_levelWithout_24 : decode cX7_levelWithout 24 = .ok (.iconst (-1), 1) := by decide +kernel
theorem dX7_levelWithout_25 : decode cX7_levelWithout 25 = .ok (.ixor, 1) := by decide +kernel
theorem dX7_levelWithout_26 : decode cX7_levelWithout 26 = .ok (.iand, 1) := by decide +kernel
theorem dX7_levelWithout_27 : decode cX7_levelWithout 27 = .ok (.aload_n 0, 1) := by decide +kernel
theorem dX7_levelWithout_28 : decode cX7_levelWithout 28 = .ok (.getfield 43, 3) := by decide +kernel
theorem dX7_levelWithout_31 : decode cX7_levelWithout 31 = .ok (.invokevirtual 302, 3) := by decide +kernel
theorem dX7_levelWithout_34 : decode cX7_levelWithout 34 = .ok (.aload_n 0, 1) := by decide +kernel
theorem dX7_levelWithout_35 : decode cX7_levelWithout 35 = .ok (.getfield 43, 3) := by decide +kernel
theorem dX7_levelWithout_38 : decode cX7_levelWithout 38 = .ok (.getfield 294, 3) := by decide +kernel
theorem dX7_levelWithout_41 : decode cX7_levelWithout 41 = .ok (.ifCond .ne 14, 3) := by decide +kernel
theorem dX7_levelWithout_44 : decode cX7_levelWithout 44 = .ok (.new 257, 3) := by decide +kernel
theorem dX7_levelWithout_47 : decode cX7_levelWithout 47 = .ok (.dup, 1) := by decide +kernel
theorem dX7_levelWithout_48 : decode cX7_levelWithout 48 = .ok (.ldc_w 306, 3) := by decide +kernel
theorem dX7_levelWithout_51 : decode cX7_levelWithout 51 = .ok (.invokespecial 261, 3) := by decide +kernel
theorem dX7_levelWithout_54 : decode cX7_levelWithout 54 = .ok (.athrow, 1) := by decide +kernel
theorem dX7_levelWithout_55 : decode cX7_levelWithout 55 = .ok (.aload_n 0, 1) := by decide +kernel
theorem dX7_levelWithout_56 : decode cX7_levelWithout 56 = .ok (.getfield 43, 3) := by decide +kernel
theorem dX7_levelWithout_59 : decode cX7_levelWithout 59 = .ok (.getfield 299, 3) := by decide +kernel
theorem dX7_levelWithout_62 : decode cX7_levelWithout 62 = .ok (.ireturn, 1) := by decide +kernel
theorem dX7_needed_0 : decode cX7_needed 0 = .ok (.aload_n 0, 1) := by decide +kernel
theorem dX7_needed_1 : decode cX7_needed 1 = .ok (.iload_n 1, 1) := by decide +kernel
theorem dX7_needed_2 : decode cX7_needed 2 = .ok (.invokevirtual 234, 3) := by decide +kernel
theorem dX7_needed_5 : decode cX7_needed 5 = .ok (.istore_n 2, 1) := by decide +kernel
theorem dX7_needed_6 : decode cX7_needed 6 = .ok (.aload_n 0, 1) := by decide +kernel
theorem dX7_needed_7 : decode cX7_needed 7 = .ok (.getfield 10, 3) := by decide +kernel
theorem dX7_needed_10 : decode cX7_needed 10 = .ok (.getfield 237, 3) := by decide +kernel
theorem dX7_needed_13 : decode cX7_needed 13 = .ok (.getfield 241, 3) := by decide +kernel
theorem dX7_needed_16 : decode cX7_needed 16 = .ok (.iload_n 2, 1) := by decide +kernel
theorem dX7_needed_17 : decode cX7_needed 17 = .ok (.iaload, 1) := by decide +kernel
theorem dX7_needed_18 : decode cX7_needed 18 = .ok (.istore_n 3, 1) := by decide +kernel
theorem dX7_needed_19 : decode cX7_needed 19 = .ok (.iconst 0, 1) := by decide +kernel
theorem dX7_needed_20 : decode cX7_needed 20 = .ok (.istore 4, 2) := by decide +kernel
theorem dX7_needed_22 : decode cX7_needed 22 = .ok (.iconst 0, 1) := by decide +kernel
theorem dX7_needed_23 : decode cX7_needed 23 = .ok (.istore 5, 2) := by decide +kernel
theorem dX7_needed_25 : decode cX7_needed 25 = .ok (.iload 5, 2) := by decide +kernel
theorem dX7_needed_27 : decode cX7_needed 27 = .ok (.aload_n 0, 1) := by decide +kernel
theorem dX7_needed_28 : decode cX7_needed 28 = .ok (.getfield 10, 3) := by decide +kernel
theorem dX7_needed_31 : decode cX7_needed 31 = .ok (.getfield 88, 3) := by decide +kernel
theorem dX7_needed_34 : decode cX7_needed 34 = .ok (.getfield 133, 3) := by decide +kernel
theorem dX7_needed_37 : decode cX7_needed 37 = .ok (.if_icmp .ge 57, 3) := by decide +kernel
theorem dX7_needed_40 : decode cX7_needed 40 = .ok (.iload_n 3, 1) := by decide +kernel
theorem dX7_needed_41 : decode cX7_needed 41 = .ok (.iload 5, 2) := by decide +kernel
theorem dX7_needed_43 : decode cX7_needed 43 = .ok (.invokestatic 215, 3) := by decide +kernel
theorem dX7_needed_46 : decode cX7_needed 46 = .ok (.ifCond .eq 42, 3) := by decide +kernel
theorem dX7_needed_49 : decode cX7_needed 49 = .ok (.aload_n 0, 1) := by decide +kernel
theorem dX7_needed_50 : decode cX7_needed 50 = .ok (.getfield 10, 3) := by decide +kernel
theorem dX7_needed_53 : decode cX7_needed 53 = .ok (.iload_n 2, 1) := by decide +kernel
theorem dX7_needed_54 : decode cX7_needed 54 = .ok (.iload_n 3, 1) := by decide +kernel
theorem dX7_needed_55 : decode cX7_needed 55 = .ok (.iconst 1, 1) := by decide +kernel
theorem dX7_needed_56 : decode cX7_needed 56 = .ok (.iload 5, 2) := by decide +kernel
theorem dX7_needed_58 : decode cX7_needed 58 = .ok (.ishl, 1) := by decide +kernel
theorem dX7_needed_59 : decode cX7_needed 59 = .ok (.iconst (-1), 1) := by decide +kernel
theorem dX7_needed_60 : decode cX7_needed 60 = .ok (.ixor, 1) := by decide +kernel
theorem dX7_needed_61 : decode cX7_needed 61 = .ok (.iand, 1) := by decide +kernel
theorem dX7_needed_62 : decode cX7_needed 62 = .ok (.aload_n 0, 1) := by decide +kernel
theorem dX7_needed_63 : decode cX7_needed 63 = .ok (.getfield 43, 3) := by decide +kernel
theorem dX7_needed_66 : decode cX7_needed 66 = .ok (.invokevirtual 302, 3) := by decide +kernel
theorem dX7_needed_69 : decode cX7_needed 69 = .ok (.aload_n 0, 1) := by decide +kernel
theorem dX7_needed_70 : decode cX7_needed 70 = .ok (.getfield 43, 3) := by decide +kernel
theorem dX7_needed_73 : decode cX7_needed 73 = .ok (.getfield 294, 3) := by decide +kernel
theorem dX7_needed_76 : decode cX7_needed 76 = .ok (.ifCond .ne 12, 3) := by decide +kernel
theorem dX7_needed_79 : decode cX7_needed 79 = .ok (.iload 4, 2) := by decide +kernel
theorem dX7_needed_81 : decode cX7_needed 81 = .ok (.iconst 1, 1) := by decide +kernel
theorem dX7_needed_82 : decode cX7_needed 82 = .ok (.iload 5, 2) := by decide +kernel
theorem dX7_needed_84 : decode cX7_needed 84 = .ok (.ishl, 1) := by decide +kernel
theorem dX7_needed_85 : decode cX7_needed 85 = .ok (.ior, 1) := by decide +kernel
theorem dX7_needed_86 : decode cX7_needed 86 = .ok (.istore 4, 2) := by decide +kernel
theorem dX7_needed_88 : decode cX7_needed 88 = .ok (.iinc 5 1, 3) := by decide +kernel
theorem dX7_needed_91 : decode cX7_needed 91 = .ok (.goto (-66), 3) := by decide +kernel
theorem dX7_needed_94 : decode cX7_needed 94 = .ok (.iload 4, 2) := by decide +kernel
theorem dX7_needed_96 : decode cX7_needed 96 = .ok (.ireturn, 1) := by decide +kernel
theorem dX7_segments_0 : decode cX7_segments 0 = .ok (.aload_n 0, 1) := by decide +kernel
theorem dX7_segments_1 : decode cX7_segments 1 = .ok (.getfield 10, 3) := by decide +kernel
theorem dX7_segments_4 : decode cX7_segments 4 = .ok (.getfield 159, 3) := by decide +kernel
theorem dX7_segments_7 : decode cX7_segments 7 = .ok (.getfield 163, 3) := by decide +kernel
theorem dX7_segments_10 : decode cX7_segments 10 = .ok (.invokestatic 154, 3) := by decide +kernel
theorem dX7_segments_13 : decode cX7_segments 13 = .ok (.iconst 1, 1) := by decide +kernel
theorem dX7_segments_14 : decode cX7_segments 14 = .ok (.iadd, 1) := by decide +kernel
theorem dX7_segments_15 : decode cX7_segments 15 = .ok (.ireturn, 1) := by decide +kernel
theorem dX7_segmentOf_0 : decode cX7_segmentOf 0 = .ok (.aload_n 0, 1) := by decide +kernel
theorem dX7_segmentOf_1 : decode cX7_segmentOf 1 = .ok (.iload_n 1, 1) := by decide +kernel
theorem dX7_segmentOf_2 : decode cX7_segmentOf 2 = .ok (.invokevirtual 185, 3) := by decide +kernel
theorem dX7_segmentOf_5 : decode cX7_segmentOf 5 = .ok (.iconst 0, 1) := by decide +kernel
theorem dX7_segmentOf_6 : decode cX7_segmentOf 6 = .ok (.istore_n 2, 1) := by decide +kernel
theorem dX7_segmentOf_7 : decode cX7_segmentOf 7 = .ok (.iconst 0, 1) := by decide +kernel
theorem dX7_segmentOf_8 : decode cX7_segmentOf 8 = .ok (.istore_n 3, 1) := by decide +kernel
theorem dX7_segmentOf_9 : decode cX7_segmentOf 9 = .ok (.iload_n 3, 1) := by decide +kernel
theorem dX7_segmentOf_10 : decode cX7_segmentOf 10 = .ok (.aload_n 0, 1) := by decide +kernel
theorem dX7_segmentOf_11 : decode cX7_segmentOf 11 = .ok (.getfield 10, 3) := by decide +kernel
theorem dX7_segmentOf_14 : decode cX7_segmentOf 14 = .ok (.getfield 88, 3) := by decide +kernel
theorem dX7_segmentOf_17 : decode cX7_segmentOf 17 = .ok (.getfield 133, 3) := by decide +kernel
theorem dX7_segmentOf_20 : decode cX7_segmentOf 20 = .ok (.if_icmp .ge 48, 3) := by decide +kernel
theorem dX7_segmentOf_23 : decode cX7_segmentOf 23 = .ok (.iload_n 2, 1) := by decide +kernel
theorem dX7_segmentOf_24 : decode cX7_segmentOf 24 = .ok (.iconst 1, 1) := by decide +kernel
theorem dX7_segmentOf_25 : decode cX7_segmentOf 25 = .ok (.iload_n 3, 1) := by decide +kernel
theorem dX7_segmentOf_26 : decode cX7_segmentOf 26 = .ok (.ishl, 1) := by decide +kernel
theorem dX7_segmentOf_27 : decode cX7_segmentOf 27 = .ok (.ior, 1) := by decide +kernel
theorem dX7_segmentOf_28 : decode cX7_segmentOf 28 = .ok (.istore_n 2, 1) := by decide +kernel
theorem dX7_segmentOf_29 : decode cX7_segmentOf 29 = .ok (.aload_n 0, 1) := by decide +kernel
theorem dX7_segmentOf_30 : decode cX7_segmentOf 30 = .ok (.getfield 10, 3) := by decide +kernel
theorem dX7_segmentOf_33 : decode cX7_segmentOf 33 = .ok (.iload_n 3, 1) := by decide +kernel
theorem dX7_segmentOf_34 : decode cX7_segmentOf 34 = .ok (.aload_n 0, 1) := by decide +kernel
theorem dX7_segmentOf_35 : decode cX7_segmentOf 35 = .ok (.getfield 10, 3) := by decide +kernel
theorem dX7_segmentOf_38 : decode cX7_segmentOf 38 = .ok (.getfield 159, 3) := by decide +kernel
theorem dX7_segmentOf_41 : decode cX7_segmentOf 41 = .ok (.getfield 163, 3) := by decide +kernel
theorem dX7_segmentOf_44 : decode cX7_segmentOf 44 = .ok (.invokevirtual 308, 3) := by decide +kernel
theorem dX7_segmentOf_47 : decode cX7_segmentOf 47 = .ok (.ifCond .eq 15, 3) := by decide +kernel
theorem dX7_segmentOf_50 : decode cX7_segmentOf 50 = .ok (.iload_n 2, 1) := by decide +kernel
theorem dX7_segmentOf_51 : decode cX7_segmentOf 51 = .ok (.iload_n 1, 1) := by decide +kernel
theorem dX7_segmentOf_52 : decode cX7_segmentOf 52 = .ok (.invokestatic 215, 3) := by decide +kernel
theorem dX7_segmentOf_55 : decode cX7_segmentOf 55 = .ok (.ifCond .eq 5, 3) := by decide +kernel
theorem dX7_segmentOf_58 : decode cX7_segmentOf 58 = .ok (.iload_n 2, 1) := by decide +kernel
theorem dX7_segmentOf_59 : decode cX7_segmentOf 59 = .ok (.ireturn, 1) := by decide +kernel
theorem dX7_segmentOf_60 : decode cX7_segmentOf 60 = .ok (.iconst 0, 1) := by decide +kernel
theorem dX7_segmentOf_61 : decode cX7_segmentOf 61 = .ok (.istore_n 2, 1) := by decide +kernel
theorem dX7_segmentOf_62 : decode cX7_segmentOf 62 = .ok (.iinc 3 1, 3) := by decide +kernel
theorem dX7_segmentOf_65 : decode cX7_segmentOf 65 = .ok (.goto (-56), 3) := by decide +kernel
theorem dX7_segmentOf_68 : decode cX7_segmentOf 68 = .ok (.iload_n 2, 1) := by decide +kernel
theorem dX7_segmentOf_69 : decode cX7_segmentOf 69 = .ok (.ireturn, 1) := by decide +kernel
theorem dX7_weakest_0 : decode cX7_weakest 0 = .ok (.iconst (-1), 1) := by decide +kernel
theorem dX7_weakest_1 : decode cX7_weakest 1 = .ok (.istore_n 1, 1) := by decide +kernel
theorem dX7_weakest_2 : decode cX7_weakest 2 = .ok (.iconst 0, 1) := by decide +kernel
theorem dX7_weakest_3 : decode cX7_weakest 3 = .ok (.istore_n 2, 1) := by decide +kernel
theorem dX7_weakest_4 : decode cX7_weakest 4 = .ok (.iconst 0, 1) := by decide +kernel
theorem dX7_weakest_5 : decode cX7_weakest 5 = .ok (.istore_n 3, 1) := by decide +kernel
theorem dX7_weakest_6 : decode cX7_weakest 6 = .ok (.iload_n 3, 1) := by decide +kernel
theorem dX7_weakest_7 : decode cX7_weakest 7 = .ok (.aload_n 0, 1) := by decide +kernel
theorem dX7_weakest_8 : decode cX7_weakest 8 = .ok (.getfield 10, 3) := by decide +kernel
theorem dX7_weakest_11 : decode cX7_weakest 11 = .ok (.getfield 88, 3) := by decide +kernel
theorem dX7_weakest_14 : decode cX7_weakest 14 = .ok (.getfield 133, 3) := by decide +kernel
theorem dX7_weakest_17 : decode cX7_weakest 17 = .ok (.iconst 1, 1) := by decide +kernel
theorem dX7_weakest_18 : decode cX7_weakest 18 = .ok (.isub, 1) := by decide +kernel
theorem dX7_weakest_19 : decode cX7_weakest 19 = .ok (.if_icmp .ge 69, 3) := by decide +kernel
theorem dX7_weakest_22 : decode cX7_weakest 22 = .ok (.aload_n 0, 1) := by decide +kernel
theorem dX7_weakest_23 : decode cX7_weakest 23 = .ok (.getfield 10, 3) := by decide +kernel
theorem dX7_weakest_26 : decode cX7_weakest 26 = .ok (.getfield 159, 3) := by decide +kernel
theorem dX7_weakest_29 : decode cX7_weakest 29 = .ok (.getfield 228, 3) := by decide +kernel
theorem dX7_weakest_32 : decode cX7_weakest 32 = .ok (.iload_n 3, 1) := by decide +kernel
theorem dX7_weakest_33 : decode cX7_weakest 33 = .ok (.iaload, 1) := by decide +kernel
theorem dX7_weakest_34 : decode cX7_weakest 34 = .ok (.aload_n 0, 1) := by decide +kernel
theorem dX7_weakest_35 : decode cX7_weakest 35 = .ok (.getfield 10, 3) := by decide +kernel
theorem dX7_weakest_38 : decode cX7_weakest 38 = .ok (.getfield 159, 3) := by decide +kernel
theorem dX7_weakest_41 : decode cX7_weakest 41 = .ok (.getfield 231, 3) := by decide +kernel
theorem dX7_weakest_44 : decode cX7_weakest 44 = .ok (.iload_n 3, 1) := by decide +kernel
theorem dX7_weakest_45 : decode cX7_weakest 45 = .ok (.iaload, 1) := by decide +kernel
theorem dX7_weakest_46 : decode cX7_weakest 46 = .ok (.isub, 1) := by decide +kernel
theorem dX7_weakest_47 : decode cX7_weakest 47 = .ok (.istore 4, 2) := by decide +kernel
theorem dX7_weakest_49 : decode cX7_weakest 49 = .ok (.aload_n 0, 1) := by decide +kernel
theorem dX7_weakest_50 : decode cX7_weakest 50 = .ok (.getfield 10, 3) := by decide +kernel
theorem dX7_weakest_53 : decode cX7_weakest 53 = .ok (.getfield 159, 3) := by decide +kernel
theorem dX7_weakest_56 : decode cX7_weakest 56 = .ok (.getfield 163, 3) := by decide +kernel
theorem dX7_weakest_59 : decode cX7_weakest 59 = .ok (.iload_n 3, 1) := by decide +kernel
theorem dX7_weakest_60 : decode cX7_weakest 60 = .ok (.invokestatic 215, 3) := by decide +kernel
theorem dX7_weakest_63 : decode cX7_weakest 63 = .ok (.ifCond .ne 19, 3) := by decide +kernel
theorem dX7_weakest_66 : decode cX7_weakest 66 = .ok (.iload_n 1, 1) := by decide +kernel
theorem dX7_weakest_67 : decode cX7_weakest 67 = .ok (.iconst (-1), 1) := by decide +kernel
theorem dX7_weakest_68 : decode cX7_weakest 68 = .ok (.if_icmp .eq 9, 3) := by decide +kernel
theorem dX7_weakest_71 : decode cX7_weakest 71 = .ok (.iload 4, 2) := by decide +kernel
theorem dX7_weakest_73 : decode cX7_weakest 73 = .ok (.iload_n 2, 1) := by decide +kernel
theorem dX7_weakest_74 : decode cX7_weakest 74 = .ok (.if_icmp .ge 8, 3) := by decide +kernel
theorem dX7_weakest_77 : decode cX7_weakest 77 = .ok (.iload_n 3, 1) := by decide +kernel
theorem dX7_weakest_78 : decode cX7_weakest 78 = .ok (.istore_n 1, 1) := by decide +kernel
theorem dX7_weakest_79 : decode cX7_weakest 79 = .ok (.iload 4, 2) := by decide +kernel
theorem dX7_weakest_81 : decode cX7_weakest 81 = .ok (.istore_n 2, 1) := by decide +kernel
theorem dX7_weakest_82 : decode cX7_weakest 82 = .ok (.iinc 3 1, 3) := by decide +kernel
theorem dX7_weakest_85 : decode cX7_weakest 85 = .ok (.goto (-79), 3) := by decide +kernel
theorem dX7_weakest_88 : decode cX7_weakest 88 = .ok (.iload_n 1, 1) := by decide +kernel
theorem dX7_weakest_89 : decode cX7_weakest 89 = .ok (.ireturn, 1) := by decide +kernel
theorem dX7_wouldBreak_0 : decode cX7_wouldBreak 0 = .ok (.aload_n 0, 1) := by decide +kernel
theorem dX7_wouldBreak_1 : decode cX7_wouldBreak 1 = .ok (.iload_n 1, 1) := by decide +kernel
theorem dX7_wouldBreak_2 : decode cX7_wouldBreak 2 = .ok (.iload_n 2, 1) := by decide +kernel
theorem dX7_wouldBreak_3 : decode cX7_wouldBreak 3 = .ok (.iload_n 3, 1) := by decide +kernel
theorem dX7_wouldBreak_4 : decode cX7_wouldBreak 4 = .ok (.invokevirtual 311, 3) := by decide +kernel
theorem dX7_wouldBreak_7 : decode cX7_wouldBreak 7 = .ok (.aload_n 0, 1) := by decide +kernel
theorem dX7_wouldBreak_8 : decode cX7_wouldBreak 8 = .ok (.getfield 10, 3) := by decide +kernel
theorem dX7_wouldBreak_11 : decode cX7_wouldBreak 11 = .ok (.iload_n 1, 1) := by decide +kernel
theorem dX7_wouldBreak_12 : decode cX7_wouldBreak 12 = .ok (.iload_n 2, 1) := by decide +kernel
theorem dX7_wouldBreak_13 : decode cX7_wouldBreak 13 = .ok (.iload_n 3, 1) := by decide +kernel
theorem dX7_wouldBreak_14 : decode cX7_wouldBreak 14 = .ok (.invokevirtual 315, 3) := by decide +kernel
theorem dX7_wouldBreak_17 : decode cX7_wouldBreak 17 = .ok (.ireturn, 1) := by decide +kernel
theorem dX7_wouldDrift_0 : decode cX7_wouldDrift 0 = .ok (.aload_n 0, 1) := by decide +kernel
theorem dX7_wouldDrift_1 : decode cX7_wouldDrift 1 = .ok (.iload_n 1, 1) := by decide +kernel
theorem dX7_wouldDrift_2 : decode cX7_wouldDrift 2 = .ok (.iload_n 2, 1) := by decide +kernel
theorem dX7_wouldDrift_3 : decode cX7_wouldDrift 3 = .ok (.iload_n 3, 1) := by decide +kernel
theorem dX7_wouldDrift_4 : decode cX7_wouldDrift 4 = .ok (.invokevirtual 311, 3) := by decide +kernel
theorem dX7_wouldDrift_7 : decode cX7_wouldDrift 7 = .ok (.aload_n 0, 1) := by decide +kernel
theorem dX7_wouldDrift_8 : decode cX7_wouldDrift 8 = .ok (.getfield 10, 3) := by decide +kernel
theorem dX7_wouldDrift_11 : decode cX7_wouldDrift 11 = .ok (.iload_n 1, 1) := by decide +kernel
theorem dX7_wouldDrift_12 : decode cX7_wouldDrift 12 = .ok (.iload_n 2, 1) := by decide +kernel
theorem dX7_wouldDrift_13 : decode cX7_wouldDrift 13 = .ok (.iload_n 3, 1) := by decide +kernel
theorem dX7_wouldDrift_14 : decode cX7_wouldDrift 14 = .ok (.invokevirtual 319, 3) := by decide +kernel
theorem dX7_wouldDrift_17 : decode cX7_wouldDrift 17 = .ok (.ireturn, 1) := by decide +kernel
theorem dX7_leastStorm_0 : decode cX7_leastStorm 0 = .ok (.iconst 1, 1) := by decide +kernel
theorem dX7_leastStorm_1 : decode cX7_leastStorm 1 = .ok (.istore_n 1, 1) := by decide +kernel
theorem dX7_leastStorm_2 : decode cX7_leastStorm 2 = .ok (.iload_n 1, 1) := by decide +kernel
theorem dX7_leastStorm_3 : decode cX7_leastStorm 3 = .ok (.bipush 99, 2) := by decide +kernel
theorem dX7_leastStorm_5 : decode cX7_leastStorm 5 = .ok (.if_icmp .gt 35, 3) := by decide +kernel
theorem dX7_leastStorm_8 : decode cX7_leastStorm 8 = .ok (.aload_n 0, 1) := by decide +kernel
theorem dX7_leastStorm_9 : decode cX7_leastStorm 9 = .ok (.getfield 10, 3) := by decide +kernel
theorem dX7_leastStorm_12 : decode cX7_leastStorm 12 = .ok (.iload_n 1, 1) := by decide +kernel
theorem dX7_leastStorm_13 : decode cX7_leastStorm 13 = .ok (.iconst 0, 1) := by decide +kernel
theorem dX7_leastStorm_14 : decode cX7_leastStorm 14 = .ok (.aload_n 0, 1) := by decide +kernel
theorem dX7_leastStorm_15 : decode cX7_leastStorm 15 = .ok (.getfield 10, 3) := by decide +kernel
theorem dX7_leastStorm_18 : decode cX7_leastStorm 18 = .ok (.getfield 88, 3) := by decide +kernel
theorem dX7_leastStorm_21 : decode cX7_leastStorm 21 = .ok (.getfield 133, 3) := by decide +kernel
theorem dX7_leastStorm_24 : decode cX7_leastStorm 24 = .ok (.iconst 1, 1) := by decide +kernel
theorem dX7_leastStorm_25 : decode cX7_leastStorm 25 = .ok (.isub, 1) := by decide +kernel
theorem dX7_leastStorm_26 : decode cX7_leastStorm 26 = .ok (.invokevirtual 319, 3) := by decide +kernel
theorem dX7_leastStorm_29 : decode cX7_leastStorm 29 = .ok (.ifCond .eq 5, 3) := by decide +kernel
theorem dX7_leastStorm_32 : decode cX7_leastStorm 32 = .ok (.iload_n 1, 1) := by decide +kernel
theorem dX7_leastStorm_33 : decode cX7_leastStorm 33 = .ok (.ireturn, 1) := by decide +kernel
theorem dX7_leastStorm_34 : decode cX7_leastStorm 34 = .ok (.iinc 1 1, 3) := by decide +kernel
theorem dX7_leastStorm_37 : decode cX7_leastStorm 37 = .ok (.goto (-35), 3) := by decide +kernel
theorem dX7_leastStorm_40 : decode cX7_leastStorm 40 = .ok (.iconst (-1), 1) := by decide +kernel
theorem dX7_leastStorm_41 : decode cX7_leastStorm 41 = .ok (.ireturn, 1) := by decide +kernel
theorem dX7_lacks_0 : decode cX7_lacks 0 = .ok (.aload_n 0, 1) := by decide +kernel
theorem dX7_lacks_1 : decode cX7_lacks 1 = .ok (.iload_n 1, 1) := by decide +kernel
theorem dX7_lacks_2 : decode cX7_lacks 2 = .ok (.invokevirtual 322, 3) := by decide +kernel
theorem dX7_lacks_5 : decode cX7_lacks 5 = .ok (.aload_n 0, 1) := by decide +kernel
theorem dX7_lacks_6 : decode cX7_lacks 6 = .ok (.getfield 10, 3) := by decide +kernel
theorem dX7_lacks_9 : decode cX7_lacks 9 = .ok (.iload_n 1, 1) := by decide +kernel
theorem dX7_lacks_10 : decode cX7_lacks 10 = .ok (.aload_n 0, 1) := by decide +kernel
theorem dX7_lacks_11 : decode cX7_lacks 11 = .ok (.getfield 10, 3) := by decide +kernel
theorem dX7_lacks_14 : decode cX7_lacks 14 = .ok (.getfield 159, 3) := by decide +kernel
theorem dX7_lacks_17 : decode cX7_lacks 17 = .ok (.getfield 163, 3) := by decide +kernel
theorem dX7_lacks_20 : decode cX7_lacks 20 = .ok (.invokevirtual 325, 3) := by decide +kernel
theorem dX7_lacks_23 : decode cX7_lacks 23 = .ok (.ireturn, 1) := by decide +kernel
theorem dX7_plan_0 : decode cX7_plan 0 = .ok (.aload_n 0, 1) := by decide +kernel
theorem dX7_plan_1 : decode cX7_plan 1 = .ok (.iload_n 1, 1) := by decide +kernel
theorem dX7_plan_2 : decode cX7_plan 2 = .ok (.invokevirtual 322, 3) := by decide +kernel
theorem dX7_plan_5 : decode cX7_plan 5 = .ok (.aload_n 0, 1) := by decide +kernel
theorem dX7_plan_6 : decode cX7_plan 6 = .ok (.getfield 10, 3) := by decide +kernel
theorem dX7_plan_9 : decode cX7_plan 9 = .ok (.iload_n 1, 1) := by decide +kernel
theorem dX7_plan_10 : decode cX7_plan 10 = .ok (.invokevirtual 329, 3) := by decide +kernel
theorem dX7_plan_13 : decode cX7_plan 13 = .ok (.ireturn, 1) := by decide +kernel
theorem dX7_planLength_0 : decode cX7_planLength 0 = .ok (.aload_n 0, 1) := by decide +kernel
theorem dX7_planLength_1 : decode cX7_planLength 1 = .ok (.iload_n 1, 1) := by decide +kernel
theorem dX7_planLength_2 : decode cX7_planLength 2 = .ok (.invokevirtual 322, 3) := by decide +kernel
theorem dX7_planLength_5 : decode cX7_planLength 5 = .ok (.aload_n 0, 1) := by decide +kernel
theorem dX7_planLength_6 : decode cX7_planLength 6 = .ok (.getfield 10, 3) := by decide +kernel
theorem dX7_planLength_9 : decode cX7_planLength 9 = .ok (.iload_n 1, 1) := by decide +kernel
theorem dX7_planLength_10 : decode cX7_planLength 10 = .ok (.invokevirtual 329, 3) := by decide +kernel
theorem dX7_planLength_13 : decode cX7_planLength 13 = .ok (.istore_n 2, 1) := by decide +kernel
theorem dX7_planLength_14 : decode cX7_planLength 14 = .ok (.iload_n 2, 1) := by decide +kernel
theorem dX7_planLength_15 : decode cX7_planLength 15 = .ok (.iconst (-1), 1) := by decide +kernel
theorem dX7_planLength_16 : decode cX7_planLength 16 = .ok (.if_icmp .ne 7, 3) := by decide +kernel
theorem dX7_planLength_19 : decode cX7_planLength 19 = .ok (.iconst (-1), 1) := by decide +kernel
theorem dX7_planLength_20 : decode cX7_planLength 20 = .ok (.goto 11, 3) := by decide +kernel
theorem dX7_planLength_23 : decode cX7_planLength 23 = .ok (.aload_n 0, 1) := by decide +kernel
theorem dX7_planLength_24 : decode cX7_planLength 24 = .ok (.getfield 10, 3) := by decide +kernel
theorem dX7_planLength_27 : decode cX7_planLength 27 = .ok (.iload_n 2, 1) := by decide +kernel
theorem dX7_planLength_28 : decode cX7_planLength 28 = .ok (.invokevirtual 332, 3) := by decide +kernel
theorem dX7_planLength_31 : decode cX7_planLength 31 = .ok (.ireturn, 1) := by decide +kernel
theorem dX7_report_0 : decode cX7_report 0 = .ok (.aload_n 0, 1) := by decide +kernel
theorem dX7_report_1 : decode cX7_report 1 = .ok (.iload_n 1, 1) := by decide +kernel
theorem dX7_report_2 : decode cX7_report 2 = .ok (.invokevirtual 185, 3) := by decide +kernel
theorem dX7_report_5 : decode cX7_report 5 = .ok (.iload_n 2, 1) := by decide +kernel
theorem dX7_report_6 : decode cX7_report 6 = .ok (.sipush (-9999), 3) := by decide +kernel
theorem dX7_report_9 : decode cX7_report 9 = .ok (.if_icmp .lt 10, 3) := by decide +kernel
theorem dX7_report_12 : decode cX7_report 12 = .ok (.iload_n 2, 1) := by decide +kernel
theorem dX7_report_13 : decode cX7_report 13 = .ok (.sipush 9999, 3) := by decide +kernel
theorem dX7_report_16 : decode cX7_report 16 = .ok (.if_icmp .le 14, 3) := by decide +kernel
theorem dX7_report_19 : decode cX7_report 19 = .ok (.new 180, 3) := by decide +kernel
theorem dX7_report_22 : decode cX7_report 22 = .ok (.dup, 1) := by decide +kernel
theorem dX7_report_23 : decode cX7_report 23 = .ok (.ldc_w 335, 3) := by decide +kernel
theorem dX7_report_26 : decode cX7_report 26 = .ok (.invokespecial 184, 3) := by decide +kernel
theorem dX7_report_29 : decode cX7_report 29 = .ok (.athrow, 1) := by decide +kernel
theorem dX7_report_30 : decode cX7_report 30 = .ok (.aload_n 0, 1) := by decide +kernel
theorem dX7_report_31 : decode cX7_report 31 = .ok (.invokevirtual 337, 3) := by decide +kernel
theorem dX7_report_34 : decode cX7_report 34 = .ok (.aload_n 0, 1) := by decide +kernel
theorem dX7_report_35 : decode cX7_report 35 = .ok (.getfield 10, 3) := by decide +kernel
theorem dX7_report_38 : decode cX7_report 38 = .ok (.getfield 88, 3) := by decide +kernel
theorem dX7_report_41 : decode cX7_report 41 = .ok (.dup, 1) := by decide +kernel
theorem dX7_report_42 : decode cX7_report 42 = .ok (.getfield 212, 3) := by decide +kernel
theorem dX7_report_45 : decode cX7_report 45 = .ok (.iconst 1, 1) := by decide +kernel
theorem dX7_report_46 : decode cX7_report 46 = .ok (.iload_n 1, 1) := by decide +kernel
theorem dX7_report_47 : decode cX7_report 47 = .ok (.ishl, 1) := by decide +kernel
theorem dX7_report_48 : decode cX7_report 48 = .ok (.ior, 1) := by decide +kernel
theorem dX7_report_49 : decode cX7_report 49 = .ok (.putfield 212, 3) := by decide +kernel
theorem dX7_report_52 : decode cX7_report 52 = .ok (.aload_n 0, 1) := by decide +kernel
theorem dX7_report_53 : decode cX7_report 53 = .ok (.getfield 10, 3) := by decide +kernel
theorem dX7_report_56 : decode cX7_report 56 = .ok (.getfield 88, 3) := by decide +kernel
theorem dX7_report_59 : decode cX7_report 59 = .ok (.getfield 219, 3) := by decide +kernel
theorem dX7_report_62 : decode cX7_report 62 = .ok (.iload_n 1, 1) := by decide +kernel
theorem dX7_report_63 : decode cX7_report 63 = .ok (.iload_n 2, 1) := by decide +kernel
theorem dX7_report_64 : decode cX7_report 64 = .ok (.iastore, 1) := by decide +kernel
theorem dX7_report_65 : decode cX7_report 65 = .ok (.aload_n 0, 1) := by decide +kernel
theorem dX7_report_66 : decode cX7_report 66 = .ok (.getfield 10, 3) := by decide +kernel
theorem dX7_report_69 : decode cX7_report 69 = .ok (.getfield 88, 3) := by decide +kernel
theorem dX7_report_72 : decode cX7_report 72 = .ok (.getfield 212, 3) := by decide +kernel
theorem dX7_report_75 : decode cX7_report 75 = .ok (.invokestatic 154, 3) := by decide +kernel
theorem dX7_report_78 : decode cX7_report 78 = .ok (.ireturn, 1) := by decide +kernel
theorem dX7_endHour_0 : decode cX7_endHour 0 = .ok (.aload_n 0, 1) := by decide +kernel
theorem dX7_endHour_1 : decode cX7_endHour 1 = .ok (.invokevirtual 337, 3) := by decide +kernel
theorem dX7_endHour_4 : decode cX7_endHour 4 = .ok (.aload_n 0, 1) := by decide +kernel
theorem dX7_endHour_5 : decode cX7_endHour 5 = .ok (.getfield 10, 3) := by decide +kernel
theorem dX7_endHour_8 : decode cX7_endHour 8 = .ok (.invokevirtual 340, 3) := by decide +kernel
theorem dX7_endHour_11 : decode cX7_endHour 11 = .ok (.istore_n 1, 1) := by decide +kernel
theorem dX7_endHour_12 : decode cX7_endHour 12 = .ok (.aload_n 0, 1) := by decide +kernel
theorem dX7_endHour_13 : decode cX7_endHour 13 = .ok (.getfield 10, 3) := by decide +kernel
theorem dX7_endHour_16 : decode cX7_endHour 16 = .ok (.iload_n 1, 1) := by decide +kernel
theorem dX7_endHour_17 : decode cX7_endHour 17 = .ok (.aload_n 0, 1) := by decide +kernel
theorem dX7_endHour_18 : decode cX7_endHour 18 = .ok (.getfield 43, 3) := by decide +kernel
theorem dX7_endHour_21 : decode cX7_endHour 21 = .ok (.invokevirtual 343, 3) := by decide +kernel
theorem dX7_endHour_24 : decode cX7_endHour 24 = .ok (.iconst 0, 1) := by decide +kernel
theorem dX7_endHour_25 : decode cX7_endHour 25 = .ok (.istore_n 2, 1) := by decide +kernel
theorem dX7_endHour_26 : decode cX7_endHour 26 = .ok (.aload_n 0, 1) := by decide +kernel
theorem dX7_endHour_27 : decode cX7_endHour 27 = .ok (.getfield 10, 3) := by decide +kernel
theorem dX7_endHour_30 : decode cX7_endHour 30 = .ok (.getfield 237, 3) := by decide +kernel
theorem dX7_endHour_33 : decode cX7_endHour 33 = .ok (.getfield 249, 3) := by decide +kernel
theorem dX7_endHour_36 : decode cX7_endHour 36 = .ok (.iload_n 1, 1) := by decide +kernel
theorem dX7_endHour_37 : decode cX7_endHour 37 = .ok (.iaload, 1) := by decide +kernel
theorem dX7_endHour_38 : decode cX7_endHour 38 = .ok (.iconst 1, 1) := by decide +kernel
theorem dX7_endHour_39 : decode cX7_endHour 39 = .ok (.if_icmp .ne 35, 3) := by decide +kernel
theorem dX7_endHour_42 : decode cX7_endHour 42 = .ok (.aload_n 0, 1) := by decide +kernel
theorem dX7_endHour_43 : decode cX7_endHour 43 = .ok (.getfield 10, 3) := by decide +kernel
theorem dX7_endHour_46 : decode cX7_endHour 46 = .ok (.iload_n 1, 1) := by decide +kernel
theorem dX7_endHour_47 : decode cX7_endHour 47 = .ok (.invokevirtual 347, 3) := by decide +kernel
theorem dX7_endHour_50 : decode cX7_endHour 50 = .ok (.aload_n 0, 1) := by decide +kernel
theorem dX7_endHour_51 : decode cX7_endHour 51 = .ok (.getfield 10, 3) := by decide +kernel
theorem dX7_endHour_54 : decode cX7_endHour 54 = .ok (.iload_n 1, 1) := by decide +kernel
theorem dX7_endHour_55 : decode cX7_endHour 55 = .ok (.invokevirtual 350, 3) := by decide +kernel
theorem dX7_endHour_58 : decode cX7_endHour 58 = .ok (.aload_n 0, 1) := by decide +kernel
theorem dX7_endHour_59 : decode cX7_endHour 59 = .ok (.getfield 10, 3) := by decide +kernel
theorem dX7_endHour_62 : decode cX7_endHour 62 = .ok (.invokevirtual 353, 3) := by decide +kernel
theorem dX7_endHour_65 : decode cX7_endHour 65 = .ok (.aload_n 0, 1) := by decide +kernel
theorem dX7_endHour_66 : decode cX7_endHour 66 = .ok (.getfield 10, 3) := by decide +kernel
theorem dX7_endHour_69 : decode cX7_endHour 69 = .ok (.iload_n 1, 1) := by decide +kernel
theorem dX7_endHour_70 : decode cX7_endHour 70 = .ok (.invokevirtual 356, 3) := by decide +kernel
theorem dX7_endHour_73 : decode cX7_endHour 73 = .ok (.istore_n 2, 1) := by decide +kernel
theorem dX7_endHour_74 : decode cX7_endHour 74 = .ok (.aload_n 0, 1) := by decide +kernel
theorem dX7_endHour_75 : decode cX7_endHour 75 = .ok (.getfield 10, 3) := by decide +kernel
theorem dX7_endHour_78 : decode cX7_endHour 78 = .ok (.dup, 1) := by decide +kernel
theorem dX7_endHour_79 : decode cX7_endHour 79 = .ok (.getfield 144, 3) := by decide +kernel
theorem dX7_endHour_82 : decode cX7_endHour 82 = .ok (.iconst 1, 1) := by decide +kernel
theorem dX7_endHour_83 : decode cX7_endHour 83 = .ok (.iadd, 1) := by decide +kernel
theorem dX7_endHour_84 : decode cX7_endHour 84 = .ok (.putfield 144, 3) := by decide +kernel
theorem dX7_endHour_87 : decode cX7_endHour 87 = .ok (.aload_n 0, 1) := by decide +kernel
theorem dX7_endHour_88 : decode cX7_endHour 88 = .ok (.getfield 10, 3) := by decide +kernel
theorem dX7_endHour_91 : decode cX7_endHour 91 = .ok (.iload_n 2, 1) := by decide +kernel
theorem dX7_endHour_92 : decode cX7_endHour 92 = .ok (.aload_n 0, 1) := by decide +kernel
theorem dX7_endHour_93 : decode cX7_endHour 93 = .ok (.getfield 43, 3) := by decide +kernel
theorem dX7_endHour_96 : decode cX7_endHour 96 = .ok (.invokevirtual 359, 3) := by decide +kernel
theorem dX7_endHour_99 : decode cX7_endHour 99 = .ok (.aload_n 0, 1) := by decide +kernel
theorem dX7_endHour_100 : decode cX7_endHour 100 = .ok (.getfield 10, 3) := by decide +kernel
theorem dX7_endHour_103 : decode cX7_endHour 103 = .ok (.getfield 88, 3) := by decide +kernel
theorem dX7_endHour_106 : decode cX7_endHour 106 = .ok (.invokevirtual 362, 3) := by decide +kernel
theorem dX7_endHour_109 : decode cX7_endHour 109 = .ok (.iload_n 2, 1) := by decide +kernel
theorem dX7_endHour_110 : decode cX7_endHour 110 = .ok (.invokestatic 154, 3) := by decide +kernel
theorem dX7_endHour_113 : decode cX7_endHour 113 = .ok (.ireturn, 1) := by decide +kernel
theorem dX7_storm_0 : decode cX7_storm 0 = .ok (.aload_n 0, 1) := by decide +kernel
theorem dX7_storm_1 : decode cX7_storm 1 = .ok (.iload_n 1, 1) := by decide +kernel
theorem dX7_storm_2 : decode cX7_storm 2 = .ok (.iload_n 2, 1) := by decide +kernel
theorem dX7_storm_3 : decode cX7_storm 3 = .ok (.iload_n 3, 1) := by decide +kernel
theorem dX7_storm_4 : decode cX7_storm 4 = .ok (.invokevirtual 311, 3) := by decide +kernel
theorem dX7_storm_7 : decode cX7_storm 7 = .ok (.aload_n 0, 1) := by decide +kernel
theorem dX7_storm_8 : decode cX7_storm 8 = .ok (.invokevirtual 337, 3) := by decide +kernel
theorem dX7_storm_11 : decode cX7_storm 11 = .ok (.aload_n 0, 1) := by decide +kernel
theorem dX7_storm_12 : decode cX7_storm 12 = .ok (.getfield 10, 3) := by decide +kernel
theorem dX7_storm_15 : decode cX7_storm 15 = .ok (.iload_n 1, 1) := by decide +kernel
theorem dX7_storm_16 : decode cX7_storm 16 = .ok (.iload_n 2, 1) := by decide +kernel
theorem dX7_storm_17 : decode cX7_storm 17 = .ok (.iload_n 3, 1) := by decide +kernel
theorem dX7_storm_18 : decode cX7_storm 18 = .ok (.invokevirtual 365, 3) := by decide +kernel
theorem dX7_storm_21 : decode cX7_storm 21 = .ok (.ireturn, 1) := by decide +kernel
theorem dX7_remake_0 : decode cX7_remake 0 = .ok (.aload_n 0, 1) := by decide +kernel
theorem dX7_remake_1 : decode cX7_remake 1 = .ok (.iload_n 1, 1) := by decide +kernel
theorem dX7_remake_2 : decode cX7_remake 2 = .ok (.invokevirtual 222, 3) := by decide +kernel
theorem dX7_remake_5 : decode cX7_remake 5 = .ok (.aload_n 0, 1) := by decide +kernel
theorem dX7_remake_6 : decode cX7_remake 6 = .ok (.getfield 10, 3) := by decide +kernel
theorem dX7_remake_9 : decode cX7_remake 9 = .ok (.getfield 159, 3) := by decide +kernel
theorem dX7_remake_12 : decode cX7_remake 12 = .ok (.getfield 163, 3) := by decide +kernel
theorem dX7_remake_15 : decode cX7_remake 15 = .ok (.iload_n 1, 1) := by decide +kernel
theorem dX7_remake_16 : decode cX7_remake 16 = .ok (.invokestatic 215, 3) := by decide +kernel
theorem dX7_remake_19 : decode cX7_remake 19 = .ok (.ifCond .ne 24, 3) := by decide +kernel
theorem dX7_remake_22 : decode cX7_remake 22 = .ok (.aload_n 0, 1) := by decide +kernel
theorem dX7_remake_23 : decode cX7_remake 23 = .ok (.getfield 10, 3) := by decide +kernel
theorem dX7_remake_26 : decode cX7_remake 26 = .ok (.getfield 159, 3) := by decide +kernel
theorem dX7_remake_29 : decode cX7_remake 29 = .ok (.getfield 231, 3) := by decide +kernel
theorem dX7_remake_32 : decode cX7_remake 32 = .ok (.iload_n 1, 1) := by decide +kernel
theorem dX7_remake_33 : decode cX7_remake 33 = .ok (.iaload, 1) := by decide +kernel
theorem dX7_remake_34 : decode cX7_remake 34 = .ok (.ifCond .ne 9, 3) := by decide +kernel
theorem dX7_remake_37 : decode cX7_remake 37 = .ok (.aload_n 0, 1) := by decide +kernel
theorem dX7_remake_38 : decode cX7_remake 38 = .ok (.iconst 1, 1) := by decide +kernel
theorem dX7_remake_39 : decode cX7_remake 39 = .ok (.invokevirtual 368, 3) := by decide +kernel
theorem dX7_remake_42 : decode cX7_remake 42 = .ok (.ireturn, 1) := by decide +kernel
theorem dX7_remake_43 : decode cX7_remake 43 = .ok (.aload_n 0, 1) := by decide +kernel
theorem dX7_remake_44 : decode cX7_remake 44 = .ok (.getfield 10, 3) := by decide +kernel
theorem dX7_remake_47 : decode cX7_remake 47 = .ok (.getfield 88, 3) := by decide +kernel
theorem dX7_remake_50 : decode cX7_remake 50 = .ok (.iload_n 1, 1) := by decide +kernel
theorem dX7_remake_51 : decode cX7_remake 51 = .ok (.invokevirtual 225, 3) := by decide +kernel
theorem dX7_remake_54 : decode cX7_remake 54 = .ok (.aload_n 0, 1) := by decide +kernel
theorem dX7_remake_55 : decode cX7_remake 55 = .ok (.getfield 10, 3) := by decide +kernel
theorem dX7_remake_58 : decode cX7_remake 58 = .ok (.getfield 123, 3) := by decide +kernel
theorem dX7_remake_61 : decode cX7_remake 61 = .ok (.if_icmp .le 9, 3) := by decide +kernel
theorem dX7_remake_64 : decode cX7_remake 64 = .ok (.aload_n 0, 1) := by decide +kernel
theorem dX7_remake_65 : decode cX7_remake 65 = .ok (.iconst 2, 1) := by decide +kernel
theorem dX7_remake_66 : decode cX7_remake 66 = .ok (.invokevirtual 368, 3) := by decide +kernel
theorem dX7_remake_69 : decode cX7_remake 69 = .ok (.ireturn, 1) := by decide +kernel
theorem dX7_remake_70 : decode cX7_remake 70 = .ok (.aload_n 0, 1) := by decide +kernel
theorem dX7_remake_71 : decode cX7_remake 71 = .ok (.invokevirtual 337, 3) := by decide +kernel
theorem dX7_remake_74 : decode cX7_remake 74 = .ok (.aload_n 0, 1) := by decide +kernel
theorem dX7_remake_75 : decode cX7_remake 75 = .ok (.getfield 10, 3) := by decide +kernel
theorem dX7_remake_78 : decode cX7_remake 78 = .ok (.iconst 1, 1) := by decide +kernel
theorem dX7_remake_79 : decode cX7_remake 79 = .ok (.iload_n 1, 1) := by decide +kernel
theorem dX7_remake_80 : decode cX7_remake 80 = .ok (.ishl, 1) := by decide +kernel
theorem dX7_remake_81 : decode cX7_remake 81 = .ok (.invokevirtual 371, 3) := by decide +kernel
theorem dX7_remake_84 : decode cX7_remake 84 = .ok (.aload_n 0, 1) := by decide +kernel
theorem dX7_remake_85 : decode cX7_remake 85 = .ok (.getfield 10, 3) := by decide +kernel
theorem dX7_remake_88 : decode cX7_remake 88 = .ok (.getfield 123, 3) := by decide +kernel
theorem dX7_remake_91 : decode cX7_remake 91 = .ok (.ireturn, 1) := by decide +kernel
theorem dX7_remakeBy_0 : decode cX7_remakeBy 0 = .ok (.aload_n 0, 1) := by decide +kernel
theorem dX7_remakeBy_1 : decode cX7_remakeBy 1 = .ok (.iload_n 1, 1) := by decide +kernel
theorem dX7_remakeBy_2 : decode cX7_remakeBy 2 = .ok (.invokevirtual 322, 3) := by decide +kernel
theorem dX7_remakeBy_5 : decode cX7_remakeBy 5 = .ok (.aload_n 0, 1) := by decide +kernel
theorem dX7_remakeBy_6 : decode cX7_remakeBy 6 = .ok (.getfield 10, 3) := by decide +kernel
theorem dX7_remakeBy_9 : decode cX7_remakeBy 9 = .ok (.iload_n 1, 1) := by decide +kernel
theorem dX7_remakeBy_10 : decode cX7_remakeBy 10 = .ok (.invokevirtual 329, 3) := by decide +kernel
theorem dX7_remakeBy_13 : decode cX7_remakeBy 13 = .ok (.istore_n 2, 1) := by decide +kernel
theorem dX7_remakeBy_14 : decode cX7_remakeBy 14 = .ok (.iload_n 2, 1) := by decide +kernel
theorem dX7_remakeBy_15 : decode cX7_remakeBy 15 = .ok (.iconst (-1), 1) := by decide +kernel
theorem dX7_remakeBy_16 : decode cX7_remakeBy 16 = .ok (.if_icmp .ne 9, 3) := by decide +kernel
theorem dX7_remakeBy_19 : decode cX7_remakeBy 19 = .ok (.aload_n 0, 1) := by decide +kernel
theorem dX7_remakeBy_20 : decode cX7_remakeBy 20 = .ok (.iconst 3, 1) := by decide +kernel
theorem dX7_remakeBy_21 : decode cX7_remakeBy 21 = .ok (.invokevirtual 368, 3) := by decide +kernel
theorem dX7_remakeBy_24 : decode cX7_remakeBy 24 = .ok (.ireturn, 1) := by decide +kernel
theorem dX7_remakeBy_25 : decode cX7_remakeBy 25 = .ok (.aload_n 0, 1) := by decide +kernel
theorem dX7_remakeBy_26 : decode cX7_remakeBy 26 = .ok (.invokevirtual 337, 3) := by decide +kernel
theorem dX7_remakeBy_29 : decode cX7_remakeBy 29 = .ok (.aload_n 0, 1) := by decide +kernel
theorem dX7_remakeBy_30 : decode cX7_remakeBy 30 = .ok (.getfield 10, 3) := by decide +kernel
theorem dX7_remakeBy_33 : decode cX7_remakeBy 33 = .ok (.iload_n 2, 1) := by decide +kernel
theorem dX7_remakeBy_34 : decode cX7_remakeBy 34 = .ok (.invokevirtual 371, 3) := by decide +kernel
theorem dX7_remakeBy_37 : decode cX7_remakeBy 37 = .ok (.iload_n 2, 1) := by decide +kernel
theorem dX7_remakeBy_38 : decode cX7_remakeBy 38 = .ok (.invokestatic 154, 3) := by decide +kernel
theorem dX7_remakeBy_41 : decode cX7_remakeBy 41 = .ok (.ireturn, 1) := by decide +kernel
theorem dX7_haul_0 : decode cX7_haul 0 = .ok (.aload_n 0, 1) := by decide +kernel
theorem dX7_haul_1 : decode cX7_haul 1 = .ok (.iload_n 1, 1) := by decide +kernel
theorem dX7_haul_2 : decode cX7_haul 2 = .ok (.invokevirtual 185, 3) := by decide +kernel
theorem dX7_haul_5 : decode cX7_haul 5 = .ok (.aload_n 0, 1) := by decide +kernel
theorem dX7_haul_6 : decode cX7_haul 6 = .ok (.getfield 10, 3) := by decide +kernel
theorem dX7_haul_9 : decode cX7_haul 9 = .ok (.getfield 88, 3) := by decide +kernel
theorem dX7_haul_12 : decode cX7_haul 12 = .ok (.getfield 200, 3) := by decide +kernel
theorem dX7_haul_15 : decode cX7_haul 15 = .ok (.iload_n 1, 1) := by decide +kernel
theorem dX7_haul_16 : decode cX7_haul 16 = .ok (.iaload, 1) := by decide +kernel
theorem dX7_haul_17 : decode cX7_haul 17 = .ok (.iconst 2, 1) := by decide +kernel
theorem dX7_haul_18 : decode cX7_haul 18 = .ok (.if_icmp .eq 9, 3) := by decide +kernel
theorem dX7_haul_21 : decode cX7_haul 21 = .ok (.aload_n 0, 1) := by decide +kernel
theorem dX7_haul_22 : decode cX7_haul 22 = .ok (.iconst 1, 1) := by decide +kernel
theorem dX7_haul_23 : decode cX7_haul 23 = .ok (.invokevirtual 368, 3) := by decide +kernel
theorem dX7_haul_26 : decode cX7_haul 26 = .ok (.ireturn, 1) := by decide +kernel
theorem dX7_haul_27 : decode cX7_haul 27 = .ok (.aload_n 0, 1) := by decide +kernel
theorem dX7_haul_28 : decode cX7_haul 28 = .ok (.invokevirtual 337, 3) := by decide +kernel
theorem dX7_haul_31 : decode cX7_haul 31 = .ok (.aload_n 0, 1) := by decide +kernel
theorem dX7_haul_32 : decode cX7_haul 32 = .ok (.getfield 10, 3) := by decide +kernel
theorem dX7_haul_35 : decode cX7_haul 35 = .ok (.getfield 88, 3) := by decide +kernel
theorem dX7_haul_38 : decode cX7_haul 38 = .ok (.iload_n 1, 1) := by decide +kernel
theorem dX7_haul_39 : decode cX7_haul 39 = .ok (.invokevirtual 374, 3) := by decide +kernel
theorem dX7_haul_42 : decode cX7_haul 42 = .ok (.aload_n 0, 1) := by decide +kernel
theorem dX7_haul_43 : decode cX7_haul 43 = .ok (.getfield 10, 3) := by decide +kernel
theorem dX7_haul_46 : decode cX7_haul 46 = .ok (.getfield 88, 3) := by decide +kernel
theorem dX7_haul_49 : decode cX7_haul 49 = .ok (.iconst 2, 1) := by decide +kernel
theorem dX7_haul_50 : decode cX7_haul 50 = .ok (.invokevirtual 151, 3) := by decide +kernel
theorem dX7_haul_53 : decode cX7_haul 53 = .ok (.invokestatic 154, 3) := by decide +kernel
theorem dX7_haul_56 : decode cX7_haul 56 = .ok (.ireturn, 1) := by decide +kernel
theorem dX7_addStock_0 : decode cX7_addStock 0 = .ok (.iload_n 1, 1) := by decide +kernel
theorem dX7_addStock_1 : decode cX7_addStock 1 = .ok (.iconst 1, 1) := by decide +kernel
theorem dX7_addStock_2 : decode cX7_addStock 2 = .ok (.if_icmp .lt 10, 3) := by decide +kernel
theorem dX7_addStock_5 : decode cX7_addStock 5 = .ok (.iload_n 1, 1) := by decide +kernel
theorem dX7_addStock_6 : decode cX7_addStock 6 = .ok (.sipush 9999, 3) := by decide +kernel
theorem dX7_addStock_9 : decode cX7_addStock 9 = .ok (.if_icmp .le 14, 3) := by decide +kernel
theorem dX7_addStock_12 : decode cX7_addStock 12 = .ok (.new 180, 3) := by decide +kernel
theorem dX7_addStock_15 : decode cX7_addStock 15 = .ok (.dup, 1) := by decide +kernel
theorem dX7_addStock_16 : decode cX7_addStock 16 = .ok (.ldc_w 377, 3) := by decide +kernel
theorem dX7_addStock_19 : decode cX7_addStock 19 = .ok (.invokespecial 184, 3) := by decide +kernel
theorem dX7_addStock_22 : decode cX7_addStock 22 = .ok (.athrow, 1) := by decide +kernel
theorem dX7_addStock_23 : decode cX7_addStock 23 = .ok (.aload_n 0, 1) := by decide +kernel
theorem dX7_addStock_24 : decode cX7_addStock 24 = .ok (.getfield 10, 3) := by decide +kernel
theorem dX7_addStock_27 : decode cX7_addStock 27 = .ok (.getfield 123, 3) := by decide +kernel
theorem dX7_addStock_30 : decode cX7_addStock 30 = .ok (.iload_n 1, 1) := by decide +kernel
theorem dX7_addStock_31 : decode cX7_addStock 31 = .ok (.iadd, 1) := by decide +kernel
theorem dX7_addStock_32 : decode cX7_addStock 32 = .ok (.ldc_w 379, 3) := by decide +kernel
theorem dX7_addStock_35 : decode cX7_addStock 35 = .ok (.if_icmp .le 9, 3) := by decide +kernel
theorem dX7_addStock_38 : decode cX7_addStock 38 = .ok (.aload_n 0, 1) := by decide +kernel
theorem dX7_addStock_39 : decode cX7_addStock 39 = .ok (.iconst 4, 1) := by decide +kernel
theorem dX7_addStock_40 : decode cX7_addStock 40 = .ok (.invokevirtual 368, 3) := by decide +kernel
theorem dX7_addStock_43 : decode cX7_addStock 43 = .ok (.ireturn, 1) := by decide +kernel
theorem dX7_addStock_44 : decode cX7_addStock 44 = .ok (.aload_n 0, 1) := by decide +kernel
theorem dX7_addStock_45 : decode cX7_addStock 45 = .ok (.invokevirtual 337, 3) := by decide +kernel
theorem dX7_addStock_48 : decode cX7_addStock 48 = .ok (.aload_n 0, 1) := by decide +kernel
theorem dX7_addStock_49 : decode cX7_addStock 49 = .ok (.getfield 10, 3) := by decide +kernel
theorem dX7_addStock_52 : decode cX7_addStock 52 = .ok (.dup, 1) := by decide +kernel
theorem dX7_addStock_53 : decode cX7_addStock 53 = .ok (.getfield 123, 3) := by decide +kernel
theorem dX7_addStock_56 : decode cX7_addStock 56 = .ok (.iload_n 1, 1) := by decide +kernel
theorem dX7_addStock_57 : decode cX7_addStock 57 = .ok (.iadd, 1) := by decide +kernel
theorem dX7_addStock_58 : decode cX7_addStock 58 = .ok (.putfield 123, 3) := by decide +kernel
theorem dX7_addStock_61 : decode cX7_addStock 61 = .ok (.aload_n 0, 1) := by decide +kernel
theorem dX7_addStock_62 : decode cX7_addStock 62 = .ok (.getfield 10, 3) := by decide +kernel
theorem dX7_addStock_65 : decode cX7_addStock 65 = .ok (.dup, 1) := by decide +kernel
theorem dX7_addStock_66 : decode cX7_addStock 66 = .ok (.getfield 126, 3) := by decide +kernel
theorem dX7_addStock_69 : decode cX7_addStock 69 = .ok (.iload_n 1, 1) := by decide +kernel
theorem dX7_addStock_70 : decode cX7_addStock 70 = .ok (.iadd, 1) := by decide +kernel
theorem dX7_addStock_71 : decode cX7_addStock 71 = .ok (.putfield 126, 3) := by decide +kernel
theorem dX7_addStock_74 : decode cX7_addStock 74 = .ok (.aload_n 0, 1) := by decide +kernel
theorem dX7_addStock_75 : decode cX7_addStock 75 = .ok (.getfield 10, 3) := by decide +kernel
theorem dX7_addStock_78 : decode cX7_addStock 78 = .ok (.getfield 123, 3) := by decide +kernel
theorem dX7_addStock_81 : decode cX7_addStock 81 = .ok (.ireturn, 1) := by decide +kernel
theorem dX7_setOffset_0 : decode cX7_setOffset 0 = .ok (.aload_n 0, 1) := by decide +kernel
theorem dX7_setOffset_1 : decode cX7_setOffset 1 = .ok (.iload_n 1, 1) := by decide +kernel
theorem dX7_setOffset_2 : decode cX7_setOffset 2 = .ok (.invokevirtual 185, 3) := by decide +kernel
theorem dX7_setOffset_5 : decode cX7_setOffset 5 = .ok (.iload_n 2, 1) := by decide +kernel
theorem dX7_setOffset_6 : decode cX7_setOffset 6 = .ok (.bipush (-99), 2) := by decide +kernel
theorem dX7_setOffset_8 : decode cX7_setOffset 8 = .ok (.if_icmp .lt 9, 3) := by decide +kernel
theorem dX7_setOffset_11 : decode cX7_setOffset 11 = .ok (.iload_n 2, 1) := by decide +kernel
theorem dX7_setOffset_12 : decode cX7_setOffset 12 = .ok (.bipush 99, 2) := by decide +kernel
theorem dX7_setOffset_14 : decode cX7_setOffset 14 = .ok (.if_icmp .le 14, 3) := by decide +kernel
theorem dX7_setOffset_17 : decode cX7_setOffset 17 = .ok (.new 180, 3) := by decide +kernel
theorem dX7_setOffset_20 : decode cX7_setOffset 20 = .ok (.dup, 1) := by decide +kernel
theorem dX7_setOffset_21 : decode cX7_setOffset 21 = .ok (.ldc_w 380, 3) := by decide +kernel
theorem dX7_setOffset_24 : decode cX7_setOffset 24 = .ok (.invokespecial 184, 3) := by decide +kernel
theorem dX7_setOffset_27 : decode cX7_setOffset 27 = .ok (.athrow, 1) := by decide +kernel
theorem dX7_setOffset_28 : decode cX7_setOffset 28 = .ok (.aload_n 0, 1) := by decide +kernel
theorem dX7_setOffset_29 : decode cX7_setOffset 29 = .ok (.invokevirtual 337, 3) := by decide +kernel
theorem dX7_setOffset_32 : decode cX7_setOffset 32 = .ok (.aload_n 0, 1) := by decide +kernel
theorem dX7_setOffset_33 : decode cX7_setOffset 33 = .ok (.getfield 10, 3) := by decide +kernel
theorem dX7_setOffset_36 : decode cX7_setOffset 36 = .ok (.getfield 88, 3) := by decide +kernel
theorem dX7_setOffset_39 : decode cX7_setOffset 39 = .ok (.getfield 197, 3) := by decide +kernel
theorem dX7_setOffset_42 : decode cX7_setOffset 42 = .ok (.iload_n 1, 1) := by decide +kernel
theorem dX7_setOffset_43 : decode cX7_setOffset 43 = .ok (.iaload, 1) := by decide +kernel
theorem dX7_setOffset_44 : decode cX7_setOffset 44 = .ok (.istore_n 3, 1) := by decide +kernel
theorem dX7_setOffset_45 : decode cX7_setOffset 45 = .ok (.aload_n 0, 1) := by decide +kernel
theorem dX7_setOffset_46 : decode cX7_setOffset 46 = .ok (.getfield 10, 3) := by decide +kernel
theorem dX7_setOffset_49 : decode cX7_setOffset 49 = .ok (.getfield 88, 3) := by decide +kernel
theorem dX7_setOffset_52 : decode cX7_setOffset 52 = .ok (.getfield 197, 3) := by decide +kernel
theorem dX7_setOffset_55 : decode cX7_setOffset 55 = .ok (.iload_n 1, 1) := by decide +kernel
theorem dX7_setOffset_56 : decode cX7_setOffset 56 = .ok (.iload_n 2, 1) := by decide +kernel
theorem dX7_setOffset_57 : decode cX7_setOffset 57 = .ok (.iastore, 1) := by decide +kernel
theorem dX7_setOffset_58 : decode cX7_setOffset 58 = .ok (.iload_n 3, 1) := by decide +kernel
theorem dX7_setOffset_59 : decode cX7_setOffset 59 = .ok (.bipush 99, 2) := by decide +kernel
theorem dX7_setOffset_61 : decode cX7_setOffset 61 = .ok (.iadd, 1) := by decide +kernel
theorem dX7_setOffset_62 : decode cX7_setOffset 62 = .ok (.ireturn, 1) := by decide +kernel
theorem dX7_setHold_0 : decode cX7_setHold 0 = .ok (.aload_n 0, 1) := by decide +kernel
theorem dX7_setHold_1 : decode cX7_setHold 1 = .ok (.iload_n 1, 1) := by decide +kernel
theorem dX7_setHold_2 : decode cX7_setHold 2 = .ok (.invokevirtual 185, 3) := by decide +kernel
theorem dX7_setHold_5 : decode cX7_setHold 5 = .ok (.iload_n 2, 1) := by decide +kernel
theorem dX7_setHold_6 : decode cX7_setHold 6 = .ok (.ifCond .lt 9, 3) := by decide +kernel
theorem dX7_setHold_9 : decode cX7_setHold 9 = .ok (.iload_n 2, 1) := by decide +kernel
theorem dX7_setHold_10 : decode cX7_setHold 10 = .ok (.bipush 99, 2) := by decide +kernel
theorem dX7_setHold_12 : decode cX7_setHold 12 = .ok (.if_icmp .le 14, 3) := by decide +kernel
theorem dX7_setHold_15 : decode cX7_setHold 15 = .ok (.new 180, 3) := by decide +kernel
theorem dX7_setHold_18 : decode cX7_setHold 18 = .ok (.dup, 1) := by decide +kernel
theorem dX7_setHold_19 : decode cX7_setHold 19 = .ok (.ldc_w 382, 3) := by decide +kernel
theorem dX7_setHold_22 : decode cX7_setHold 22 = .ok (.invokespecial 184, 3) := by decide +kernel
theorem dX7_setHold_25 : decode cX7_setHold 25 = .ok (.athrow, 1) := by decide +kernel
theorem dX7_setHold_26 : decode cX7_setHold 26 = .ok (.aload_n 0, 1) := by decide +kernel
theorem dX7_setHold_27 : decode cX7_setHold 27 = .ok (.invokevirtual 337, 3) := by decide +kernel
theorem dX7_setHold_30 : decode cX7_setHold 30 = .ok (.aload_n 0, 1) := by decide +kernel
theorem dX7_setHold_31 : decode cX7_setHold 31 = .ok (.getfield 10, 3) := by decide +kernel
theorem dX7_setHold_34 : decode cX7_setHold 34 = .ok (.getfield 88, 3) := by decide +kernel
theorem dX7_setHold_37 : decode cX7_setHold 37 = .ok (.getfield 194, 3) := by decide +kernel
theorem dX7_setHold_40 : decode cX7_setHold 40 = .ok (.iload_n 1, 1) := by decide +kernel
theorem dX7_setHold_41 : decode cX7_setHold 41 = .ok (.iaload, 1) := by decide +kernel
theorem dX7_setHold_42 : decode cX7_setHold 42 = .ok (.istore_n 3, 1) := by decide +kernel
theorem dX7_setHold_43 : decode cX7_setHold 43 = .ok (.aload_n 0, 1) := by decide +kernel
theorem dX7_setHold_44 : decode cX7_setHold 44 = .ok (.getfield 10, 3) := by decide +kernel
theorem dX7_setHold_47 : decode cX7_setHold 47 = .ok (.getfield 88, 3) := by decide +kernel
theorem dX7_setHold_50 : decode cX7_setHold 50 = .ok (.getfield 194, 3) := by decide +kernel
theorem dX7_setHold_53 : decode cX7_setHold 53 = .ok (.iload_n 1, 1) := by decide +kernel
theorem dX7_setHold_54 : decode cX7_setHold 54 = .ok (.iload_n 2, 1) := by decide +kernel
theorem dX7_setHold_55 : decode cX7_setHold 55 = .ok (.iastore, 1) := by decide +kernel
theorem dX7_setHold_56 : decode cX7_setHold 56 = .ok (.iload_n 3, 1) := by decide +kernel
theorem dX7_setHold_57 : decode cX7_setHold 57 = .ok (.ireturn, 1) := by decide +kernel
theorem dX7_setTerms_0 : decode cX7_setTerms 0 = .ok (.iload_n 1, 1) := by decide +kernel
theorem dX7_setTerms_1 : decode cX7_setTerms 1 = .ok (.ifCond .lt 32, 3) := by decide +kernel
theorem dX7_setTerms_4 : decode cX7_setTerms 4 = .ok (.iload_n 1, 1) := by decide +kernel
theorem dX7_setTerms_5 : decode cX7_setTerms 5 = .ok (.sipush 999, 3) := by decide +kernel
theorem dX7_setTerms_8 : decode cX7_setTerms 8 = .ok (.if_icmp .gt 25, 3) := by decide +kernel
theorem dX7_setTerms_11 : decode cX7_setTerms 11 = .ok (.iload_n 2, 1) := by decide +kernel
theorem dX7_setTerms_12 : decode cX7_setTerms 12 = .ok (.iconst 1, 1) := by decide +kernel
theorem dX7_setTerms_13 : decode cX7_setTerms 13 = .ok (.if_icmp .lt 20, 3) := by decide +kernel
theorem dX7_setTerms_16 : decode cX7_setTerms 16 = .ok (.iload_n 2, 1) := by decide +kernel
theorem dX7_setTerms_17 : decode cX7_setTerms 17 = .ok (.bipush 9, 2) := by decide +kernel
theorem dX7_setTerms_19 : decode cX7_setTerms 19 = .ok (.if_icmp .gt 14, 3) := by decide +kernel
theorem dX7_setTerms_22 : decode cX7_setTerms 22 = .ok (.iload_n 3, 1) := by decide +kernel
theorem dX7_setTerms_23 : decode cX7_setTerms 23 = .ok (.iconst 1, 1) := by decide +kernel
theorem dX7_setTerms_24 : decode cX7_setTerms 24 = .ok (.if_icmp .lt 9, 3) := by decide +kernel
theorem dX7_setTerms_27 : decode cX7_setTerms 27 = .ok (.iload_n 3, 1) := by decide +kernel
theorem dX7_setTerms_28 : decode cX7_setTerms 28 = .ok (.bipush 9, 2) := by decide +kernel
theorem dX7_setTerms_30 : decode cX7_setTerms 30 = .ok (.if_icmp .le 14, 3) := by decide +kernel
theorem dX7_setTerms_33 : decode cX7_setTerms 33 = .ok (.new 180, 3) := by decide +kernel
theorem dX7_setTerms_36 : decode cX7_setTerms 36 = .ok (.dup, 1) := by decide +kernel
theorem dX7_setTerms_37 : decode cX7_setTerms 37 = .ok (.ldc_w 384, 3) := by decide +kernel
theorem dX7_setTerms_40 : decode cX7_setTerms 40 = .ok (.invokespecial 184, 3) := by decide +kernel
theorem dX7_setTerms_43 : decode cX7_setTerms 43 = .ok (.athrow, 1) := by decide +kernel
theorem dX7_setTerms_44 : decode cX7_setTerms 44 = .ok (.aload_n 0, 1) := by decide +kernel
theorem dX7_setTerms_45 : decode cX7_setTerms 45 = .ok (.invokevirtual 337, 3) := by decide +kernel
theorem dX7_setTerms_48 : decode cX7_setTerms 48 = .ok (.aload_n 0, 1) := by decide +kernel
theorem dX7_setTerms_49 : decode cX7_setTerms 49 = .ok (.getfield 10, 3) := by decide +kernel
theorem dX7_setTerms_52 : decode cX7_setTerms 52 = .ok (.getfield 79, 3) := by decide +kernel
theorem dX7_setTerms_55 : decode cX7_setTerms 55 = .ok (.istore 4, 2) := by decide +kernel
theorem dX7_setTerms_57 : decode cX7_setTerms 57 = .ok (.aload_n 0, 1) := by decide +kernel
theorem dX7_setTerms_58 : decode cX7_setTerms 58 = .ok (.getfield 10, 3) := by decide +kernel
theorem dX7_setTerms_61 : decode cX7_setTerms 61 = .ok (.iload_n 1, 1) := by decide +kernel
theorem dX7_setTerms_62 : decode cX7_setTerms 62 = .ok (.putfield 79, 3) := by decide +kernel
theorem dX7_setTerms_65 : decode cX7_setTerms 65 = .ok (.aload_n 0, 1) := by decide +kernel
theorem dX7_setTerms_66 : decode cX7_setTerms 66 = .ok (.getfield 10, 3) := by decide +kernel
theorem dX7_setTerms_69 : decode cX7_setTerms 69 = .ok (.iload_n 2, 1) := by decide +kernel
theorem dX7_setTerms_70 : decode cX7_setTerms 70 = .ok (.putfield 82, 3) := by decide +kernel
theorem dX7_setTerms_73 : decode cX7_setTerms 73 = .ok (.aload_n 0, 1) := by decide +kernel
theorem dX7_setTerms_74 : decode cX7_setTerms 74 = .ok (.getfield 10, 3) := by decide +kernel
theorem dX7_setTerms_77 : decode cX7_setTerms 77 = .ok (.iload_n 3, 1) := by decide +kernel
theorem dX7_setTerms_78 : decode cX7_setTerms 78 = .ok (.putfield 85, 3) := by decide +kernel
theorem dX7_setTerms_81 : decode cX7_setTerms 81 = .ok (.iload 4, 2) := by decide +kernel
theorem dX7_setTerms_83 : decode cX7_setTerms 83 = .ok (.ireturn, 1) := by decide +kernel
theorem dX7_writeString_0 : decode cX7_writeString 0 = .ok (.aload_n 0, 1) := by decide +kernel
theorem dX7_writeString_1 : decode cX7_writeString 1 = .ok (.iconst 0, 1) := by decide +kernel
theorem dX7_writeString_2 : decode cX7_writeString 2 = .ok (.putfield 73, 3) := by decide +kernel
theorem dX7_writeString_5 : decode cX7_writeString 5 = .ok (.aload_n 0, 1) := by decide +kernel
theorem dX7_writeString_6 : decode cX7_writeString 6 = .ok (.getfield 10, 3) := by decide +kernel
theorem dX7_writeString_9 : decode cX7_writeString 9 = .ok (.getfield 88, 3) := by decide +kernel
theorem dX7_writeString_12 : decode cX7_writeString 12 = .ok (.getfield 133, 3) := by decide +kernel
theorem dX7_writeString_15 : decode cX7_writeString 15 = .ok (.istore_n 1, 1) := by decide +kernel
theorem dX7_writeString_16 : decode cX7_writeString 16 = .ok (.iconst 0, 1) := by decide +kernel
theorem dX7_writeString_17 : decode cX7_writeString 17 = .ok (.istore_n 2, 1) := by decide +kernel
theorem dX7_writeString_18 : decode cX7_writeString 18 = .ok (.iload_n 2, 1) := by decide +kernel
theorem dX7_writeString_19 : decode cX7_writeString 19 = .ok (.iload_n 1, 1) := by decide +kernel
theorem dX7_writeString_20 : decode cX7_writeString 20 = .ok (.if_icmp .ge 68, 3) := by decide +kernel
theorem dX7_writeString_23 : decode cX7_writeString 23 = .ok (.aload_n 0, 1) := by decide +kernel
theorem dX7_writeString_24 : decode cX7_writeString 24 = .ok (.iload_n 2, 1) := by decide +kernel
theorem dX7_writeString_25 : decode cX7_writeString 25 = .ok (.invokevirtual 386, 3) := by decide +kernel
theorem dX7_writeString_28 : decode cX7_writeString 28 = .ok (.aload_n 0, 1) := by decide +kernel
theorem dX7_writeString_29 : decode cX7_writeString 29 = .ok (.aload_n 0, 1) := by decide +kernel
theorem dX7_writeString_30 : decode cX7_writeString 30 = .ok (.getfield 10, 3) := by decide +kernel
theorem dX7_writeString_33 : decode cX7_writeString 33 = .ok (.getfield 88, 3) := by decide +kernel
theorem dX7_writeString_36 : decode cX7_writeString 36 = .ok (.getfield 200, 3) := by decide +kernel
theorem dX7_writeString_39 : decode cX7_writeString 39 = .ok (.iload_n 2, 1) := by decide +kernel
theorem dX7_writeString_40 : decode cX7_writeString 40 = .ok (.iaload, 1) := by decide +kernel
theorem dX7_writeString_41 : decode cX7_writeString 41 = .ok (.invokestatic 389, 3) := by decide +kernel
theorem dX7_writeString_44 : decode cX7_writeString 44 = .ok (.invokevirtual 393, 3) := by decide +kernel
