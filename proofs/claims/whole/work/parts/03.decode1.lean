theorem dX0_init_0 : decode cX0_init 0 = .ok (.aload_n 0, 1) := by decide +kernel
theorem dX0_init_1 : decode cX0_init 1 = .ok (.invokespecial 3, 3) := by decide +kernel
theorem dX0_init_4 : decode cX0_init 4 = .ok (.aload_n 0, 1) := by decide +kernel
theorem dX0_init_5 : decode cX0_init 5 = .ok (.iconst 4, 1) := by decide +kernel
theorem dX0_init_6 : decode cX0_init 6 = .ok (.putfield 9, 3) := by decide +kernel
theorem dX0_init_9 : decode cX0_init 9 = .ok (.aload_n 0, 1) := by decide +kernel
theorem dX0_init_10 : decode cX0_init 10 = .ok (.iconst 5, 1) := by decide +kernel
theorem dX0_init_11 : decode cX0_init 11 = .ok (.putfield 15, 3) := by decide +kernel
theorem dX0_init_14 : decode cX0_init 14 = .ok (.aload_n 0, 1) := by decide +kernel
theorem dX0_init_15 : decode cX0_init 15 = .ok (.iconst 1, 1) := by decide +kernel
theorem dX0_init_16 : decode cX0_init 16 = .ok (.putfield 18, 3) := by decide +kernel
theorem dX0_init_19 : decode cX0_init 19 = .ok (.aload_n 0, 1) := by decide +kernel
theorem dX0_init_20 : decode cX0_init 20 = .ok (.bipush 6, 2) := by decide +kernel
theorem dX0_init_22 : decode cX0_init 22 = .ok (.newarray .int, 2) := by decide +kernel
theorem dX0_init_24 : decode cX0_init 24 = .ok (.putfield 21, 3) := by decide +kernel
theorem dX0_init_27 : decode cX0_init 27 = .ok (.aload_n 0, 1) := by decide +kernel
theorem dX0_init_28 : decode cX0_init 28 = .ok (.bipush 6, 2) := by decide +kernel
theorem dX0_init_30 : decode cX0_init 30 = .ok (.newarray .int, 2) := by decide +kernel
theorem dX0_init_32 : decode cX0_init 32 = .ok (.putfield 25, 3) := by decide +kernel
theorem dX0_init_35 : decode cX0_init 35 = .ok (.aload_n 0, 1) := by decide +kernel
theorem dX0_init_36 : decode cX0_init 36 = .ok (.bipush 6, 2) := by decide +kernel
theorem dX0_init_38 : decode cX0_init 38 = .ok (.newarray .int, 2) := by decide +kernel
theorem dX0_init_40 : decode cX0_init 40 = .ok (.putfield 28, 3) := by decide +kernel
theorem dX0_init_43 : decode cX0_init 43 = .ok (.aload_n 0, 1) := by decide +kernel
theorem dX0_init_44 : decode cX0_init 44 = .ok (.bipush 6, 2) := by decide +kernel
theorem dX0_init_46 : decode cX0_init 46 = .ok (.newarray .int, 2) := by decide +kernel
theorem dX0_init_48 : decode cX0_init 48 = .ok (.putfield 31, 3) := by decide +kernel
theorem dX0_init_51 : decode cX0_init 51 = .ok (.aload_n 0, 1) := by decide +kernel
theorem dX0_init_52 : decode cX0_init 52 = .ok (.bipush 6, 2) := by decide +kernel
theorem dX0_init_54 : decode cX0_init 54 = .ok (.newarray .int, 2) := by decide +kernel
theorem dX0_init_56 : decode cX0_init 56 = .ok (.putfield 34, 3) := by decide +kernel
theorem dX0_init_59 : decode cX0_init 59 = .ok (.return_, 1) := by decide +kernel
theorem dX0_take_0 : decode cX0_take 0 = .ok (.aload_n 0, 1) := by decide +kernel
theorem dX0_take_1 : decode cX0_take 1 = .ok (.aload_n 1, 1) := by decide +kernel
theorem dX0_take_2 : decode cX0_take 2 = .ok (.getfield 9, 3) := by decide +kernel
theorem dX0_take_5 : decode cX0_take 5 = .ok (.putfield 9, 3) := by decide +kernel
theorem dX0_take_8 : decode cX0_take 8 = .ok (.aload_n 0, 1) := by decide +kernel
theorem dX0_take_9 : decode cX0_take 9 = .ok (.aload_n 1, 1) := by decide +kernel
theorem dX0_take_10 : decode cX0_take 10 = .ok (.getfield 15, 3) := by decide +kernel
theorem dX0_take_13 : decode cX0_take 13 = .ok (.putfield 15, 3) := by decide +kernel
theorem dX0_take_16 : decode cX0_take 16 = .ok (.aload_n 0, 1) := by decide +kernel
theorem dX0_take_17 : decode cX0_take 17 = .ok (.aload_n 1, 1) := by decide +kernel
theorem dX0_take_18 : decode cX0_take 18 = .ok (.getfield 37, 3) := by decide +kernel
theorem dX0_take_21 : decode cX0_take 21 = .ok (.putfield 37, 3) := by decide +kernel
theorem dX0_take_24 : decode cX0_take 24 = .ok (.aload_n 0, 1) := by decide +kernel
theorem dX0_take_25 : decode cX0_take 25 = .ok (.aload_n 1, 1) := by decide +kernel
theorem dX0_take_26 : decode cX0_take 26 = .ok (.getfield 40, 3) := by decide +kernel
theorem dX0_take_29 : decode cX0_take 29 = .ok (.putfield 40, 3) := by decide +kernel
theorem dX0_take_32 : decode cX0_take 32 = .ok (.aload_n 0, 1) := by decide +kernel
theorem dX0_take_33 : decode cX0_take 33 = .ok (.aload_n 1, 1) := by decide +kernel
theorem dX0_take_34 : decode cX0_take 34 = .ok (.getfield 43, 3) := by decide +kernel
theorem dX0_take_37 : decode cX0_take 37 = .ok (.putfield 43, 3) := by decide +kernel
theorem dX0_take_40 : decode cX0_take 40 = .ok (.aload_n 0, 1) := by decide +kernel
theorem dX0_take_41 : decode cX0_take 41 = .ok (.aload_n 1, 1) := by decide +kernel
theorem dX0_take_42 : decode cX0_take 42 = .ok (.getfield 46, 3) := by decide +kernel
theorem dX0_take_45 : decode cX0_take 45 = .ok (.putfield 46, 3) := by decide +kernel
theorem dX0_take_48 : decode cX0_take 48 = .ok (.aload_n 0, 1) := by decide +kernel
theorem dX0_take_49 : decode cX0_take 49 = .ok (.aload_n 1, 1) := by decide +kernel
theorem dX0_take_50 : decode cX0_take 50 = .ok (.getfield 49, 3) := by decide +kernel
theorem dX0_take_53 : decode cX0_take 53 = .ok (.putfield 49, 3) := by decide +kernel
theorem dX0_take_56 : decode cX0_take 56 = .ok (.aload_n 0, 1) := by decide +kernel
theorem dX0_take_57 : decode cX0_take 57 = .ok (.aload_n 1, 1) := by decide +kernel
theorem dX0_take_58 : decode cX0_take 58 = .ok (.getfield 52, 3) := by decide +kernel
theorem dX0_take_61 : decode cX0_take 61 = .ok (.putfield 52, 3) := by decide +kernel
theorem dX0_take_64 : decode cX0_take 64 = .ok (.aload_n 0, 1) := by decide +kernel
theorem dX0_take_65 : decode cX0_take 65 = .ok (.aload_n 1, 1) := by decide +kernel
theorem dX0_take_66 : decode cX0_take 66 = .ok (.getfield 18, 3) := by decide +kernel
theorem dX0_take_69 : decode cX0_take 69 = .ok (.putfield 18, 3) := by decide +kernel
theorem dX0_take_72 : decode cX0_take 72 = .ok (.aload_n 1, 1) := by decide +kernel
theorem dX0_take_73 : decode cX0_take 73 = .ok (.getfield 21, 3) := by decide +kernel
theorem dX0_take_76 : decode cX0_take 76 = .ok (.iconst 0, 1) := by decide +kernel
theorem dX0_take_77 : decode cX0_take 77 = .ok (.aload_n 0, 1) := by decide +kernel
theorem dX0_take_78 : decode cX0_take 78 = .ok (.getfield 21, 3) := by decide +kernel
theorem dX0_take_81 : decode cX0_take 81 = .ok (.iconst 0, 1) := by decide +kernel
theorem dX0_take_82 : decode cX0_take 82 = .ok (.bipush 6, 2) := by decide +kernel
theorem dX0_take_84 : decode cX0_take 84 = .ok (.invokestatic 55, 3) := by decide +kernel
theorem dX0_take_87 : decode cX0_take 87 = .ok (.aload_n 1, 1) := by decide +kernel
theorem dX0_take_88 : decode cX0_take 88 = .ok (.getfield 25, 3) := by decide +kernel
theorem dX0_take_91 : decode cX0_take 91 = .ok (.iconst 0, 1) := by decide +kernel
theorem dX0_take_92 : decode cX0_take 92 = .ok (.aload_n 0, 1) := by decide +kernel
theorem dX0_take_93 : decode cX0_take 93 = .ok (.getfield 25, 3) := by decide +kernel
theorem dX0_take_96 : decode cX0_take 96 = .ok (.iconst 0, 1) := by decide +kernel
theorem dX0_take_97 : decode cX0_take 97 = .ok (.bipush 6, 2) := by decide +kernel
theorem dX0_take_99 : decode cX0_take 99 = .ok (.invokestatic 55, 3) := by decide +kernel
theorem dX0_take_102 : decode cX0_take 102 = .ok (.aload_n 1, 1) := by decide +kernel
theorem dX0_take_103 : decode cX0_take 103 = .ok (.getfield 28, 3) := by decide +kernel
theorem dX0_take_106 : decode cX0_take 106 = .ok (.iconst 0, 1) := by decide +kernel
theorem dX0_take_107 : decode cX0_take 107 = .ok (.aload_n 0, 1) := by decide +kernel
theorem dX0_take_108 : decode cX0_take 108 = .ok (.getfield 28, 3) := by decide +kernel
theorem dX0_take_111 : decode cX0_take 111 = .ok (.iconst 0, 1) := by decide +kernel
theorem dX0_take_112 : decode cX0_take 112 = .ok (.bipush 6, 2) := by decide +kernel
theorem dX0_take_114 : decode cX0_take 114 = .ok (.invokestatic 55, 3) := by decide +kernel
theorem dX0_take_117 : decode cX0_take 117 = .ok (.aload_n 1, 1) := by decide +kernel
theorem dX0_take_118 : decode cX0_take 118 = .ok (.getfield 31, 3) := by decide +kernel
theorem dX0_take_121 : decode cX0_take 121 = .ok (.iconst 0, 1) := by decide +kernel
theorem dX0_take_122 : decode cX0_take 122 = .ok (.aload_n 0, 1) := by decide +kernel
theorem dX0_take_123 : decode cX0_take 123 = .ok (.getfield 31, 3) := by decide +kernel
theorem dX0_take_126 : decode cX0_take 126 = .ok (.iconst 0, 1) := by decide +kernel
theorem dX0_take_127 : decode cX0_take 127 = .ok (.bipush 6, 2) := by decide +kernel
theorem dX0_take_129 : decode cX0_take 129 = .ok (.invokestatic 55, 3) := by decide +kernel
theorem dX0_take_132 : decode cX0_take 132 = .ok (.aload_n 1, 1) := by decide +kernel
theorem dX0_take_133 : decode cX0_take 133 = .ok (.getfield 34, 3) := by decide +kernel
theorem dX0_take_136 : decode cX0_take 136 = .ok (.iconst 0, 1) := by decide +kernel
theorem dX0_take_137 : decode cX0_take 137 = .ok (.aload_n 0, 1) := by decide +kernel
theorem dX0_take_138 : decode cX0_take 138 = .ok (.getfield 34, 3) := by decide +kernel
theorem dX0_take_141 : decode cX0_take 141 = .ok (.iconst 0, 1) := by decide +kernel
theorem dX0_take_142 : decode cX0_take 142 = .ok (.bipush 6, 2) := by decide +kernel
theorem dX0_take_144 : decode cX0_take 144 = .ok (.invokestatic 55, 3) := by decide +kernel
theorem dX0_take_147 : decode cX0_take 147 = .ok (.return_, 1) := by decide +kernel
theorem dX0_build_0 : decode cX0_build 0 = .ok (.aload_n 0, 1) := by decide +kernel
theorem dX0_build_1 : decode cX0_build 1 = .ok (.iload_n 1, 1) := by decide +kernel
theorem dX0_build_2 : decode cX0_build 2 = .ok (.putfield 9, 3) := by decide +kernel
theorem dX0_build_5 : decode cX0_build 5 = .ok (.aload_n 0, 1) := by decide +kernel
theorem dX0_build_6 : decode cX0_build 6 = .ok (.iload_n 2, 1) := by decide +kernel
theorem dX0_build_7 : decode cX0_build 7 = .ok (.putfield 15, 3) := by decide +kernel
theorem dX0_build_10 : decode cX0_build 10 = .ok (.aload_n 0, 1) := by decide +kernel
theorem dX0_build_11 : decode cX0_build 11 = .ok (.iconst 0, 1) := by decide +kernel
theorem dX0_build_12 : decode cX0_build 12 = .ok (.putfield 37, 3) := by decide +kernel
theorem dX0_build_15 : decode cX0_build 15 = .ok (.aload_n 0, 1) := by decide +kernel
theorem dX0_build_16 : decode cX0_build 16 = .ok (.iconst 0, 1) := by decide +kernel
theorem dX0_build_17 : decode cX0_build 17 = .ok (.putfield 40, 3) := by decide +kernel
theorem dX0_build_20 : decode cX0_build 20 = .ok (.aload_n 0, 1) := by decide +kernel
theorem dX0_build_21 : decode cX0_build 21 = .ok (.iconst 0, 1) := by decide +kernel
theorem dX0_build_22 : decode cX0_build 22 = .ok (.putfield 43, 3) := by decide +kernel
theorem dX0_build_25 : decode cX0_build 25 = .ok (.aload_n 0, 1) := by decide +kernel
theorem dX0_build_26 : decode cX0_build 26 = .ok (.iconst 0, 1) := by decide +kernel
theorem dX0_build_27 : decode cX0_build 27 = .ok (.putfield 46, 3) := by decide +kernel
theorem dX0_build_30 : decode cX0_build 30 = .ok (.aload_n 0, 1) := by decide +kernel
theorem dX0_build_31 : decode cX0_build 31 = .ok (.iconst 0, 1) := by decide +kernel
theorem dX0_build_32 : decode cX0_build 32 = .ok (.putfield 49, 3) := by decide +kernel
theorem dX0_build_35 : decode cX0_build 35 = .ok (.aload_n 0, 1) := by decide +kernel
theorem dX0_build_36 : decode cX0_build 36 = .ok (.iconst 0, 1) := by decide +kernel
theorem dX0_build_37 : decode cX0_build 37 = .ok (.putfield 52, 3) := by decide +kernel
theorem dX0_build_40 : decode cX0_build 40 = .ok (.return_, 1) := by decide +kernel
theorem dX0_enter_0 : decode cX0_enter 0 = .ok (.aload_n 0, 1) := by decide +kernel
theorem dX0_enter_1 : decode cX0_enter 1 = .ok (.getfield 37, 3) := by decide +kernel
theorem dX0_enter_4 : decode cX0_enter 4 = .ok (.istore 5, 2) := by decide +kernel
theorem dX0_enter_6 : decode cX0_enter 6 = .ok (.iload 5, 2) := by decide +kernel
theorem dX0_enter_8 : decode cX0_enter 8 = .ok (.ifCond .lt 10, 3) := by decide +kernel
theorem dX0_enter_11 : decode cX0_enter 11 = .ok (.iload 5, 2) := by decide +kernel
theorem dX0_enter_13 : decode cX0_enter 13 = .ok (.bipush 6, 2) := by decide +kernel
theorem dX0_enter_15 : decode cX0_enter 15 = .ok (.if_icmp .lt 6, 3) := by decide +kernel
theorem dX0_enter_18 : decode cX0_enter 18 = .ok (.bipush (-3), 2) := by decide +kernel
theorem dX0_enter_20 : decode cX0_enter 20 = .ok (.ireturn, 1) := by decide +kernel
theorem dX0_enter_21 : decode cX0_enter 21 = .ok (.aload_n 0, 1) := by decide +kernel
theorem dX0_enter_22 : decode cX0_enter 22 = .ok (.getfield 21, 3) := by decide +kernel
theorem dX0_enter_25 : decode cX0_enter 25 = .ok (.iload 5, 2) := by decide +kernel
theorem dX0_enter_27 : decode cX0_enter 27 = .ok (.iload_n 1, 1) := by decide +kernel
theorem dX0_enter_28 : decode cX0_enter 28 = .ok (.iastore, 1) := by decide +kernel
theorem dX0_enter_29 : decode cX0_enter 29 = .ok (.aload_n 0, 1) := by decide +kernel
theorem dX0_enter_30 : decode cX0_enter 30 = .ok (.getfield 25, 3) := by decide +kernel
theorem dX0_enter_33 : decode cX0_enter 33 = .ok (.iload 5, 2) := by decide +kernel
theorem dX0_enter_35 : decode cX0_enter 35 = .ok (.iload_n 2, 1) := by decide +kernel
theorem dX0_enter_36 : decode cX0_enter 36 = .ok (.iastore, 1) := by decide +kernel
theorem dX0_enter_37 : decode cX0_enter 37 = .ok (.aload_n 0, 1) := by decide +kernel
theorem dX0_enter_38 : decode cX0_enter 38 = .ok (.getfield 28, 3) := by decide +kernel
theorem dX0_enter_41 : decode cX0_enter 41 = .ok (.iload 5, 2) := by decide +kernel
theorem dX0_enter_43 : decode cX0_enter 43 = .ok (.iload_n 3, 1) := by decide +kernel
theorem dX0_enter_44 : decode cX0_enter 44 = .ok (.iastore, 1) := by decide +kernel
theorem dX0_enter_45 : decode cX0_enter 45 = .ok (.aload_n 0, 1) := by decide +kernel
theorem dX0_enter_46 : decode cX0_enter 46 = .ok (.getfield 31, 3) := by decide +kernel
theorem dX0_enter_49 : decode cX0_enter 49 = .ok (.iload 5, 2) := by decide +kernel
theorem dX0_enter_51 : decode cX0_enter 51 = .ok (.iload 4, 2) := by decide +kernel
theorem dX0_enter_53 : decode cX0_enter 53 = .ok (.iastore, 1) := by decide +kernel
theorem dX0_enter_54 : decode cX0_enter 54 = .ok (.aload_n 0, 1) := by decide +kernel
theorem dX0_enter_55 : decode cX0_enter 55 = .ok (.getfield 34, 3) := by decide +kernel
theorem dX0_enter_58 : decode cX0_enter 58 = .ok (.iload 5, 2) := by decide +kernel
theorem dX0_enter_60 : decode cX0_enter 60 = .ok (.iconst 0, 1) := by decide +kernel
theorem dX0_enter_61 : decode cX0_enter 61 = .ok (.iastore, 1) := by decide +kernel
theorem dX0_enter_62 : decode cX0_enter 62 = .ok (.aload_n 0, 1) := by decide +kernel
theorem dX0_enter_63 : decode cX0_enter 63 = .ok (.dup, 1) := by decide +kernel
theorem dX0_enter_64 : decode cX0_enter 64 = .ok (.getfield 37, 3) := by decide +kernel
theorem dX0_enter_67 : decode cX0_enter 67 = .ok (.iconst 1, 1) := by decide +kernel
theorem dX0_enter_68 : decode cX0_enter 68 = .ok (.iadd, 1) := by decide +kernel
theorem dX0_enter_69 : decode cX0_enter 69 = .ok (.putfield 37, 3) := by decide +kernel
theorem dX0_enter_72 : decode cX0_enter 72 = .ok (.iload 5, 2) := by decide +kernel
theorem dX0_enter_74 : decode cX0_enter 74 = .ok (.ireturn, 1) := by decide +kernel
theorem dX0_cells_0 : decode cX0_cells 0 = .ok (.aload_n 0, 1) := by decide +kernel
theorem dX0_cells_1 : decode cX0_cells 1 = .ok (.getfield 9, 3) := by decide +kernel
theorem dX0_cells_4 : decode cX0_cells 4 = .ok (.aload_n 0, 1) := by decide +kernel
theorem dX0_cells_5 : decode cX0_cells 5 = .ok (.getfield 15, 3) := by decide +kernel
theorem dX0_cells_8 : decode cX0_cells 8 = .ok (.imul, 1) := by decide +kernel
theorem dX0_cells_9 : decode cX0_cells 9 = .ok (.ireturn, 1) := by decide +kernel
theorem dX0_isFree_0 : decode cX0_isFree 0 = .ok (.aload_n 0, 1) := by decide +kernel
theorem dX0_isFree_1 : decode cX0_isFree 1 = .ok (.getfield 43, 3) := by decide +kernel
theorem dX0_isFree_4 : decode cX0_isFree 4 = .ok (.iconst 1, 1) := by decide +kernel
theorem dX0_isFree_5 : decode cX0_isFree 5 = .ok (.iload_n 1, 1) := by decide +kernel
theorem dX0_isFree_6 : decode cX0_isFree 6 = .ok (.ishl, 1) := by decide +kernel
theorem dX0_isFree_7 : decode cX0_isFree 7 = .ok (.iand, 1) := by decide +kernel
theorem dX0_isFree_8 : decode cX0_isFree 8 = .ok (.ifCond .ne 7, 3) := by decide +kernel
theorem dX0_isFree_11 : decode cX0_isFree 11 = .ok (.iconst 1, 1) := by decide +kernel
theorem dX0_isFree_12 : decode cX0_isFree 12 = .ok (.goto 4, 3) := by decide +kernel
theorem dX0_isFree_15 : decode cX0_isFree 15 = .ok (.iconst 0, 1) := by decide +kernel
theorem dX0_isFree_16 : decode cX0_isFree 16 = .ok (.ireturn, 1) := by decide +kernel
theorem dX0_far_0 : decode cX0_far 0 = .ok (.aload_n 0, 1) := by decide +kernel
theorem dX0_far_1 : decode cX0_far 1 = .ok (.aload_n 0, 1) := by decide +kernel
theorem dX0_far_2 : decode cX0_far 2 = .ok (.getfield 25, 3) := by decide +kernel
theorem dX0_far_5 : decode cX0_far 5 = .ok (.iload_n 1, 1) := by decide +kernel
theorem dX0_far_6 : decode cX0_far 6 = .ok (.iaload, 1) := by decide +kernel
theorem dX0_far_7 : decode cX0_far 7 = .ok (.invokevirtual 61, 3) := by decide +kernel
theorem dX0_far_10 : decode cX0_far 10 = .ok (.aload_n 0, 1) := by decide +kernel
theorem dX0_far_11 : decode cX0_far 11 = .ok (.aload_n 0, 1) := by decide +kernel
theorem dX0_far_12 : decode cX0_far 12 = .ok (.getfield 40, 3) := by decide +kernel
theorem dX0_far_15 : decode cX0_far 15 = .ok (.invokevirtual 61, 3) := by decide +kernel
theorem dX0_far_18 : decode cX0_far 18 = .ok (.isub, 1) := by decide +kernel
theorem dX0_far_19 : decode cX0_far 19 = .ok (.invokestatic 65, 3) := by decide +kernel
theorem dX0_far_22 : decode cX0_far 22 = .ok (.aload_n 0, 1) := by decide +kernel
theorem dX0_far_23 : decode cX0_far 23 = .ok (.aload_n 0, 1) := by decide +kernel
theorem dX0_far_24 : decode cX0_far 24 = .ok (.getfield 25, 3) := by decide +kernel
theorem dX0_far_27 : decode cX0_far 27 = .ok (.iload_n 1, 1) := by decide +kernel
theorem dX0_far_28 : decode cX0_far 28 = .ok (.iaload, 1) := by decide +kernel
theorem dX0_far_29 : decode cX0_far 29 = .ok (.invokevirtual 70, 3) := by decide +kernel
theorem dX0_far_32 : decode cX0_far 32 = .ok (.aload_n 0, 1) := by decide +kernel
theorem dX0_far_33 : decode cX0_far 33 = .ok (.aload_n 0, 1) := by decide +kernel
theorem dX0_far_34 : decode cX0_far 34 = .ok (.getfield 40, 3) := by decide +kernel
theorem dX0_far_37 : decode cX0_far 37 = .ok (.invokevirtual 70, 3) := by decide +kernel
theorem dX0_far_40 : decode cX0_far 40 = .ok (.isub, 1) := by decide +kernel
theorem dX0_far_41 : decode cX0_far 41 = .ok (.invokestatic 65, 3) := by decide +kernel
theorem dX0_far_44 : decode cX0_far 44 = .ok (.iadd, 1) := by decide +kernel
theorem dX0_far_45 : decode cX0_far 45 = .ok (.ireturn, 1) := by decide +kernel
theorem dX0_rowOf_0 : decode cX0_rowOf 0 = .ok (.aload_n 0, 1) := by decide +kernel
theorem dX0_rowOf_1 : decode cX0_rowOf 1 = .ok (.getfield 15, 3) := by decide +kernel
theorem dX0_rowOf_4 : decode cX0_rowOf 4 = .ok (.iconst 2, 1) := by decide +kernel
theorem dX0_rowOf_5 : decode cX0_rowOf 5 = .ok (.if_icmp .ge 7, 3) := by decide +kernel
theorem dX0_rowOf_8 : decode cX0_rowOf 8 = .ok (.iconst 0, 1) := by decide +kernel
theorem dX0_rowOf_9 : decode cX0_rowOf 9 = .ok (.goto 9, 3) := by decide +kernel
theorem dX0_rowOf_12 : decode cX0_rowOf 12 = .ok (.iload_n 1, 1) := by decide +kernel
theorem dX0_rowOf_13 : decode cX0_rowOf 13 = .ok (.aload_n 0, 1) := by decide +kernel
theorem dX0_rowOf_14 : decode cX0_rowOf 14 = .ok (.getfield 15, 3) := by decide +kernel
theorem dX0_rowOf_17 : decode cX0_rowOf 17 = .ok (.idiv, 1) := by decide +kernel
theorem dX0_rowOf_18 : decode cX0_rowOf 18 = .ok (.ireturn, 1) := by decide +kernel
theorem dX0_columnOf_0 : decode cX0_columnOf 0 = .ok (.aload_n 0, 1) := by decide +kernel
theorem dX0_columnOf_1 : decode cX0_columnOf 1 = .ok (.getfield 15, 3) := by decide +kernel
theorem dX0_columnOf_4 : decode cX0_columnOf 4 = .ok (.iconst 2, 1) := by decide +kernel
theorem dX0_columnOf_5 : decode cX0_columnOf 5 = .ok (.if_icmp .ge 7, 3) := by decide +kernel
theorem dX0_columnOf_8 : decode cX0_columnOf 8 = .ok (.iconst 0, 1) := by decide +kernel
theorem dX0_columnOf_9 : decode cX0_columnOf 9 = .ok (.goto 9, 3) := by decide +kernel
theorem dX0_columnOf_12 : decode cX0_columnOf 12 = .ok (.iload_n 1, 1) := by decide +kernel
theorem dX0_columnOf_13 : decode cX0_columnOf 13 = .ok (.aload_n 0, 1) := by decide +kernel
theorem dX0_columnOf_14 : decode cX0_columnOf 14 = .ok (.getfield 15, 3) := by decide +kernel
theorem dX0_columnOf_17 : decode cX0_columnOf 17 = .ok (.irem, 1) := by decide +kernel
theorem dX0_columnOf_18 : decode cX0_columnOf 18 = .ok (.ireturn, 1) := by decide +kernel
theorem dX0_loud_0 : decode cX0_loud 0 = .ok (.aload_n 0, 1) := by decide +kernel
theorem dX0_loud_1 : decode cX0_loud 1 = .ok (.iload_n 1, 1) := by decide +kernel
theorem dX0_loud_2 : decode cX0_loud 2 = .ok (.invokevirtual 73, 3) := by decide +kernel
theorem dX0_loud_5 : decode cX0_loud 5 = .ok (.istore_n 2, 1) := by decide +kernel
theorem dX0_loud_6 : decode cX0_loud 6 = .ok (.iconst 0, 1) := by decide +kernel
theorem dX0_loud_7 : decode cX0_loud 7 = .ok (.aload_n 0, 1) := by decide +kernel
theorem dX0_loud_8 : decode cX0_loud 8 = .ok (.getfield 28, 3) := by decide +kernel
theorem dX0_loud_11 : decode cX0_loud 11 = .ok (.iload_n 1, 1) := by decide +kernel
theorem dX0_loud_12 : decode cX0_loud 12 = .ok (.iaload, 1) := by decide +kernel
theorem dX0_loud_13 : decode cX0_loud 13 = .ok (.iload_n 2, 1) := by decide +kernel
theorem dX0_loud_14 : decode cX0_loud 14 = .ok (.isub, 1) := by decide +kernel
theorem dX0_loud_15 : decode cX0_loud 15 = .ok (.invokestatic 76, 3) := by decide +kernel
theorem dX0_loud_18 : decode cX0_loud 18 = .ok (.istore_n 3, 1) := by decide +kernel
theorem dX0_loud_19 : decode cX0_loud 19 = .ok (.iload_n 3, 1) := by decide +kernel
theorem dX0_loud_20 : decode cX0_loud 20 = .ok (.iconst 2, 1) := by decide +kernel
theorem dX0_loud_21 : decode cX0_loud 21 = .ok (.idiv, 1) := by decide +kernel
theorem dX0_loud_22 : decode cX0_loud 22 = .ok (.istore 4, 2) := by decide +kernel
theorem dX0_loud_24 : decode cX0_loud 24 = .ok (.iload_n 3, 1) := by decide +kernel
theorem dX0_loud_25 : decode cX0_loud 25 = .ok (.iconst 4, 1) := by decide +kernel
theorem dX0_loud_26 : decode cX0_loud 26 = .ok (.iadd, 1) := by decide +kernel
theorem dX0_loud_27 : decode cX0_loud 27 = .ok (.istore 5, 2) := by decide +kernel
theorem dX0_loud_29 : decode cX0_loud 29 = .ok (.aload_n 0, 1) := by decide +kernel
theorem dX0_loud_30 : decode cX0_loud 30 = .ok (.getfield 21, 3) := by decide +kernel
theorem dX0_loud_33 : decode cX0_loud 33 = .ok (.iload_n 1, 1) := by decide +kernel
theorem dX0_loud_34 : decode cX0_loud 34 = .ok (.iaload, 1) := by decide +kernel
theorem dX0_loud_35 : decode cX0_loud 35 = .ok (.tableswitch 66 1 4 #[29, 32, 35, 51], 29) := by decide +kernel
theorem dX0_loud_64 : decode cX0_loud 64 = .ok (.iload 4, 2) := by decide +kernel
theorem dX0_loud_66 : decode cX0_loud 66 = .ok (.ireturn, 1) := by decide +kernel
theorem dX0_loud_67 : decode cX0_loud 67 = .ok (.iload 5, 2) := by decide +kernel
theorem dX0_loud_69 : decode cX0_loud 69 = .ok (.ireturn, 1) := by decide +kernel
theorem dX0_loud_70 : decode cX0_loud 70 = .ok (.aload_n 0, 1) := by decide +kernel
theorem dX0_loud_71 : decode cX0_loud 71 = .ok (.getfield 46, 3) := by decide +kernel
theorem dX0_loud_74 : decode cX0_loud 74 = .ok (.iconst 2, 1) := by decide +kernel
theorem dX0_loud_75 : decode cX0_loud 75 = .ok (.irem, 1) := by decide +kernel
theorem dX0_loud_76 : decode cX0_loud 76 = .ok (.ifCond .ne 7, 3) := by decide +kernel
theorem dX0_loud_79 : decode cX0_loud 79 = .ok (.iconst 0, 1) := by decide +kernel
theorem dX0_loud_80 : decode cX0_loud 80 = .ok (.goto 5, 3) := by decide +kernel
theorem dX0_loud_83 : decode cX0_loud 83 = .ok (.iload 4, 2) := by decide +kernel
theorem dX0_loud_85 : decode cX0_loud 85 = .ok (.ireturn, 1) := by decide +kernel
theorem dX0_loud_86 : decode cX0_loud 86 = .ok (.iload_n 2, 1) := by decide +kernel
theorem dX0_loud_87 : decode cX0_loud 87 = .ok (.iconst 2, 1) := by decide +kernel
theorem dX0_loud_88 : decode cX0_loud 88 = .ok (.if_icmp .gt 10, 3) := by decide +kernel
theorem dX0_loud_91 : decode cX0_loud 91 = .ok (.iconst 2, 1) := by decide +kernel
theorem dX0_loud_92 : decode cX0_loud 92 = .ok (.iload 5, 2) := by decide +kernel
theorem dX0_loud_94 : decode cX0_loud 94 = .ok (.imul, 1) := by decide +kernel
theorem dX0_loud_95 : decode cX0_loud 95 = .ok (.goto 5, 3) := by decide +kernel
theorem dX0_loud_98 : decode cX0_loud 98 = .ok (.iload 5, 2) := by decide +kernel
theorem dX0_loud_100 : decode cX0_loud 100 = .ok (.ireturn, 1) := by decide +kernel
theorem dX0_loud_101 : decode cX0_loud 101 = .ok (.iload_n 3, 1) := by decide +kernel
theorem dX0_loud_102 : decode cX0_loud 102 = .ok (.ireturn, 1) := by decide +kernel
theorem dX0_followed_0 : decode cX0_followed 0 = .ok (.bipush (-4), 2) := by decide +kernel
theorem dX0_followed_2 : decode cX0_followed 2 = .ok (.istore_n 1, 1) := by decide +kernel
theorem dX0_followed_3 : decode cX0_followed 3 = .ok (.iconst 0, 1) := by decide +kernel
theorem dX0_followed_4 : decode cX0_followed 4 = .ok (.istore_n 2, 1) := by decide +kernel
theorem dX0_followed_5 : decode cX0_followed 5 = .ok (.iconst 0, 1) := by decide +kernel
theorem dX0_followed_6 : decode cX0_followed 6 = .ok (.istore_n 3, 1) := by decide +kernel
theorem dX0_followed_7 : decode cX0_followed 7 = .ok (.iload_n 3, 1) := by decide +kernel
theorem dX0_followed_8 : decode cX0_followed 8 = .ok (.aload_n 0, 1) := by decide +kernel
theorem dX0_followed_9 : decode cX0_followed 9 = .ok (.getfield 37, 3) := by decide +kernel
theorem dX0_followed_12 : decode cX0_followed 12 = .ok (.if_icmp .ge 35, 3) := by decide +kernel
theorem dX0_followed_15 : decode cX0_followed 15 = .ok (.aload_n 0, 1) := by decide +kernel
theorem dX0_followed_16 : decode cX0_followed 16 = .ok (.iload_n 3, 1) := by decide +kernel
theorem dX0_followed_17 : decode cX0_followed 17 = .ok (.invokevirtual 80, 3) := by decide +kernel
theorem dX0_followed_20 : decode cX0_followed 20 = .ok (.ifCond .eq 21, 3) := by decide +kernel
theorem dX0_followed_23 : decode cX0_followed 23 = .ok (.aload_n 0, 1) := by decide +kernel
theorem dX0_followed_24 : decode cX0_followed 24 = .ok (.iload_n 3, 1) := by decide +kernel
theorem dX0_followed_25 : decode cX0_followed 25 = .ok (.invokevirtual 84, 3) := by decide +kernel
theorem dX0_followed_28 : decode cX0_followed 28 = .ok (.istore 4, 2) := by decide +kernel
theorem dX0_followed_30 : decode cX0_followed 30 = .ok (.iload 4, 2) := by decide +kernel
theorem dX0_followed_32 : decode cX0_followed 32 = .ok (.iload_n 2, 1) := by decide +kernel
theorem dX0_followed_33 : decode cX0_followed 33 = .ok (.if_icmp .le 8, 3) := by decide +kernel
theorem dX0_followed_36 : decode cX0_followed 36 = .ok (.iload 4, 2) := by decide +kernel
theorem dX0_followed_38 : decode cX0_followed 38 = .ok (.istore_n 2, 1) := by decide +kernel
theorem dX0_followed_39 : decode cX0_followed 39 = .ok (.iload_n 3, 1) := by decide +kernel
theorem dX0_followed_40 : decode cX0_followed 40 = .ok (.istore_n 1, 1) := by decide +kernel
theorem dX0_followed_41 : decode cX0_followed 41 = .ok (.iinc 3 1, 3) := by decide +kernel
theorem dX0_followed_44 : decode cX0_followed 44 = .ok (.goto (-37), 3) := by decide +kernel
theorem dX0_followed_47 : decode cX0_followed 47 = .ok (.iload_n 1, 1) := by decide +kernel
theorem dX0_followed_48 : decode cX0_followed 48 = .ok (.ireturn, 1) := by decide +kernel
theorem dX0_goesFirst_0 : decode cX0_goesFirst 0 = .ok (.iload_n 1, 1) := by decide +kernel
theorem dX0_goesFirst_1 : decode cX0_goesFirst 1 = .ok (.iload_n 2, 1) := by decide +kernel
theorem dX0_goesFirst_2 : decode cX0_goesFirst 2 = .ok (.if_icmp .eq 11, 3) := by decide +kernel
theorem dX0_goesFirst_5 : decode cX0_goesFirst 5 = .ok (.aload_n 0, 1) := by decide +kernel
theorem dX0_goesFirst_6 : decode cX0_goesFirst 6 = .ok (.iload_n 1, 1) := by decide +kernel
theorem dX0_goesFirst_7 : decode cX0_goesFirst 7 = .ok (.invokevirtual 80, 3) := by decide +kernel
theorem dX0_goesFirst_10 : decode cX0_goesFirst 10 = .ok (.ifCond .ne 5, 3) := by decide +kernel
theorem dX0_goesFirst_13 : decode cX0_goesFirst 13 = .ok (.iconst 0, 1) := by decide +kernel
theorem dX0_goesFirst_14 : decode cX0_goesFirst 14 = .ok (.ireturn, 1) := by decide +kernel
theorem dX0_goesFirst_15 : decode cX0_goesFirst 15 = .ok (.aload_n 0, 1) := by decide +kernel
theorem dX0_goesFirst_16 : decode cX0_goesFirst 16 = .ok (.iload_n 1, 1) := by decide +kernel
theorem dX0_goesFirst_17 : decode cX0_goesFirst 17 = .ok (.invokevirtual 84, 3) := by decide +kernel
theorem dX0_goesFirst_20 : decode cX0_goesFirst 20 = .ok (.aload_n 0, 1) := by decide +kernel
theorem dX0_goesFirst_21 : decode cX0_goesFirst 21 = .ok (.iload_n 2, 1) := by decide +kernel
theorem dX0_goesFirst_22 : decode cX0_goesFirst 22 = .ok (.invokevirtual 84, 3) := by decide +kernel
theorem dX0_goesFirst_25 : decode cX0_goesFirst 25 = .ok (.isub, 1) := by decide +kernel
theorem dX0_goesFirst_26 : decode cX0_goesFirst 26 = .ok (.istore_n 3, 1) := by decide +kernel
theorem dX0_goesFirst_27 : decode cX0_goesFirst 27 = .ok (.iload_n 3, 1) := by decide +kernel
theorem dX0_goesFirst_28 : decode cX0_goesFirst 28 = .ok (.ifCond .gt 12, 3) := by decide +kernel
theorem dX0_goesFirst_31 : decode cX0_goesFirst 31 = .ok (.iload_n 3, 1) := by decide +kernel
theorem dX0_goesFirst_32 : decode cX0_goesFirst 32 = .ok (.ifCond .ne 12, 3) := by decide +kernel
theorem dX0_goesFirst_35 : decode cX0_goesFirst 35 = .ok (.iload_n 1, 1) := by decide +kernel
theorem dX0_goesFirst_36 : decode cX0_goesFirst 36 = .ok (.iload_n 2, 1) := by decide +kernel
theorem dX0_goesFirst_37 : decode cX0_goesFirst 37 = .ok (.if_icmp .ge 7, 3) := by decide +kernel
theorem dX0_goesFirst_40 : decode cX0_goesFirst 40 = .ok (.iconst 1, 1) := by decide +kernel
theorem dX0_goesFirst_41 : decode cX0_goesFirst 41 = .ok (.goto 4, 3) := by decide +kernel
theorem dX0_goesFirst_44 : decode cX0_goesFirst 44 = .ok (.iconst 0, 1) := by decide +kernel
theorem dX0_goesFirst_45 : decode cX0_goesFirst 45 = .ok (.ireturn, 1) := by decide +kernel
theorem dX0_feel_0 : decode cX0_feel 0 = .ok (.aload_n 0, 1) := by decide +kernel
theorem dX0_feel_1 : decode cX0_feel 1 = .ok (.getfield 31, 3) := by decide +kernel
theorem dX0_feel_4 : decode cX0_feel 4 = .ok (.iload_n 1, 1) := by decide +kernel
theorem dX0_feel_5 : decode cX0_feel 5 = .ok (.iaload, 1) := by decide +kernel
theorem dX0_feel_6 : decode cX0_feel 6 = .ok (.aload_n 0, 1) := by decide +kernel
theorem dX0_feel_7 : decode cX0_feel 7 = .ok (.getfield 34, 3) := by decide +kernel
theorem dX0_feel_10 : decode cX0_feel 10 = .ok (.iload_n 1, 1) := by decide +kernel
theorem dX0_feel_11 : decode cX0_feel 11 = .ok (.iaload, 1) := by decide +kernel
theorem dX0_feel_12 : decode cX0_feel 12 = .ok (.ixor, 1) := by decide +kernel
theorem dX0_feel_13 : decode cX0_feel 13 = .ok (.ireturn, 1) := by decide +kernel
theorem dX0_namedBy_0 : decode cX0_namedBy 0 = .ok (.bipush (-4), 2) := by decide +kernel
theorem dX0_namedBy_2 : decode cX0_namedBy 2 = .ok (.istore_n 2, 1) := by decide +kernel
theorem dX0_namedBy_3 : decode cX0_namedBy 3 = .ok (.bipush 7, 2) := by decide +kernel
theorem dX0_namedBy_5 : decode cX0_namedBy 5 = .ok (.istore_n 3, 1) := by decide +kernel
theorem dX0_namedBy_6 : decode cX0_namedBy 6 = .ok (.iconst 0, 1) := by decide +kernel
theorem dX0_namedBy_7 : decode cX0_namedBy 7 = .ok (.istore 4, 2) := by decide +kernel
theorem dX0_namedBy_9 : decode cX0_namedBy 9 = .ok (.iload 4, 2) := by decide +kernel
theorem dX0_namedBy_11 : decode cX0_namedBy 11 = .ok (.aload_n 0, 1) := by decide +kernel
theorem dX0_namedBy_12 : decode cX0_namedBy 12 = .ok (.getfield 37, 3) := by decide +kernel
theorem dX0_namedBy_15 : decode cX0_namedBy 15 = .ok (.if_icmp .ge 35, 3) := by decide +kernel
theorem dX0_namedBy_18 : decode cX0_namedBy 18 = .ok (.aload_n 0, 1) := by decide +kernel
theorem dX0_namedBy_19 : decode cX0_namedBy 19 = .ok (.getfield 31, 3) := by decide +kernel
theorem dX0_namedBy_22 : decode cX0_namedBy 22 = .ok (.iload 4, 2) := by decide +kernel
theorem dX0_namedBy_24 : decode cX0_namedBy 24 = .ok (.iaload, 1) := by decide +kernel
theorem dX0_namedBy_25 : decode cX0_namedBy 25 = .ok (.iload_n 1, 1) := by decide +kernel
theorem dX0_namedBy_26 : decode cX0_namedBy 26 = .ok (.ixor, 1) := by decide +kernel
theorem dX0_namedBy_27 : decode cX0_namedBy 27 = .ok (.invokestatic 87, 3) := by decide +kernel
theorem dX0_namedBy_30 : decode cX0_namedBy 30 = .ok (.istore 5, 2) := by decide +kernel
theorem dX0_namedBy_32 : decode cX0_namedBy 32 = .ok (.iload 5, 2) := by decide +kernel
theorem dX0_namedBy_34 : decode cX0_namedBy 34 = .ok (.iload_n 3, 1) := by decide +kernel
theorem dX0_namedBy_35 : decode cX0_namedBy 35 = .ok (.if_icmp .ge 9, 3) := by decide +kernel
theorem dX0_namedBy_38 : decode cX0_namedBy 38 = .ok (.iload 5, 2) := by decide +kernel
theorem dX0_namedBy_40 : decode cX0_namedBy 40 = .ok (.istore_n 3, 1) := by decide +kernel
theorem dX0_namedBy_41 : decode cX0_namedBy 41 = .ok (.iload 4, 2) := by decide +kernel
theorem dX0_namedBy_43 : decode cX0_namedBy 43 = .ok (.istore_n 2, 1) := by decide +kernel
theorem dX0_namedBy_44 : decode cX0_namedBy 44 = .ok (.iinc 4 1, 3) := by decide +kernel
theorem dX0_namedBy_47 : decode cX0_namedBy 47 = .ok (.goto (-38), 3) := by decide +kernel
theorem dX0_namedBy_50 : decode cX0_namedBy 50 = .ok (.iload_n 2, 1) := by decide +kernel
theorem dX0_namedBy_51 : decode cX0_namedBy 51 = .ok (.ireturn, 1) := by decide +kernel
theorem dX0_pass_0 : decode cX0_pass 0 = .ok (.aload_n 0, 1) := by decide +kernel
theorem dX0_pass_1 : decode cX0_pass 1 = .ok (.invokevirtual 92, 3) := by decide +kernel
theorem dX0_pass_4 : decode cX0_pass 4 = .ok (.istore_n 1, 1) := by decide +kernel
theorem dX0_pass_5 : decode cX0_pass 5 = .ok (.iload_n 1, 1) := by decide +kernel
theorem dX0_pass_6 : decode cX0_pass 6 = .ok (.bipush (-4), 2) := by decide +kernel
theorem dX0_pass_8 : decode cX0_pass 8 = .ok (.if_icmp .eq 17, 3) := by decide +kernel
theorem dX0_pass_11 : decode cX0_pass 11 = .ok (.aload_n 0, 1) := by decide +kernel
theorem dX0_pass_12 : decode cX0_pass 12 = .ok (.aload_n 0, 1) := by decide +kernel
theorem dX0_pass_13 : decode cX0_pass 13 = .ok (.aload_n 0, 1) := by decide +kernel
theorem dX0_pass_14 : decode cX0_pass 14 = .ok (.getfield 25, 3) := by decide +kernel
theorem dX0_pass_17 : decode cX0_pass 17 = .ok (.iload_n 1, 1) := by decide +kernel
theorem dX0_pass_18 : decode cX0_pass 18 = .ok (.iaload, 1) := by decide +kernel
theorem dX0_pass_19 : decode cX0_pass 19 = .ok (.invokevirtual 96, 3) := by decide +kernel
theorem dX0_pass_22 : decode cX0_pass 22 = .ok (.putfield 40, 3) := by decide +kernel
theorem dX0_pass_25 : decode cX0_pass 25 = .ok (.aload_n 0, 1) := by decide +kernel
theorem dX0_pass_26 : decode cX0_pass 26 = .ok (.invokevirtual 99, 3) := by decide +kernel
theorem dX0_pass_29 : decode cX0_pass 29 = .ok (.istore_n 2, 1) := by decide +kernel
theorem dX0_pass_30 : decode cX0_pass 30 = .ok (.iload_n 2, 1) := by decide +kernel
theorem dX0_pass_31 : decode cX0_pass 31 = .ok (.bipush (-4), 2) := by decide +kernel
theorem dX0_pass_33 : decode cX0_pass 33 = .ok (.if_icmp .eq 51, 3) := by decide +kernel
theorem dX0_pass_36 : decode cX0_pass 36 = .ok (.aload_n 0, 1) := by decide +kernel
theorem dX0_pass_37 : decode cX0_pass 37 = .ok (.dup, 1) := by decide +kernel
theorem dX0_pass_38 : decode cX0_pass 38 = .ok (.getfield 43, 3) := by decide +kernel
theorem dX0_pass_41 : decode cX0_pass 41 = .ok (.iconst 1, 1) := by decide +kernel
theorem dX0_pass_42 : decode cX0_pass 42 = .ok (.iload_n 2, 1) := by decide +kernel
theorem dX0_pass_43 : decode cX0_pass 43 = .ok (.ishl, 1) := by decide +kernel
theorem dX0_pass_44 : decode cX0_pass 44 = .ok (.ior, 1) := by decide +kernel
theorem dX0_pass_45 : decode cX0_pass 45 = .ok (.putfield 43, 3) := by decide +kernel
theorem dX0_pass_48 : decode cX0_pass 48 = .ok (.aload_n 0, 1) := by decide +kernel
theorem dX0_pass_49 : decode cX0_pass 49 = .ok (.aload_n 0, 1) := by decide +kernel
theorem dX0_pass_50 : decode cX0_pass 50 = .ok (.iload_n 2, 1) := by decide +kernel
theorem dX0_pass_51 : decode cX0_pass 51 = .ok (.invokevirtual 102, 3) := by decide +kernel
theorem dX0_pass_54 : decode cX0_pass 54 = .ok (.invokevirtual 105, 3) := by decide +kernel
theorem dX0_pass_57 : decode cX0_pass 57 = .ok (.iload_n 2, 1) := by decide +kernel
theorem dX0_pass_58 : decode cX0_pass 58 = .ok (.if_icmp .ne 16, 3) := by decide +kernel
theorem dX0_pass_61 : decode cX0_pass 61 = .ok (.aload_n 0, 1) := by decide +kernel
theorem dX0_pass_62 : decode cX0_pass 62 = .ok (.dup, 1) := by decide +kernel
theorem dX0_pass_63 : decode cX0_pass 63 = .ok (.getfield 49, 3) := by decide +kernel
theorem dX0_pass_66 : decode cX0_pass 66 = .ok (.iconst 1, 1) := by decide +kernel
theorem dX0_pass_67 : decode cX0_pass 67 = .ok (.iadd, 1) := by decide +kernel
theorem dX0_pass_68 : decode cX0_pass 68 = .ok (.putfield 49, 3) := by decide +kernel
theorem dX0_pass_71 : decode cX0_pass 71 = .ok (.goto 13, 3) := by decide +kernel
theorem dX0_pass_74 : decode cX0_pass 74 = .ok (.aload_n 0, 1) := by decide +kernel
theorem dX0_pass_75 : decode cX0_pass 75 = .ok (.dup, 1) := by decide +kernel
theorem dX0_pass_76 : decode cX0_pass 76 = .ok (.getfield 52, 3) := by decide +kernel
theorem dX0_pass_79 : decode cX0_pass 79 = .ok (.iconst 1, 1) := by decide +kernel
theorem dX0_pass_80 : decode cX0_pass 80 = .ok (.iadd, 1) := by decide +kernel
theorem dX0_pass_81 : decode cX0_pass 81 = .ok (.putfield 52, 3) := by decide +kernel
theorem dX0_pass_84 : decode cX0_pass 84 = .ok (.aload_n 0, 1) := by decide +kernel
theorem dX0_pass_85 : decode cX0_pass 85 = .ok (.dup, 1) := by decide +kernel
theorem dX0_pass_86 : decode cX0_pass 86 = .ok (.getfield 46, 3) := by decide +kernel
theorem dX0_pass_89 : decode cX0_pass 89 = .ok (.iconst 1, 1) := by decide +kernel
theorem dX0_pass_90 : decode cX0_pass 90 = .ok (.iadd, 1) := by decide +kernel
theorem dX0_pass_91 : decode cX0_pass 91 = .ok (.putfield 46, 3) := by decide +kernel
theorem dX0_pass_94 : decode cX0_pass 94 = .ok (.iload_n 2, 1) := by decide +kernel
theorem dX0_pass_95 : decode cX0_pass 95 = .ok (.ireturn, 1) := by decide +kernel
theorem dX0_nearerTo_0 : decode cX0_nearerTo 0 = .ok (.aload_n 0, 1) := by decide +kernel
theorem dX0_nearerTo_1 : decode cX0_nearerTo 1 = .ok (.iload_n 1, 1) := by decide +kernel
theorem dX0_nearerTo_2 : decode cX0_nearerTo 2 = .ok (.invokevirtual 61, 3) := by decide +kernel
theorem dX0_nearerTo_5 : decode cX0_nearerTo 5 = .ok (.aload_n 0, 1) := by decide +kernel
theorem dX0_nearerTo_6 : decode cX0_nearerTo 6 = .ok (.aload_n 0, 1) := by decide +kernel
theorem dX0_nearerTo_7 : decode cX0_nearerTo 7 = .ok (.getfield 40, 3) := by decide +kernel
theorem dX0_nearerTo_10 : decode cX0_nearerTo 10 = .ok (.invokevirtual 61, 3) := by decide +kernel
theorem dX0_nearerTo_13 : decode cX0_nearerTo 13 = .ok (.isub, 1) := by decide +kernel
theorem dX0_nearerTo_14 : decode cX0_nearerTo 14 = .ok (.istore_n 2, 1) := by decide +kernel
theorem dX0_nearerTo_15 : decode cX0_nearerTo 15 = .ok (.iload_n 2, 1) := by decide +kernel
theorem dX0_nearerTo_16 : decode cX0_nearerTo 16 = .ok (.ifCond .eq 29, 3) := by decide +kernel
theorem dX0_nearerTo_19 : decode cX0_nearerTo 19 = .ok (.iload_n 2, 1) := by decide +kernel
theorem dX0_nearerTo_20 : decode cX0_nearerTo 20 = .ok (.ifCond .le 15, 3) := by decide +kernel
theorem dX0_nearerTo_23 : decode cX0_nearerTo 23 = .ok (.aload_n 0, 1) := by decide +kernel
theorem dX0_nearerTo_24 : decode cX0_nearerTo 24 = .ok (.getfield 40, 3) := by decide +kernel
theorem dX0_nearerTo_27 : decode cX0_nearerTo 27 = .ok (.aload_n 0, 1) := by decide +kernel
theorem dX0_nearerTo_28 : decode cX0_nearerTo 28 = .ok (.getfield 15, 3) := by decide +kernel
theorem dX0_nearerTo_31 : decode cX0_nearerTo 31 = .ok (.iadd, 1) := by decide +kernel
theorem dX0_nearerTo_32 : decode cX0_nearerTo 32 = .ok (.goto 12, 3) := by decide +kernel
theorem dX0_nearerTo_35 : decode cX0_nearerTo 35 = .ok (.aload_n 0, 1) := by decide +kernel
theorem dX0_nearerTo_36 : decode cX0_nearerTo 36 = .ok (.getfield 40, 3) := by decide +kernel
theorem dX0_nearerTo_39 : decode cX0_nearerTo 39 = .ok (.aload_n 0, 1) := by decide +kernel
theorem dX0_nearerTo_40 : decode cX0_nearerTo 40 = .ok (.getfield 15, 3) := by decide +kernel
theorem dX0_nearerTo_43 : decode cX0_nearerTo 43 = .ok (.isub, 1) := by decide +kernel
theorem dX0_nearerTo_44 : decode cX0_nearerTo 44 = .ok (.ireturn, 1) := by decide +kernel
theorem dX0_nearerTo_45 : decode cX0_nearerTo 45 = .ok (.aload_n 0, 1) := by decide +kernel
theorem dX0_nearerTo_46 : decode cX0_nearerTo 46 = .ok (.getfield 40, 3) := by decide +kernel
theorem dX0_nearerTo_49 : decode cX0_nearerTo 49 = .ok (.iload_n 1, 1) := by decide +kernel
theorem dX0_nearerTo_50 : decode cX0_nearerTo 50 = .ok (.aload_n 0, 1) := by decide +kernel
theorem dX0_nearerTo_51 : decode cX0_nearerTo 51 = .ok (.getfield 40, 3) := by decide +kernel
theorem dX0_nearerTo_54 : decode cX0_nearerTo 54 = .ok (.invokestatic 108, 3) := by decide +kernel
theorem dX0_nearerTo_57 : decode cX0_nearerTo 57 = .ok (.iadd, 1) := by decide +kernel
theorem dX0_nearerTo_58 : decode cX0_nearerTo 58 = .ok (.ireturn, 1) := by decide +kernel
theorem dX0_firstOnHisCell_0 : decode cX0_firstOnHisCell 0 = .ok (.iconst 0, 1) := by decide +kernel
theorem dX0_firstOnHisCell_1 : decode cX0_firstOnHisCell 1 = .ok (.istore_n 1, 1) := by decide +kernel
theorem dX0_firstOnHisCell_2 : decode cX0_firstOnHisCell 2 = .ok (.iload_n 1, 1) := by decide +kernel
theorem dX0_firstOnHisCell_3 : decode cX0_firstOnHisCell 3 = .ok (.aload_n 0, 1) := by decide +kernel
theorem dX0_firstOnHisCell_4 : decode cX0_firstOnHisCell 4 = .ok (.getfield 37, 3) := by decide +kernel
theorem dX0_firstOnHisCell_7 : decode cX0_firstOnHisCell 7 = .ok (.if_icmp .ge 32, 3) := by decide +kernel
theorem dX0_firstOnHisCell_10 : decode cX0_firstOnHisCell 10 = .ok (.aload_n 0, 1) := by decide +kernel
theorem dX0_firstOnHisCell_11 : decode cX0_firstOnHisCell 11 = .ok (.iload_n 1, 1) := by decide +kernel
theorem dX0_firstOnHisCell_12 : decode cX0_firstOnHisCell 12 = .ok (.invokevirtual 80, 3) := by decide +kernel
theorem dX0_firstOnHisCell_15 : decode cX0_firstOnHisCell 15 = .ok (.ifCond .eq 18, 3) := by decide +kernel
theorem dX0_firstOnHisCell_18 : decode cX0_firstOnHisCell 18 = .ok (.aload_n 0, 1) := by decide +kernel
theorem dX0_firstOnHisCell_19 : decode cX0_firstOnHisCell 19 = .ok (.getfield 25, 3) := by decide +kernel
theorem dX0_firstOnHisCell_22 : decode cX0_firstOnHisCell 22 = .ok (.iload_n 1, 1) := by decide +kernel
theorem dX0_firstOnHisCell_23 : decode cX0_firstOnHisCell 23 = .ok (.iaload, 1) := by decide +kernel
theorem dX0_firstOnHisCell_24 : decode cX0_firstOnHisCell 24 = .ok (.aload_n 0, 1) := by decide +kernel
theorem dX0_firstOnHisCell_25 : decode cX0_firstOnHisCell 25 = .ok (.getfield 40, 3) := by decide +kernel
theorem dX0_firstOnHisCell_28 : decode cX0_firstOnHisCell 28 = .ok (.if_icmp .ne 5, 3) := by decide +kernel
theorem dX0_firstOnHisCell_31 : decode cX0_firstOnHisCell 31 = .ok (.iload_n 1, 1) := by decide +kernel
theorem dX0_firstOnHisCell_32 : decode cX0_firstOnHisCell 32 = .ok (.ireturn, 1) := by decide +kernel
theorem dX0_firstOnHisCell_33 : decode cX0_firstOnHisCell 33 = .ok (.iinc 1 1, 3) := by decide +kernel
theorem dX0_firstOnHisCell_36 : decode cX0_firstOnHisCell 36 = .ok (.goto (-34), 3) := by decide +kernel
theorem dX0_firstOnHisCell_39 : decode cX0_firstOnHisCell 39 = .ok (.bipush (-4), 2) := by decide +kernel
theorem dX0_firstOnHisCell_41 : decode cX0_firstOnHisCell 41 = .ok (.ireturn, 1) := by decide +kernel
theorem dX0_passUntilCaught_0 : decode cX0_passUntilCaught 0 = .ok (.bipush (-4), 2) := by decide +kernel
theorem dX0_passUntilCaught_2 : decode cX0_passUntilCaught 2 = .ok (.istore_n 1, 1) := by decide +kernel
theorem dX0_passUntilCaught_3 : decode cX0_passUntilCaught 3 = .ok (.iconst 0, 1) := by decide +kernel
theorem dX0_passUntilCaught_4 : decode cX0_passUntilCaught 4 = .ok (.istore_n 2, 1) := by decide +kernel
theorem dX0_passUntilCaught_5 : decode cX0_passUntilCaught 5 = .ok (.iload_n 2, 1) := by decide +kernel
theorem dX0_passUntilCaught_6 : decode cX0_passUntilCaught 6 = .ok (.bipush 60, 2) := by decide +kernel
theorem dX0_passUntilCaught_8 : decode cX0_passUntilCaught 8 = .ok (.if_icmp .ge 20, 3) := by decide +kernel
theorem dX0_passUntilCaught_11 : decode cX0_passUntilCaught 11 = .ok (.iload_n 1, 1) := by decide +kernel
theorem dX0_passUntilCaught_12 : decode cX0_passUntilCaught 12 = .ok (.bipush (-4), 2) := by decide +kernel
theorem dX0_passUntilCaught_14 : decode cX0_passUntilCaught 14 = .ok (.if_icmp .ne 14, 3) := by decide +kernel
theorem dX0_passUntilCaught_17 : decode cX0_passUntilCaught 17 = .ok (.aload_n 0, 1) := by decide +kernel
theorem dX0_passUntilCaught_18 : decode cX0_passUntilCaught 18 = .ok (.invokevirtual 111, 3) := by decide +kernel
theorem dX0_passUntilCaught_21 : decode cX0_passUntilCaught 21 = .ok (.istore_n 1, 1) := by decide +kernel
theorem dX0_passUntilCaught_22 : decode cX0_passUntilCaught 22 = .ok (.iinc 2 1, 3) := by decide +kernel
theorem dX0_passUntilCaught_25 : decode cX0_passUntilCaught 25 = .ok (.goto (-20), 3) := by decide +kernel
theorem dX0_passUntilCaught_28 : decode cX0_passUntilCaught 28 = .ok (.iload_n 1, 1) := by decide +kernel
theorem dX0_passUntilCaught_29 : decode cX0_passUntilCaught 29 = .ok (.ireturn, 1) := by decide +kernel
theorem dX0_behindHowMany_0 : decode cX0_behindHowMany 0 = .ok (.iconst 1, 1) := by decide +kernel
theorem dX0_behindHowMany_1 : decode cX0_behindHowMany 1 = .ok (.istore_n 3, 1) := by decide +kernel
theorem dX0_behindHowMany_2 : decode cX0_behindHowMany 2 = .ok (.iload_n 3, 1) := by decide +kernel
theorem dX0_behindHowMany_3 : decode cX0_behindHowMany 3 = .ok (.iload_n 2, 1) := by decide +kernel
theorem dX0_behindHowMany_4 : decode cX0_behindHowMany 4 = .ok (.if_icmp .gt 19, 3) := by decide +kernel
theorem dX0_behindHowMany_7 : decode cX0_behindHowMany 7 = .ok (.aload_n 0, 1) := by decide +kernel
theorem dX0_behindHowMany_8 : decode cX0_behindHowMany 8 = .ok (.invokevirtual 111, 3) := by decide +kernel
theorem dX0_behindHowMany_11 : decode cX0_behindHowMany 11 = .ok (.iload_n 1, 1) := by decide +kernel
theorem dX0_behindHowMany_12 : decode cX0_behindHowMany 12 = .ok (.if_icmp .ne 5, 3) := by decide +kernel
theorem dX0_behindHowMany_15 : decode cX0_behindHowMany 15 = .ok (.iload_n 3, 1) := by decide +kernel
theorem dX0_behindHowMany_16 : decode cX0_behindHowMany 16 = .ok (.ireturn, 1) := by decide +kernel
theorem dX0_behindHowMany_17 : decode cX0_behindHowMany 17 = .ok (.iinc 3 1, 3) := by decide +kernel
theorem dX0_behindHowMany_20 : decode cX0_behindHowMany 20 = .ok (.goto (-18), 3) := by decide +kernel
theorem dX0_behindHowMany_23 : decode cX0_behindHowMany 23 = .ok (.iload_n 2, 1) := by decide +kernel
theorem dX0_behindHowMany_24 : decode cX0_behindHowMany 24 = .ok (.iconst 1, 1) := by decide +kernel
theorem dX0_behindHowMany_25 : decode cX0_behindHowMany 25 = .ok (.iadd, 1) := by decide +kernel
theorem dX0_behindHowMany_26 : decode cX0_behindHowMany 26 = .ok (.ireturn, 1) := by decide +kernel
theorem dX0_beside_0 : decode cX0_beside 0 = .ok (.iload_n 2, 1) := by decide +kernel
theorem dX0_beside_1 : decode cX0_beside 1 = .ok (.tableswitch 117 0 3 #[31, 51, 77, 94], 31) := by decide +kernel
theorem dX0_beside_32 : decode cX0_beside 32 = .ok (.aload_n 0, 1) := by decide +kernel
theorem dX0_beside_33 : decode cX0_beside 33 = .ok (.iload_n 1, 1) := by decide +kernel
theorem dX0_beside_34 : decode cX0_beside 34 = .ok (.invokevirtual 61, 3) := by decide +kernel
theorem dX0_beside_37 : decode cX0_beside 37 = .ok (.ifCond .le 12, 3) := by decide +kernel
theorem dX0_beside_40 : decode cX0_beside 40 = .ok (.iload_n 1, 1) := by decide +kernel
theorem dX0_beside_41 : decode cX0_beside 41 = .ok (.aload_n 0, 1) := by decide +kernel
theorem dX0_beside_42 : decode cX0_beside 42 = .ok (.getfield 15, 3) := by decide +kernel
theorem dX0_beside_45 : decode cX0_beside 45 = .ok (.isub, 1) := by decide +kernel
theorem dX0_beside_46 : decode cX0_beside 46 = .ok (.goto 5, 3) := by decide +kernel
theorem dX0_beside_49 : decode cX0_beside 49 = .ok (.bipush (-4), 2) := by decide +kernel
theorem dX0_beside_51 : decode cX0_beside 51 = .ok (.ireturn, 1) := by decide +kernel
theorem dX0_beside_52 : decode cX0_beside 52 = .ok (.aload_n 0, 1) := by decide +kernel
theorem dX0_beside_53 : decode cX0_beside 53 = .ok (.iload_n 1, 1) := by decide +kernel
theorem dX0_beside_54 : decode cX0_beside 54 = .ok (.invokevirtual 61, 3) := by decide +kernel
theorem dX0_beside_57 : decode cX0_beside 57 = .ok (.aload_n 0, 1) := by decide +kernel
theorem dX0_beside_58 : decode cX0_beside 58 = .ok (.getfield 9, 3) := by decide +kernel
theorem dX0_beside_61 : decode cX0_beside 61 = .ok (.iconst 1, 1) := by decide +kernel
theorem dX0_beside_62 : decode cX0_beside 62 = .ok (.isub, 1) := by decide +kernel
theorem dX0_beside_63 : decode cX0_beside 63 = .ok (.if_icmp .ge 12, 3) := by decide +kernel
theorem dX0_beside_66 : decode cX0_beside 66 = .ok (.iload_n 1, 1) := by decide +kernel
theorem dX0_beside_67 : decode cX0_beside 67 = .ok (.aload_n 0, 1) := by decide +kernel
theorem dX0_beside_68 : decode cX0_beside 68 = .ok (.getfield 15, 3) := by decide +kernel
theorem dX0_beside_71 : decode cX0_beside 71 = .ok (.iadd, 1) := by decide +kernel
theorem dX0_beside_72 : decode cX0_beside 72 = .ok (.goto 5, 3) := by decide +kernel
theorem dX0_beside_75 : decode cX0_beside 75 = .ok (.bipush (-4), 2) := by decide +kernel
theorem dX0_beside_77 : decode cX0_beside 77 = .ok (.ireturn, 1) := by decide +kernel
theorem dX0_beside_78 : decode cX0_beside 78 = .ok (.aload_n 0, 1) := by decide +kernel
theorem dX0_beside_79 : decode cX0_beside 79 = .ok (.iload_n 1, 1) := by decide +kernel
theorem dX0_beside_80 : decode cX0_beside 80 = .ok (.invokevirtual 70, 3) := by decide +kernel
theorem dX0_beside_83 : decode cX0_beside 83 = .ok (.ifCond .le 9, 3) := by decide +kernel
theorem dX0_beside_86 : decode cX0_beside 86 = .ok (.iload_n 1, 1) := by decide +kernel
theorem dX0_beside_87 : decode cX0_beside 87 = .ok (.iconst 1, 1) := by decide +kernel
theorem dX0_beside_88 : decode cX0_beside 88 = .ok (.isub, 1) := by decide +kernel
theorem dX0_beside_89 : decode cX0_beside 89 = .ok (.goto 5, 3) := by decide +kernel
theorem dX0_beside_92 : decode cX0_beside 92 = .ok (.bipush (-4), 2) := by decide +kernel
theorem dX0_beside_94 : decode cX0_beside 94 = .ok (.ireturn, 1) := by decide +kernel
theorem dX0_beside_95 : decode cX0_beside 95 = .ok (.aload_n 0, 1) := by decide +kernel
theorem dX0_beside_96 : decode cX0_beside 96 = .ok (.iload_n 1, 1) := by decide +kernel
theorem dX0_beside_97 : decode cX0_beside 97 = .ok (.invokevirtual 70, 3) := by decide +kernel
theorem dX0_beside_100 : decode cX0_beside 100 = .ok (.aload_n 0, 1) := by decide +kernel
theorem dX0_beside_101 : decode cX0_beside 101 = .ok (.getfield 15, 3) := by decide +kernel
theorem dX0_beside_104 : decode cX0_beside 104 = .ok (.iconst 1, 1) := by decide +kernel
theorem dX0_beside_105 : decode cX0_beside 105 = .ok (.isub, 1) := by decide +kernel
theorem dX0_beside_106 : decode cX0_beside 106 = .ok (.if_icmp .ge 9, 3) := by decide +kernel
theorem dX0_beside_109 : decode cX0_beside 109 = .ok (.iload_n 1, 1) := by decide +kernel
theorem dX0_beside_110 : decode cX0_beside 110 = .ok (.iconst 1, 1) := by decide +kernel
theorem dX0_beside_111 : decode cX0_beside 111 = .ok (.iadd, 1) := by decide +kernel
theorem dX0_beside_112 : decode cX0_beside 112 = .ok (.goto 5, 3) := by decide +kernel
theorem dX0_beside_115 : decode cX0_beside 115 = .ok (.bipush (-4), 2) := by decide +kernel
theorem dX0_beside_117 : decode cX0_beside 117 = .ok (.ireturn, 1) := by decide +kernel
theorem dX0_beside_118 : decode cX0_beside 118 = .ok (.bipush (-4), 2) := by decide +kernel
theorem dX0_beside_120 : decode cX0_beside 120 = .ok (.ireturn, 1) := by decide +kernel
theorem dX0_stray_0 : decode cX0_stray 0 = .ok (.aload_n 0, 1) := by decide +kernel
theorem dX0_stray_1 : decode cX0_stray 1 = .ok (.getfield 37, 3) := by decide +kernel
theorem dX0_stray_4 : decode cX0_stray 4 = .ok (.ifCond .gt 4, 3) := by decide +kernel
theorem dX0_stray_7 : decode cX0_stray 7 = .ok (.return_, 1) := by decide +kernel
theorem dX0_stray_8 : decode cX0_stray 8 = .ok (.aload_n 0, 1) := by decide +kernel
theorem dX0_stray_9 : decode cX0_stray 9 = .ok (.aload_n 0, 1) := by decide +kernel
theorem dX0_stray_10 : decode cX0_stray 10 = .ok (.getfield 18, 3) := by decide +kernel
theorem dX0_stray_13 : decode cX0_stray 13 = .ok (.ldc 114, 2) := by decide +kernel
theorem dX0_stray_15 : decode cX0_stray 15 = .ok (.imul, 1) := by decide +kernel
theorem dX0_stray_16 : decode cX0_stray 16 = .ok (.sipush 12345, 3) := by decide +kernel
theorem dX0_stray_19 : decode cX0_stray 19 = .ok (.iadd, 1) := by decide +kernel
theorem dX0_stray_20 : decode cX0_stray 20 = .ok (.ldc 115, 2) := by decide +kernel
theorem dX0_stray_22 : decode cX0_stray 22 = .ok (.iand, 1) := by decide +kernel
theorem dX0_stray_23 : decode cX0_stray 23 = .ok (.putfield 18, 3) := by decide +kernel
theorem dX0_stray_26 : decode cX0_stray 26 = .ok (.aload_n 0, 1) := by decide +kernel
theorem dX0_stray_27 : decode cX0_stray 27 = .ok (.getfield 18, 3) := by decide +kernel
theorem dX0_stray_30 : decode cX0_stray 30 = .ok (.ldc 116, 2) := by decide +kernel
theorem dX0_stray_32 : decode cX0_stray 32 = .ok (.idiv, 1) := by decide +kernel
theorem dX0_stray_33 : decode cX0_stray 33 = .ok (.aload_n 0, 1) := by decide +kernel
theorem dX0_stray_34 : decode cX0_stray 34 = .ok (.getfield 37, 3) := by decide +kernel
theorem dX0_stray_37 : decode cX0_stray 37 = .ok (.irem, 1) := by decide +kernel
theorem dX0_stray_38 : decode cX0_stray 38 = .ok (.istore_n 1, 1) := by decide +kernel
theorem dX0_stray_39 : decode cX0_stray 39 = .ok (.aload_n 0, 1) := by decide +kernel
theorem dX0_stray_40 : decode cX0_stray 40 = .ok (.aload_n 0, 1) := by decide +kernel
theorem dX0_stray_41 : decode cX0_stray 41 = .ok (.getfield 25, 3) := by decide +kernel
theorem dX0_stray_44 : decode cX0_stray 44 = .ok (.iload_n 1, 1) := by decide +kernel
theorem dX0_stray_45 : decode cX0_stray 45 = .ok (.iaload, 1) := by decide +kernel
theorem dX0_stray_46 : decode cX0_stray 46 = .ok (.aload_n 0, 1) := by decide +kernel
theorem dX0_stray_47 : decode cX0_stray 47 = .ok (.getfield 18, 3) := by decide +kernel
theorem dX0_stray_50 : decode cX0_stray 50 = .ok (.sipush 128, 3) := by decide +kernel
theorem dX0_stray_53 : decode cX0_stray 53 = .ok (.idiv, 1) := by decide +kernel
theorem dX0_stray_54 : decode cX0_stray 54 = .ok (.iconst 4, 1) := by decide +kernel
theorem dX0_stray_55 : decode cX0_stray 55 = .ok (.irem, 1) := by decide +kernel
theorem dX0_stray_56 : decode cX0_stray 56 = .ok (.invokevirtual 117, 3) := by decide +kernel
theorem dX0_stray_59 : decode cX0_stray 59 = .ok (.istore_n 2, 1) := by decide +kernel
theorem dX0_stray_60 : decode cX0_stray 60 = .ok (.aload_n 0, 1) := by decide +kernel
theorem dX0_stray_61 : decode cX0_stray 61 = .ok (.iload_n 1, 1) := by decide +kernel
theorem dX0_stray_62 : decode cX0_stray 62 = .ok (.invokevirtual 80, 3) := by decide +kernel
theorem dX0_stray_65 : decode cX0_stray 65 = .ok (.ifCond .eq 16, 3) := by decide +kernel
theorem dX0_stray_68 : decode cX0_stray 68 = .ok (.iload_n 2, 1) := by decide +kernel
theorem dX0_stray_69 : decode cX0_stray 69 = .ok (.bipush (-4), 2) := by decide +kernel
theorem dX0_stray_71 : decode cX0_stray 71 = .ok (.if_icmp .eq 10, 3) := by decide +kernel
theorem dX0_stray_74 : decode cX0_stray 74 = .ok (.aload_n 0, 1) := by decide +kernel
theorem dX0_stray_75 : decode cX0_stray 75 = .ok (.getfield 25, 3) := by decide +kernel
theorem dX0_stray_78 : decode cX0_stray 78 = .ok (.iload_n 1, 1) := by decide +kernel
theorem dX0_stray_79 : decode cX0_stray 79 = .ok (.iload_n 2, 1) := by decide +kernel
theorem dX0_stray_80 : decode cX0_stray 80 = .ok (.iastore, 1) := by decide +kernel
theorem dX0_stray_81 : decode cX0_stray 81 = .ok (.return_, 1) := by decide +kernel
theorem dX1_init_0 : decode cX1_init 0 = .ok (.aload_n 0, 1) := by decide +kernel
theorem dX1_init_1 : decode cX1_init 1 = .ok (.invokespecial 3, 3) := by decide +kernel
theorem dX1_init_4 : decode cX1_init 4 = .ok (.aload_n 0, 1) := by decide +kernel
theorem dX1_init_5 : decode cX1_init 5 = .ok (.bipush 8, 2) := by decide +kernel
theorem dX1_init_7 : decode cX1_init 7 = .ok (.bipush 12, 2) := by decide +kernel
theorem dX1_init_9 : decode cX1_init 9 = .ok (.multianewarray 11 2, 4) := by decide +kernel
theorem dX1_init_13 : decode cX1_init 13 = .ok (.putfield 13, 3) := by decide +kernel
theorem dX1_init_16 : decode cX1_init 16 = .ok (.return_, 1) := by decide +kernel
theorem dX1_forget_0 : decode cX1_forget 0 = .ok (.aload_n 0, 1) := by decide +kernel
theorem dX1_forget_1 : decode cX1_forget 1 = .ok (.iconst 0, 1) := by decide +kernel
theorem dX1_forget_2 : decode cX1_forget 2 = .ok (.putfield 16, 3) := by decide +kernel
theorem dX1_forget_5 : decode cX1_forget 5 = .ok (.return_, 1) := by decide +kernel
theorem dX1_keep_0 : decode cX1_keep 0 = .ok (.aload_n 0, 1) := by decide +kernel
theorem dX1_keep_1 : decode cX1_keep 1 = .ok (.getfield 13, 3) := by decide +kernel
theorem dX1_keep_4 : decode cX1_keep 4 = .ok (.aload_n 0, 1) := by decide +kernel
theorem dX1_keep_5 : decode cX1_keep 5 = .ok (.getfield 20, 3) := by decide +kernel
theorem dX1_keep_8 : decode cX1_keep 8 = .ok (.aaload, 1) := by decide +kernel
theorem dX1_keep_9 : decode cX1_keep 9 = .ok (.astore_n 2, 1) := by decide +kernel
theorem dX1_keep_10 : decode cX1_keep 10 = .ok (.aload_n 1, 1) := by decide +kernel
theorem dX1_keep_11 : decode cX1_keep 11 = .ok (.getfield 23, 3) := by decide +kernel
theorem dX1_keep_14 : decode cX1_keep 14 = .ok (.iconst 0, 1) := by decide +kernel
theorem dX1_keep_15 : decode cX1_keep 15 = .ok (.aload_n 2, 1) := by decide +kernel
theorem dX1_keep_16 : decode cX1_keep 16 = .ok (.iconst 0, 1) := by decide +kernel
theorem dX1_keep_17 : decode cX1_keep 17 = .ok (.bipush 6, 2) := by decide +kernel
theorem dX1_keep_19 : decode cX1_keep 19 = .ok (.invokestatic 29, 3) := by decide +kernel
theorem dX1_keep_22 : decode cX1_keep 22 = .ok (.aload_n 2, 1) := by decide +kernel
theorem dX1_keep_23 : decode cX1_keep 23 = .ok (.bipush 6, 2) := by decide +kernel
theorem dX1_keep_25 : decode cX1_keep 25 = .ok (.aload_n 1, 1) := by decide +kernel
theorem dX1_keep_26 : decode cX1_keep 26 = .ok (.getfield 35, 3) := by decide +kernel
theorem dX1_keep_29 : decode cX1_keep 29 = .ok (.iastore, 1) := by decide +kernel
theorem dX1_keep_30 : decode cX1_keep 30 = .ok (.aload_n 2, 1) := by decide +kernel
theorem dX1_keep_31 : decode cX1_keep 31 = .ok (.bipush 7, 2) := by decide +kernel
theorem dX1_keep_33 : decode cX1_keep 33 = .ok (.aload_n 1, 1) := by decide +kernel
theorem dX1_keep_34 : decode cX1_keep 34 = .ok (.getfield 38, 3) := by decide +kernel
theorem dX1_keep_37 : decode cX1_keep 37 = .ok (.iastore, 1) := by decide +kernel
theorem dX1_keep_38 : decode cX1_keep 38 = .ok (.aload_n 2, 1) := by decide +kernel
theorem dX1_keep_39 : decode cX1_keep 39 = .ok (.bipush 8, 2) := by decide +kernel
theorem dX1_keep_41 : decode cX1_keep 41 = .ok (.aload_n 1, 1) := by decide +kernel
theorem dX1_keep_42 : decode cX1_keep 42 = .ok (.getfield 41, 3) := by decide +kernel
theorem dX1_keep_45 : decode cX1_keep 45 = .ok (.iastore, 1) := by decide +kernel
theorem dX1_keep_46 : decode cX1_keep 46 = .ok (.aload_n 2, 1) := by decide +kernel
theorem dX1_keep_47 : decode cX1_keep 47 = .ok (.bipush 9, 2) := by decide +kernel
theorem dX1_keep_49 : decode cX1_keep 49 = .ok (.aload_n 1, 1) := by decide +kernel
theorem dX1_keep_50 : decode cX1_keep 50 = .ok (.getfield 44, 3) := by decide +kernel
theorem dX1_keep_53 : decode cX1_keep 53 = .ok (.iastore, 1) := by decide +kernel
theorem dX1_keep_54 : decode cX1_keep 54 = .ok (.aload_n 2, 1) := by decide +kernel
theorem dX1_keep_55 : decode cX1_keep 55 = .ok (.bipush 10, 2) := by decide +kernel
theorem dX1_keep_57 : decode cX1_keep 57 = .ok (.aload_n 1, 1) := by decide +kernel
theorem dX1_keep_58 : decode cX1_keep 58 = .ok (.getfield 47, 3) := by decide +kernel
theorem dX1_keep_61 : decode cX1_keep 61 = .ok (.iastore, 1) := by decide +kernel
theorem dX1_keep_62 : decode cX1_keep 62 = .ok (.aload_n 2, 1) := by decide +kernel
theorem dX1_keep_63 : decode cX1_keep 63 = .ok (.bipush 11, 2) := by decide +kernel
theorem dX1_keep_65 : decode cX1_keep 65 = .ok (.aload_n 1, 1) := by decide +kernel
theorem dX1_keep_66 : decode cX1_keep 66 = .ok (.getfield 50, 3) := by decide +kernel
theorem dX1_keep_69 : decode cX1_keep 69 = .ok (.iastore, 1) := by decide +kernel
theorem dX1_keep_70 : decode cX1_keep 70 = .ok (.aload_n 0, 1) := by decide +kernel
theorem dX1_keep_71 : decode cX1_keep 71 = .ok (.aload_n 0, 1) := by decide +kernel
theorem dX1_keep_72 : decode cX1_keep 72 = .ok (.getfield 20, 3) := by decide +kernel
theorem dX1_keep_75 : decode cX1_keep 75 = .ok (.iconst 1, 1) := by decide +kernel
theorem dX1_keep_76 : decode cX1_keep 76 = .ok (.iadd, 1) := by decide +kernel
theorem dX1_keep_77 : decode cX1_keep 77 = .ok (.bipush 8, 2) := by decide +kernel
theorem dX1_keep_79 : decode cX1_keep 79 = .ok (.irem, 1) := by decide +kernel
theorem dX1_keep_80 : decode cX1_keep 80 = .ok (.putfield 20, 3) := by decide +kernel
theorem dX1_keep_83 : decode cX1_keep 83 = .ok (.aload_n 0, 1) := by decide +kernel
theorem dX1_keep_84 : decode cX1_keep 84 = .ok (.aload_n 0, 1) := by decide +kernel
theorem dX1_keep_85 : decode cX1_keep 85 = .ok (.getfield 16, 3) := by decide +kernel
theorem dX1_keep_88 : decode cX1_keep 88 = .ok (.iconst 1, 1) := by decide +kernel
theorem dX1_keep_89 : decode cX1_keep 89 = .ok (.iadd, 1) := by decide +kernel
theorem dX1_keep_90 : decode cX1_keep 90 = .ok (.bipush 8, 2) := by decide +kernel
theorem dX1_keep_92 : decode cX1_keep 92 = .ok (.invokestatic 53, 3) := by decide +kernel
theorem dX1_keep_95 : decode cX1_keep 95 = .ok (.putfield 16, 3) := by decide +kernel
theorem dX1_keep_98 : decode cX1_keep 98 = .ok (.return_, 1) := by decide +kernel
theorem dX1_bringBack_0 : decode cX1_bringBack 0 = .ok (.aload_n 0, 1) := by decide +kernel
theorem dX1_bringBack_1 : decode cX1_bringBack 1 = .ok (.getfield 16, 3) := by decide +kernel
theorem dX1_bringBack_4 : decode cX1_bringBack 4 = .ok (.ifCond .gt 4, 3) := by decide +kernel
theorem dX1_bringBack_7 : decode cX1_bringBack 7 = .ok (.return_, 1) := by decide +kernel
theorem dX1_bringBack_8 : decode cX1_bringBack 8 = .ok (.aload_n 0, 1) := by decide +kernel
theorem dX1_bringBack_9 : decode cX1_bringBack 9 = .ok (.aload_n 0, 1) := by decide +kernel
theorem dX1_bringBack_10 : decode cX1_bringBack 10 = .ok (.getfield 20, 3) := by decide +kernel
theorem dX1_bringBack_13 : decode cX1_bringBack 13 = .ok (.bipush 8, 2) := by decide +kernel
theorem dX1_bringBack_15 : decode cX1_bringBack 15 = .ok (.iadd, 1) := by decide +kernel
theorem dX1_bringBack_16 : decode cX1_bringBack 16 = .ok (.iconst 1, 1) := by decide +kernel
theorem dX1_bringBack_17 : decode cX1_bringBack 17 = .ok (.isub, 1) := by decide +kernel
theorem dX1_bringBack_18 : decode cX1_bringBack 18 = .ok (.bipush 8, 2) := by decide +kernel
theorem dX1_bringBack_20 : decode cX1_bringBack 20 = .ok (.irem, 1) := by decide +kernel
theorem dX1_bringBack_21 : decode cX1_bringBack 21 = .ok (.putfield 20, 3) := by decide +kernel
theorem dX1_bringBack_24 : decode cX1_bringBack 24 = .ok (.aload_n 0, 1) := by decide +kernel
theorem dX1_bringBack_25 : decode cX1_bringBack 25 = .ok (.dup, 1) := by decide +kernel
theorem dX1_bringBack_26 : decode cX1_bringBack 26 = .ok (.getfield 16, 3) := by decide +kernel
theorem dX1_bringBack_29 : decode cX1_bringBack 29 = .ok (.iconst 1, 1) := by decide +kernel
theorem dX1_bringBack_30 : decode cX1_bringBack 30 = .ok (.isub, 1) := by decide +kernel
theorem dX1_bringBack_31 : decode cX1_bringBack 31 = .ok (.putfield 16, 3) := by decide +kernel
theorem dX1_bringBack_34 : decode cX1_bringBack 34 = .ok (.aload_n 0, 1) := by decide +kernel
theorem dX1_bringBack_35 : decode cX1_bringBack 35 = .ok (.getfield 13, 3) := by decide +kernel
theorem dX1_bringBack_38 : decode cX1_bringBack 38 = .ok (.aload_n 0, 1) := by decide +kernel
theorem dX1_bringBack_39 : decode cX1_bringBack 39 = .ok (.getfield 20, 3) := by decide +kernel
theorem dX1_bringBack_42 : decode cX1_bringBack 42 = .ok (.aaload, 1) := by decide +kernel
theorem dX1_bringBack_43 : decode cX1_bringBack 43 = .ok (.astore_n 2, 1) := by decide +kernel
theorem dX1_bringBack_44 : decode cX1_bringBack 44 = .ok (.aload_n 2, 1) := by decide +kernel
theorem dX1_bringBack_45 : decode cX1_bringBack 45 = .ok (.iconst 0, 1) := by decide +kernel
theorem dX1_bringBack_46 : decode cX1_bringBack 46 = .ok (.aload_n 1, 1) := by decide +kernel
theorem dX1_bringBack_47 : decode cX1_bringBack 47 = .ok (.getfield 23, 3) := by decide +kernel
theorem dX1_bringBack_50 : decode cX1_bringBack 50 = .ok (.iconst 0, 1) := by decide +kernel
theorem dX1_bringBack_51 : decode cX1_bringBack 51 = .ok (.bipush 6, 2) := by decide +kernel
theorem dX1_bringBack_53 : decode cX1_bringBack 53 = .ok (.invokestatic 29, 3) := by decide +kernel
theorem dX1_bringBack_56 : decode cX1_bringBack 56 = .ok (.aload_n 1, 1) := by decide +kernel
theorem dX1_bringBack_57 : decode cX1_bringBack 57 = .ok (.aload_n 2, 1) := by decide +kernel
theorem dX1_bringBack_58 : decode cX1_bringBack 58 = .ok (.bipush 6, 2) := by decide +kernel
theorem dX1_bringBack_60 : decode cX1_bringBack 60 = .ok (.iaload, 1) := by decide +kernel
theorem dX1_bringBack_61 : decode cX1_bringBack 61 = .ok (.putfield 35, 3) := by decide +kernel
theorem dX1_bringBack_64 : decode cX1_bringBack 64 = .ok (.aload_n 1, 1) := by decide +kernel
theorem dX1_bringBack_65 : decode cX1_bringBack 65 = .ok (.aload_n 2, 1) := by decide +kernel
theorem dX1_bringBack_66 : decode cX1_bringBack 66 = .ok (.bipush 7, 2) := by decide +kernel
theorem dX1_bringBack_68 : decode cX1_bringBack 68 = .ok (.iaload, 1) := by decide +kernel
theorem dX1_bringBack_69 : decode cX1_bringBack 69 = .ok (.putfield 38, 3) := by decide +kernel
theorem dX1_bringBack_72 : decode cX1_bringBack 72 = .ok (.aload_n 1, 1) := by decide +kernel
theorem dX1_bringBack_73 : decode cX1_bringBack 73 = .ok (.aload_n 2, 1) := by decide +kernel
theorem dX1_bringBack_74 : decode cX1_bringBack 74 = .ok (.bipush 8, 2) := by decide +kernel
theorem dX1_bringBack_76 : decode cX1_bringBack 76 = .ok (.iaload, 1) := by decide +kernel
theorem dX1_bringBack_77 : decode cX1_bringBack 77 = .ok (.putfield 41, 3) := by decide +kernel
theorem dX1_bringBack_80 : decode cX1_bringBack 80 = .ok (.aload_n 1, 1) := by decide +kernel
theorem dX1_bringBack_81 : decode cX1_bringBack 81 = .ok (.aload_n 2, 1) := by decide +kernel
theorem dX1_bringBack_82 : decode cX1_bringBack 82 = .ok (.bipush 9, 2) := by decide +kernel
theorem dX1_bringBack_84 : decode cX1_bringBack 84 = .ok (.iaload, 1) := by decide +kernel
theorem dX1_bringBack_85 : decode cX1_bringBack 85 = .ok (.putfield 44, 3) := by decide +kernel
theorem dX1_bringBack_88 : decode cX1_bringBack 88 = .ok (.aload_n 1, 1) := by decide +kernel
theorem dX1_bringBack_89 : decode cX1_bringBack 89 = .ok (.aload_n 2, 1) := by decide +kernel
theorem dX1_bringBack_90 : decode cX1_bringBack 90 = .ok (.bipush 10, 2) := by decide +kernel
theorem dX1_bringBack_92 : decode cX1_bringBack 92 = .ok (.iaload, 1) := by decide +kernel
theorem dX1_bringBack_93 : decode cX1_bringBack 93 = .ok (.putfield 47, 3) := by decide +kernel
theorem dX1_bringBack_96 : decode cX1_bringBack 96 = .ok (.aload_n 1, 1) := by decide +kernel
theorem dX1_bringBack_97 : decode cX1_bringBack 97 = .ok (.aload_n 2, 1) := by decide +kernel
theorem dX1_bringBack_98 : decode cX1_bringBack 98 = .ok (.bipush 11, 2) := by decide +kernel
theorem dX1_bringBack_100 : decode cX1_bringBack 100 = .ok (.iaload, 1) := by decide +kernel
theorem dX1_bringBack_101 : decode cX1_bringBack 101 = .ok (.putfield 50, 3) := by decide +kernel
theorem dX1_bringBack_104 : decode cX1_bringBack 104 = .ok (.return_, 1) := by decide +kernel
theorem dX1_takePast_0 : decode cX1_takePast 0 = .ok (.aload_n 0, 1) := by decide +kernel
theorem dX1_takePast_1 : decode cX1_takePast 1 = .ok (.aload_n 1, 1) := by decide +kernel
theorem dX1_takePast_2 : decode cX1_takePast 2 = .ok (.getfield 20, 3) := by decide +kernel
theorem dX1_takePast_5 : decode cX1_takePast 5 = .ok (.putfield 20, 3) := by decide +kernel
theorem dX1_takePast_8 : decode cX1_takePast 8 = .ok (.aload_n 0, 1) := by decide +kernel
theorem dX1_takePast_9 : decode cX1_takePast 9 = .ok (.aload_n 1, 1) := by decide +kernel
theorem dX1_takePast_10 : decode cX1_takePast 10 = .ok (.getfield 16, 3) := by decide +kernel
theorem dX1_takePast_13 : decode cX1_takePast 13 = .ok (.putfield 16, 3) := by decide +kernel
theorem dX1_takePast_16 : decode cX1_takePast 16 = .ok (.iconst 0, 1) := by decide +kernel
theorem dX1_takePast_17 : decode cX1_takePast 17 = .ok (.istore_n 2, 1) := by decide +kernel
theorem dX1_takePast_18 : decode cX1_takePast 18 = .ok (.iload_n 2, 1) := by decide +kernel
theorem dX1_takePast_19 : decode cX1_takePast 19 = .ok (.bipush 8, 2) := by decide +kernel
theorem dX1_takePast_21 : decode cX1_takePast 21 = .ok (.if_icmp .ge 28, 3) := by decide +kernel
theorem dX1_takePast_24 : decode cX1_takePast 24 = .ok (.aload_n 1, 1) := by decide +kernel
theorem dX1_takePast_25 : decode cX1_takePast 25 = .ok (.getfield 13, 3) := by decide +kernel
theorem dX1_takePast_28 : decode cX1_takePast 28 = .ok (.iload_n 2, 1) := by decide +kernel
theorem dX1_takePast_29 : decode cX1_takePast 29 = .ok (.aaload, 1) := by decide +kernel
theorem dX1_takePast_30 : decode cX1_takePast 30 = .ok (.iconst 0, 1) := by decide +kernel
theorem dX1_takePast_31 : decode cX1_takePast 31 = .ok (.aload_n 0, 1) := by decide +kernel
theorem dX1_takePast_32 : decode cX1_takePast 32 = .ok (.getfield 13, 3) := by decide +kernel
theorem dX1_takePast_35 : decode cX1_takePast 35 = .ok (.iload_n 2, 1) := by decide +kernel
theorem dX1_takePast_36 : decode cX1_takePast 36 = .ok (.aaload, 1) := by decide +kernel
theorem dX1_takePast_37 : decode cX1_takePast 37 = .ok (.iconst 0, 1) := by decide +kernel
theorem dX1_takePast_38 : decode cX1_takePast 38 = .ok (.bipush 12, 2) := by decide +kernel
theorem dX1_takePast_40 : decode cX1_takePast 40 = .ok (.invokestatic 29, 3) := by decide +kernel
theorem dX1_takePast_43 : decode cX1_takePast 43 = .ok (.iinc 2 1, 3) := by decide +kernel
theorem dX1_takePast_46 : decode cX1_takePast 46 = .ok (.goto (-28), 3) := by decide +kernel
theorem dX1_takePast_49 : decode cX1_takePast 49 = .ok (.return_, 1) := by decide +kernel
theorem dX2_init_0 : decode cX2_init 0 = .ok (.aload_n 0, 1) := by decide +kernel
theorem dX2_init_1 : decode cX2_init 1 = .ok (.invokespecial 3, 3) := by decide +kernel
theorem dX2_init_4 : decode cX2_init 4 = .ok (.aload_n 0, 1) := by decide +kernel
theorem dX2_init_5 : decode cX2_init 5 = .ok (.iconst (-1), 1) := by decide +kernel
theorem dX2_init_6 : decode cX2_init 6 = .ok (.putfield 11, 3) := by decide +kernel
theorem dX2_init_9 : decode cX2_init 9 = .ok (.aload_n 0, 1) := by decide +kernel
theorem dX2_init_10 : decode cX2_init 10 = .ok (.bipush 24, 2) := by decide +kernel
theorem dX2_init_12 : decode cX2_init 12 = .ok (.newarray .long, 2) := by decide +kernel
theorem dX2_init_14 : decode cX2_init 14 = .ok (.putfield 15, 3) := by decide +kernel
theorem dX2_init_17 : decode cX2_init 17 = .ok (.return_, 1) := by decide +kernel
theorem dX2_isMissing_0 : decode cX2_isMissing 0 = .ok (.aload_n 0, 1) := by decide +kernel
theorem dX2_isMissing_1 : decode cX2_isMissing 1 = .ok (.getfield 11, 3) := by decide +kernel
theorem dX2_isMissing_4 : decode cX2_isMissing 4 = .ok (.iconst (-1), 1) := by decide +kernel
theorem dX2_isMissing_5 : decode cX2_isMissing 5 = .ok (.if_icmp .ne 7, 3) := by decide +kernel
theorem dX2_isMissing_8 : decode cX2_isMissing 8 = .ok (.iconst 1, 1) := by decide +kernel
theorem dX2_isMissing_9 : decode cX2_isMissing 9 = .ok (.goto 4, 3) := by decide +kernel
theorem dX2_isMissing_12 : decode cX2_isMissing 12 = .ok (.iconst 0, 1) := by decide +kernel
theorem dX2_isMissing_13 : decode cX2_isMissing 13 = .ok (.ireturn, 1) := by decide +kernel
theorem dX2_renew_0 : decode cX2_renew 0 = .ok (.aload_n 0, 1) := by decide +kernel
theorem dX2_renew_1 : decode cX2_renew 1 = .ok (.iload_n 1, 1) := by decide +kernel
theorem dX2_renew_2 : decode cX2_renew 2 = .ok (.putfield 11, 3) := by decide +kernel
theorem dX2_renew_5 : decode cX2_renew 5 = .ok (.aload_n 0, 1) := by decide +kernel
theorem dX2_renew_6 : decode cX2_renew 6 = .ok (.iload_n 2, 1) := by decide +kernel
theorem dX2_renew_7 : decode cX2_renew 7 = .ok (.putfield 19, 3) := by decide +kernel
theorem dX2_renew_10 : decode cX2_renew 10 = .ok (.iconst 0, 1) := by decide +kernel
theorem dX2_renew_11 : decode cX2_renew 11 = .ok (.istore_n 3, 1) := by decide +kernel
theorem dX2_renew_12 : decode cX2_renew 12 = .ok (.iload_n 3, 1) := by decide +kernel
theorem dX2_renew_13 : decode cX2_renew 13 = .ok (.bipush 24, 2) := by decide +kernel
theorem dX2_renew_15 : decode cX2_renew 15 = .ok (.if_icmp .ge 16, 3) := by decide +kernel
theorem dX2_renew_18 : decode cX2_renew 18 = .ok (.aload_n 0, 1) := by decide +kernel
theorem dX2_renew_19 : decode cX2_renew 19 = .ok (.getfield 15, 3) := by decide +kernel
theorem dX2_renew_22 : decode cX2_renew 22 = .ok (.iload_n 3, 1) := by decide +kernel
theorem dX2_renew_23 : decode cX2_renew 23 = .ok (.lconst 0, 1) := by decide +kernel
theorem dX2_renew_24 : decode cX2_renew 24 = .ok (.lastore, 1) := by decide +kernel
theorem dX2_renew_25 : decode cX2_renew 25 = .ok (.iinc 3 1, 3) := by decide +kernel
theorem dX2_renew_28 : decode cX2_renew 28 = .ok (.goto (-16), 3) := by decide +kernel
theorem dX2_renew_31 : decode cX2_renew 31 = .ok (.return_, 1) := by decide +kernel
theorem dX2_lose_0 : decode cX2_lose 0 = .ok (.aload_n 0, 1) := by decide +kernel
theorem dX2_lose_1 : decode cX2_lose 1 = .ok (.iconst (-1), 1) := by decide +kernel
theorem dX2_lose_2 : decode cX2_lose 2 = .ok (.putfield 11, 3) := by decide +kernel
theorem dX2_lose_5 : decode cX2_lose 5 = .ok (.aload_n 0, 1) := by decide +kernel
theorem dX2_lose_6 : decode cX2_lose 6 = .ok (.iconst 0, 1) := by decide +kernel
theorem dX2_lose_7 : decode cX2_lose 7 = .ok (.putfield 19, 3) := by decide +kernel
theorem dX2_lose_10 : decode cX2_lose 10 = .ok (.return_, 1) := by decide +kernel
theorem dX2_faultOf_0 : decode cX2_faultOf 0 = .ok (.aload_n 0, 1) := by decide +kernel
theorem dX2_faultOf_1 : decode cX2_faultOf 1 = .ok (.invokevirtual 22, 3) := by decide +kernel
theorem dX2_faultOf_4 : decode cX2_faultOf 4 = .ok (.ifCond .eq 6, 3) := by decide +kernel
theorem dX2_faultOf_7 : decode cX2_faultOf 7 = .ok (.bipush (-11), 2) := by decide +kernel
theorem dX2_faultOf_9 : decode cX2_faultOf 9 = .ok (.ireturn, 1) := by decide +kernel
theorem dX2_faultOf_10 : decode cX2_faultOf 10 = .ok (.aload_n 0, 1) := by decide +kernel
theorem dX2_faultOf_11 : decode cX2_faultOf 11 = .ok (.getfield 11, 3) := by decide +kernel
theorem dX2_faultOf_14 : decode cX2_faultOf 14 = .ok (.iload_n 1, 1) := by decide +kernel
theorem dX2_faultOf_15 : decode cX2_faultOf 15 = .ok (.if_icmp .eq 6, 3) := by decide +kernel
theorem dX2_faultOf_18 : decode cX2_faultOf 18 = .ok (.bipush (-12), 2) := by decide +kernel
theorem dX2_faultOf_20 : decode cX2_faultOf 20 = .ok (.ireturn, 1) := by decide +kernel
theorem dX2_faultOf_21 : decode cX2_faultOf 21 = .ok (.aload_n 0, 1) := by decide +kernel
theorem dX2_faultOf_22 : decode cX2_faultOf 22 = .ok (.iload_n 2, 1) := by decide +kernel
theorem dX2_faultOf_23 : decode cX2_faultOf 23 = .ok (.iload_n 3, 1) := by decide +kernel
theorem dX2_faultOf_24 : decode cX2_faultOf 24 = .ok (.invokevirtual 26, 3) := by decide +kernel
theorem dX2_faultOf_27 : decode cX2_faultOf 27 = .ok (.ifCond .eq 7, 3) := by decide +kernel
theorem dX2_faultOf_30 : decode cX2_faultOf 30 = .ok (.iconst 0, 1) := by decide +kernel
theorem dX2_faultOf_31 : decode cX2_faultOf 31 = .ok (.goto 5, 3) := by decide +kernel
theorem dX2_faultOf_34 : decode cX2_faultOf 34 = .ok (.bipush (-13), 2) := by decide +kernel
theorem dX2_faultOf_36 : decode cX2_faultOf 36 = .ok (.ireturn, 1) := by decide +kernel
theorem dX2_reaches_0 : decode cX2_reaches 0 = .ok (.iload_n 1, 1) := by decide +kernel
theorem dX2_reaches_1 : decode cX2_reaches 1 = .ok (.ifCond .lt 29, 3) := by decide +kernel
theorem dX2_reaches_4 : decode cX2_reaches 4 = .ok (.iload_n 2, 1) := by decide +kernel
theorem dX2_reaches_5 : decode cX2_reaches 5 = .ok (.ifCond .lt 25, 3) := by decide +kernel
theorem dX2_reaches_8 : decode cX2_reaches 8 = .ok (.iload_n 2, 1) := by decide +kernel
theorem dX2_reaches_9 : decode cX2_reaches 9 = .ok (.aload_n 0, 1) := by decide +kernel
theorem dX2_reaches_10 : decode cX2_reaches 10 = .ok (.getfield 19, 3) := by decide +kernel
theorem dX2_reaches_13 : decode cX2_reaches 13 = .ok (.if_icmp .gt 17, 3) := by decide +kernel
theorem dX2_reaches_16 : decode cX2_reaches 16 = .ok (.iload_n 1, 1) := by decide +kernel
theorem dX2_reaches_17 : decode cX2_reaches 17 = .ok (.aload_n 0, 1) := by decide +kernel
theorem dX2_reaches_18 : decode cX2_reaches 18 = .ok (.getfield 19, 3) := by decide +kernel
theorem dX2_reaches_21 : decode cX2_reaches 21 = .ok (.iload_n 2, 1) := by decide +kernel
theorem dX2_reaches_22 : decode cX2_reaches 22 = .ok (.isub, 1) := by decide +kernel
theorem dX2_reaches_23 : decode cX2_reaches 23 = .ok (.if_icmp .gt 7, 3) := by decide +kernel
theorem dX2_reaches_26 : decode cX2_reaches 26 = .ok (.iconst 1, 1) := by decide +kernel
theorem dX2_reaches_27 : decode cX2_reaches 27 = .ok (.goto 4, 3) := by decide +kernel
theorem dX2_reaches_30 : decode cX2_reaches 30 = .ok (.iconst 0, 1) := by decide +kernel
theorem dX2_reaches_31 : decode cX2_reaches 31 = .ok (.ireturn, 1) := by decide +kernel
theorem dX2_put_0 : decode cX2_put 0 = .ok (.aload_n 0, 1) := by decide +kernel
theorem dX2_put_1 : decode cX2_put 1 = .ok (.iload_n 1, 1) := by decide +kernel
theorem dX2_put_2 : decode cX2_put 2 = .ok (.iconst 1, 1) := by decide +kernel
theorem dX2_put_3 : decode cX2_put 3 = .ok (.invokevirtual 26, 3) := by decide +kernel
theorem dX2_put_6 : decode cX2_put 6 = .ok (.ifCond .ne 4, 3) := by decide +kernel
theorem dX2_put_9 : decode cX2_put 9 = .ok (.return_, 1) := by decide +kernel
theorem dX2_put_10 : decode cX2_put 10 = .ok (.aload_n 0, 1) := by decide +kernel
theorem dX2_put_11 : decode cX2_put 11 = .ok (.getfield 11, 3) := by decide +kernel
theorem dX2_put_14 : decode cX2_put 14 = .ok (.tableswitch 64 0 2 #[26, 39, 52], 26) := by decide +kernel
theorem dX2_put_40 : decode cX2_put 40 = .ok (.aload_n 0, 1) := by decide +kernel
theorem dX2_put_41 : decode cX2_put 41 = .ok (.getfield 15, 3) := by decide +kernel
theorem dX2_put_44 : decode cX2_put 44 = .ok (.iload_n 1, 1) := by decide +kernel
theorem dX2_put_45 : decode cX2_put 45 = .ok (.lload_n 2, 1) := by decide +kernel
theorem dX2_put_46 : decode cX2_put 46 = .ok (.l2i, 1) := by decide +kernel
theorem dX2_put_47 : decode cX2_put 47 = .ok (.i2b, 1) := by decide +kernel
theorem dX2_put_48 : decode cX2_put 48 = .ok (.i2l, 1) := by decide +kernel
theorem dX2_put_49 : decode cX2_put 49 = .ok (.lastore, 1) := by decide +kernel
theorem dX2_put_50 : decode cX2_put 50 = .ok (.goto 35, 3) := by decide +kernel
theorem dX2_put_53 : decode cX2_put 53 = .ok (.aload_n 0, 1) := by decide +kernel
theorem dX2_put_54 : decode cX2_put 54 = .ok (.getfield 15, 3) := by decide +kernel
theorem dX2_put_57 : decode cX2_put 57 = .ok (.iload_n 1, 1) := by decide +kernel
theorem dX2_put_58 : decode cX2_put 58 = .ok (.lload_n 2, 1) := by decide +kernel
theorem dX2_put_59 : decode cX2_put 59 = .ok (.l2i, 1) := by decide +kernel
theorem dX2_put_60 : decode cX2_put 60 = .ok (.i2s, 1) := by decide +kernel
theorem dX2_put_61 : decode cX2_put 61 = .ok (.i2l, 1) := by decide +kernel
theorem dX2_put_62 : decode cX2_put 62 = .ok (.lastore, 1) := by decide +kernel
theorem dX2_put_63 : decode cX2_put 63 = .ok (.goto 22, 3) := by decide +kernel
theorem dX2_put_66 : decode cX2_put 66 = .ok (.aload_n 0, 1) := by decide +kernel
theorem dX2_put_67 : decode cX2_put 67 = .ok (.getfield 15, 3) := by decide +kernel
theorem dX2_put_70 : decode cX2_put 70 = .ok (.iload_n 1, 1) := by decide +kernel
theorem dX2_put_71 : decode cX2_put 71 = .ok (.lload_n 2, 1) := by decide +kernel
theorem dX2_put_72 : decode cX2_put 72 = .ok (.l2i, 1) := by decide +kernel
theorem dX2_put_73 : decode cX2_put 73 = .ok (.i2l, 1) := by decide +kernel
theorem dX2_put_74 : decode cX2_put 74 = .ok (.lastore, 1) := by decide +kernel
theorem dX2_put_75 : decode cX2_put 75 = .ok (.goto 10, 3) := by decide +kernel
theorem dX2_put_78 : decode cX2_put 78 = .ok (.aload_n 0, 1) := by decide +kernel
theorem dX2_put_79 : decode cX2_put 79 = .ok (.getfield 15, 3) := by decide +kernel
theorem dX2_put_82 : decode cX2_put 82 = .ok (.iload_n 1, 1) := by decide +kernel
theorem dX2_put_83 : decode cX2_put 83 = .ok (.lload_n 2, 1) := by decide +kernel
theorem dX2_put_84 : decode cX2_put 84 = .ok (.lastore, 1) := by decide +kernel
theorem dX2_put_85 : decode cX2_put 85 = .ok (.return_, 1) := by decide +kernel
theorem dX2_tellsOf_0 : decode cX2_tellsOf 0 = .ok (.aload_n 0, 1) := by decide +kernel
theorem dX2_tellsOf_1 : decode cX2_tellsOf 1 = .ok (.iload_n 2, 1) := by decide +kernel
theorem dX2_tellsOf_2 : decode cX2_tellsOf 2 = .ok (.iload_n 3, 1) := by decide +kernel
theorem dX2_tellsOf_3 : decode cX2_tellsOf 3 = .ok (.invokevirtual 26, 3) := by decide +kernel
theorem dX2_tellsOf_6 : decode cX2_tellsOf 6 = .ok (.ifCond .ne 5, 3) := by decide +kernel
theorem dX2_tellsOf_9 : decode cX2_tellsOf 9 = .ok (.iconst 0, 1) := by decide +kernel
theorem dX2_tellsOf_10 : decode cX2_tellsOf 10 = .ok (.ireturn, 1) := by decide +kernel
theorem dX2_tellsOf_11 : decode cX2_tellsOf 11 = .ok (.iconst 0, 1) := by decide +kernel
theorem dX2_tellsOf_12 : decode cX2_tellsOf 12 = .ok (.istore 4, 2) := by decide +kernel
theorem dX2_tellsOf_14 : decode cX2_tellsOf 14 = .ok (.iload 4, 2) := by decide +kernel
theorem dX2_tellsOf_16 : decode cX2_tellsOf 16 = .ok (.iload_n 3, 1) := by decide +kernel
theorem dX2_tellsOf_17 : decode cX2_tellsOf 17 = .ok (.if_icmp .ge 34, 3) := by decide +kernel
theorem dX2_tellsOf_20 : decode cX2_tellsOf 20 = .ok (.aload_n 1, 1) := by decide +kernel
theorem dX2_tellsOf_21 : decode cX2_tellsOf 21 = .ok (.invokevirtual 30, 3) := by decide +kernel
theorem dX2_tellsOf_24 : decode cX2_tellsOf 24 = .ok (.pop, 1) := by decide +kernel
theorem dX2_tellsOf_25 : decode cX2_tellsOf 25 = .ok (.aload_n 0, 1) := by decide +kernel
theorem dX2_tellsOf_26 : decode cX2_tellsOf 26 = .ok (.getfield 15, 3) := by decide +kernel
theorem dX2_tellsOf_29 : decode cX2_tellsOf 29 = .ok (.iload_n 2, 1) := by decide +kernel
theorem dX2_tellsOf_30 : decode cX2_tellsOf 30 = .ok (.iload 4, 2) := by decide +kernel
theorem dX2_tellsOf_32 : decode cX2_tellsOf 32 = .ok (.iadd, 1) := by decide +kernel
theorem dX2_tellsOf_33 : decode cX2_tellsOf 33 = .ok (.laload, 1) := by decide +kernel
theorem dX2_tellsOf_34 : decode cX2_tellsOf 34 = .ok (.aload_n 1, 1) := by decide +kernel
theorem dX2_tellsOf_35 : decode cX2_tellsOf 35 = .ok (.getfield 36, 3) := by decide +kernel
theorem dX2_tellsOf_38 : decode cX2_tellsOf 38 = .ok (.i2l, 1) := by decide +kernel
theorem dX2_tellsOf_39 : decode cX2_tellsOf 39 = .ok (.lcmp, 1) := by decide +kernel
theorem dX2_tellsOf_40 : decode cX2_tellsOf 40 = .ok (.ifCond .eq 5, 3) := by decide +kernel
theorem dX2_tellsOf_43 : decode cX2_tellsOf 43 = .ok (.iconst 0, 1) := by decide +kernel
theorem dX2_tellsOf_44 : decode cX2_tellsOf 44 = .ok (.ireturn, 1) := by decide +kernel
theorem dX2_tellsOf_45 : decode cX2_tellsOf 45 = .ok (.iinc 4 1, 3) := by decide +kernel
theorem dX2_tellsOf_48 : decode cX2_tellsOf 48 = .ok (.goto (-34), 3) := by decide +kernel
theorem dX2_tellsOf_51 : decode cX2_tellsOf 51 = .ok (.iconst 1, 1) := by decide +kernel
theorem dX2_tellsOf_52 : decode cX2_tellsOf 52 = .ok (.ireturn, 1) := by decide +kernel
theorem dX3_init_0 : decode cX3_init 0 = .ok (.aload_n 0, 1) := by decide +kernel
theorem dX3_init_1 : decode cX3_init 1 = .ok (.invokespecial 3, 3) := by decide +kernel
theorem dX3_init_4 : decode cX3_init 4 = .ok (.aload_n 0, 1) := by decide +kernel
theorem dX3_init_5 : decode cX3_init 5 = .ok (.bipush 90, 2) := by decide +kernel
theorem dX3_init_7 : decode cX3_init 7 = .ok (.newarray .char, 2) := by decide +kernel
theorem dX3_init_9 : decode cX3_init 9 = .ok (.putfield 9, 3) := by decide +kernel
theorem dX3_init_12 : decode cX3_init 12 = .ok (.return_, 1) := by decide +kernel
theorem dX3_add_0 : decode cX3_add 0 = .ok (.aload_n 0, 1) := by decide +kernel
theorem dX3_add_1 : decode cX3_add 1 = .ok (.getfield 15, 3) := by decide +kernel
theorem dX3_add_4 : decode cX3_add 4 = .ok (.ifCond .lt 33, 3) := by decide +kernel
theorem dX3_add_7 : decode cX3_add 7 = .ok (.aload_n 0, 1) := by decide +kernel
theorem dX3_add_8 : decode cX3_add 8 = .ok (.getfield 15, 3) := by decide +kernel
theorem dX3_add_11 : decode cX3_add 11 = .ok (.bipush 90, 2) := by decide +kernel
theorem dX3_add_13 : decode cX3_add 13 = .ok (.if_icmp .ge 24, 3) := by decide +kernel
theorem dX3_add_16 : decode cX3_add 16 = .ok (.aload_n 0, 1) := by decide +kernel
theorem dX3_add_17 : decode cX3_add 17 = .ok (.getfield 9, 3) := by decide +kernel
theorem dX3_add_20 : decode cX3_add 20 = .ok (.aload_n 0, 1) := by decide +kernel
theorem dX3_add_21 : decode cX3_add 21 = .ok (.getfield 15, 3) := by decide +kernel
theorem dX3_add_24 : decode cX3_add 24 = .ok (.iload_n 1, 1) := by decide +kernel
theorem dX3_add_25 : decode cX3_add 25 = .ok (.i2c, 1) := by decide +kernel
theorem dX3_add_26 : decode cX3_add 26 = .ok (.castore, 1) := by decide +kernel
theorem dX3_add_27 : decode cX3_add 27 = .ok (.aload_n 0, 1) := by decide +kernel
theorem dX3_add_28 : decode cX3_add 28 = .ok (.dup, 1) := by decide +kernel
theorem dX3_add_29 : decode cX3_add 29 = .ok (.getfield 15, 3) := by decide +kernel
theorem dX3_add_32 : decode cX3_add 32 = .ok (.iconst 1, 1) := by decide +kernel
theorem dX3_add_33 : decode cX3_add 33 = .ok (.iadd, 1) := by decide +kernel
theorem dX3_add_34 : decode cX3_add 34 = .ok (.putfield 15, 3) := by decide +kernel
theorem dX3_add_37 : decode cX3_add 37 = .ok (.aload_n 0, 1) := by decide +kernel
theorem dX3_add_38 : decode cX3_add 38 = .ok (.getfield 15, 3) := by decide +kernel
theorem dX3_add_41 : decode cX3_add 41 = .ok (.ireturn, 1) := by decide +kernel
theorem dX3_readInto_0 : decode cX3_readInto 0 = .ok (.aload_n 0, 1) := by decide +kernel
theorem dX3_readInto_1 : decode cX3_readInto 1 = .ok (.iconst 0, 1) := by decide +kernel
theorem dX3_readInto_2 : decode cX3_readInto 2 = .ok (.putfield 19, 3) := by decide +kernel
theorem dX3_readInto_5 : decode cX3_readInto 5 = .ok (.aload_n 0, 1) := by decide +kernel
theorem dX3_readInto_6 : decode cX3_readInto 6 = .ok (.aload_n 1, 1) := by decide +kernel
theorem dX3_readInto_7 : decode cX3_readInto 7 = .ok (.invokevirtual 22, 3) := by decide +kernel
theorem dX3_readInto_10 : decode cX3_readInto 10 = .ok (.ifCond .eq 12, 3) := by decide +kernel
theorem dX3_readInto_13 : decode cX3_readInto 13 = .ok (.aload_n 0, 1) := by decide +kernel
theorem dX3_readInto_14 : decode cX3_readInto 14 = .ok (.bipush 59, 2) := by decide +kernel
theorem dX3_readInto_16 : decode cX3_readInto 16 = .ok (.invokevirtual 26, 3) := by decide +kernel
theorem dX3_readInto_19 : decode cX3_readInto 19 = .ok (.ifCond .ne 5, 3) := by decide +kernel
theorem dX3_readInto_22 : decode cX3_readInto 22 = .ok (.iconst 0, 1) := by decide +kernel
theorem dX3_readInto_23 : decode cX3_readInto 23 = .ok (.ireturn, 1) := by decide +kernel
theorem dX3_readInto_24 : decode cX3_readInto 24 = .ok (.iconst 1, 1) := by decide +kernel
theorem dX3_readInto_25 : decode cX3_readInto 25 = .ok (.istore_n 2, 1) := by decide +kernel
theorem dX3_readInto_26 : decode cX3_readInto 26 = .ok (.iload_n 2, 1) := by decide +kernel
theorem dX3_readInto_27 : decode cX3_readInto 27 = .ok (.bipush 6, 2) := by decide +kernel
theorem dX3_readInto_29 : decode cX3_readInto 29 = .ok (.if_icmp .gt 45, 3) := by decide +kernel
theorem dX3_readInto_32 : decode cX3_readInto 32 = .ok (.aload_n 0, 1) := by decide +kernel
theorem dX3_readInto_33 : decode cX3_readInto 33 = .ok (.aload_n 1, 1) := by decide +kernel
theorem dX3_readInto_34 : decode cX3_readInto 34 = .ok (.invokevirtual 30, 3) := by decide +kernel
theorem dX3_readInto_37 : decode cX3_readInto 37 = .ok (.ifCond .ne 5, 3) := by decide +kernel
theorem dX3_readInto_40 : decode cX3_readInto 40 = .ok (.iconst 0, 1) := by decide +kernel
theorem dX3_readInto_41 : decode cX3_readInto 41 = .ok (.ireturn, 1) := by decide +kernel
theorem dX3_readInto_42 : decode cX3_readInto 42 = .ok (.aload_n 0, 1) := by decide +kernel
theorem dX3_readInto_43 : decode cX3_readInto 43 = .ok (.invokevirtual 33, 3) := by decide +kernel
theorem dX3_readInto_46 : decode cX3_readInto 46 = .ok (.ifCond .ne 5, 3) := by decide +kernel
theorem dX3_readInto_49 : decode cX3_readInto 49 = .ok (.iconst 1, 1) := by decide +kernel
theorem dX3_readInto_50 : decode cX3_readInto 50 = .ok (.ireturn, 1) := by decide +kernel
theorem dX3_readInto_51 : decode cX3_readInto 51 = .ok (.iload_n 2, 1) := by decide +kernel
theorem dX3_readInto_52 : decode cX3_readInto 52 = .ok (.bipush 6, 2) := by decide +kernel
theorem dX3_readInto_54 : decode cX3_readInto 54 = .ok (.if_icmp .eq 12, 3) := by decide +kernel
theorem dX3_readInto_57 : decode cX3_readInto 57 = .ok (.aload_n 0, 1) := by decide +kernel
theorem dX3_readInto_58 : decode cX3_readInto 58 = .ok (.bipush 44, 2) := by decide +kernel
theorem dX3_readInto_60 : decode cX3_readInto 60 = .ok (.invokevirtual 26, 3) := by decide +kernel
theorem dX3_readInto_63 : decode cX3_readInto 63 = .ok (.ifCond .ne 5, 3) := by decide +kernel
theorem dX3_readInto_66 : decode cX3_readInto 66 = .ok (.iconst 0, 1) := by decide +kernel
theorem dX3_readInto_67 : decode cX3_readInto 67 = .ok (.ireturn, 1) := by decide +kernel
theorem dX3_readInto_68 : decode cX3_readInto 68 = .ok (.iinc 2 1, 3) := by decide +kernel
theorem dX3_readInto_71 : decode cX3_readInto 71 = .ok (.goto (-45), 3) := by decide +kernel
theorem dX3_readInto_74 : decode cX3_readInto 74 = .ok (.iconst 0, 1) := by decide +kernel
theorem dX3_readInto_75 : decode cX3_readInto 75 = .ok (.ireturn, 1) := by decide +kernel
theorem dX3_readStreets_0 : decode cX3_readStreets 0 = .ok (.aload_n 0, 1) := by decide +kernel
theorem dX3_readStreets_1 : decode cX3_readStreets 1 = .ok (.iconst 2, 1) := by decide +kernel
theorem dX3_readStreets_2 : decode cX3_readStreets 2 = .ok (.bipush 6, 2) := by decide +kernel
theorem dX3_readStreets_4 : decode cX3_readStreets 4 = .ok (.invokevirtual 37, 3) := by decide +kernel
theorem dX3_readStreets_7 : decode cX3_readStreets 7 = .ok (.istore_n 2, 1) := by decide +kernel
theorem dX3_readStreets_8 : decode cX3_readStreets 8 = .ok (.iload_n 2, 1) := by decide +kernel
theorem dX3_readStreets_9 : decode cX3_readStreets 9 = .ok (.bipush (-4), 2) := by decide +kernel
theorem dX3_readStreets_11 : decode cX3_readStreets 11 = .ok (.if_icmp .eq 12, 3) := by decide +kernel
theorem dX3_readStreets_14 : decode cX3_readStreets 14 = .ok (.aload_n 0, 1) := by decide +kernel
theorem dX3_readStreets_15 : decode cX3_readStreets 15 = .ok (.bipush 120, 2) := by decide +kernel
theorem dX3_readStreets_17 : decode cX3_readStreets 17 = .ok (.invokevirtual 26, 3) := by decide +kernel
theorem dX3_readStreets_20 : decode cX3_readStreets 20 = .ok (.ifCond .ne 5, 3) := by decide +kernel
theorem dX3_readStreets_23 : decode cX3_readStreets 23 = .ok (.iconst 0, 1) := by decide +kernel
theorem dX3_readStreets_24 : decode cX3_readStreets 24 = .ok (.ireturn, 1) := by decide +kernel
theorem dX3_readStreets_25 : decode cX3_readStreets 25 = .ok (.aload_n 0, 1) := by decide +kernel
theorem dX3_readStreets_26 : decode cX3_readStreets 26 = .ok (.iconst 2, 1) := by decide +kernel
theorem dX3_readStreets_27 : decode cX3_readStreets 27 = .ok (.bipush 6, 2) := by decide +kernel
theorem dX3_readStreets_29 : decode cX3_readStreets 29 = .ok (.invokevirtual 37, 3) := by decide +kernel
theorem dX3_readStreets_32 : decode cX3_readStreets 32 = .ok (.istore_n 3, 1) := by decide +kernel
theorem dX3_readStreets_33 : decode cX3_readStreets 33 = .ok (.iload_n 3, 1) := by decide +kernel
theorem dX3_readStreets_34 : decode cX3_readStreets 34 = .ok (.bipush (-4), 2) := by decide +kernel
theorem dX3_readStreets_36 : decode cX3_readStreets 36 = .ok (.if_icmp .eq 12, 3) := by decide +kernel
theorem dX3_readStreets_39 : decode cX3_readStreets 39 = .ok (.aload_n 0, 1) := by decide +kernel
theorem dX3_readStreets_40 : decode cX3_readStreets 40 = .ok (.bipush 64, 2) := by decide +kernel
theorem dX3_readStreets_42 : decode cX3_readStreets 42 = .ok (.invokevirtual 26, 3) := by decide +kernel
theorem dX3_readStreets_45 : decode cX3_readStreets 45 = .ok (.ifCond .ne 5, 3) := by decide +kernel
theorem dX3_readStreets_48 : decode cX3_readStreets 48 = .ok (.iconst 0, 1) := by decide +kernel
theorem dX3_readStreets_49 : decode cX3_readStreets 49 = .ok (.ireturn, 1) := by decide +kernel
theorem dX3_readStreets_50 : decode cX3_readStreets 50 = .ok (.aload_n 1, 1) := by decide +kernel
theorem dX3_readStreets_51 : decode cX3_readStreets 51 = .ok (.iload_n 2, 1) := by decide +kernel
theorem dX3_readStreets_52 : decode cX3_readStreets 52 = .ok (.iload_n 3, 1) := by decide +kernel
theorem dX3_readStreets_53 : decode cX3_readStreets 53 = .ok (.invokevirtual 41, 3) := by decide +kernel
theorem dX3_readStreets_56 : decode cX3_readStreets 56 = .ok (.aload_n 0, 1) := by decide +kernel
theorem dX3_readStreets_57 : decode cX3_readStreets 57 = .ok (.aload_n 1, 1) := by decide +kernel
theorem dX3_readStreets_58 : decode cX3_readStreets 58 = .ok (.invokevirtual 47, 3) := by decide +kernel
theorem dX3_readStreets_61 : decode cX3_readStreets 61 = .ok (.istore 4, 2) := by decide +kernel
theorem dX3_readStreets_63 : decode cX3_readStreets 63 = .ok (.aload_n 1, 1) := by decide +kernel
theorem dX3_readStreets_64 : decode cX3_readStreets 64 = .ok (.iload 4, 2) := by decide +kernel
theorem dX3_readStreets_66 : decode cX3_readStreets 66 = .ok (.iconst 0, 1) := by decide +kernel
theorem dX3_readStreets_67 : decode cX3_readStreets 67 = .ok (.invokestatic 51, 3) := by decide +kernel
theorem dX3_readStreets_70 : decode cX3_readStreets 70 = .ok (.putfield 56, 3) := by decide +kernel
theorem dX3_readStreets_73 : decode cX3_readStreets 73 = .ok (.iload 4, 2) := by decide +kernel
theorem dX3_readStreets_75 : decode cX3_readStreets 75 = .ok (.bipush (-4), 2) := by decide +kernel
theorem dX3_readStreets_77 : decode cX3_readStreets 77 = .ok (.if_icmp .eq 7, 3) := by decide +kernel
theorem dX3_readStreets_80 : decode cX3_readStreets 80 = .ok (.iconst 1, 1) := by decide +kernel
theorem dX3_readStreets_81 : decode cX3_readStreets 81 = .ok (.goto 4, 3) := by decide +kernel
theorem dX3_readStreets_84 : decode cX3_readStreets 84 = .ok (.iconst 0, 1) := by decide +kernel
theorem dX3_readStreets_85 : decode cX3_readStreets 85 = .ok (.ireturn, 1) := by decide +kernel
theorem dX3_readPerson_0 : decode cX3_readPerson 0 = .ok (.ldc 59, 2) := by decide +kernel
theorem dX3_readPerson_2 : decode cX3_readPerson 2 = .ok (.aload_n 0, 1) := by decide +kernel
theorem dX3_readPerson_3 : decode cX3_readPerson 3 = .ok (.invokevirtual 33, 3) := by decide +kernel
theorem dX3_readPerson_6 : decode cX3_readPerson 6 = .ok (.invokevirtual 61, 3) := by decide +kernel
theorem dX3_readPerson_9 : decode cX3_readPerson 9 = .ok (.istore_n 2, 1) := by decide +kernel
theorem dX3_readPerson_10 : decode cX3_readPerson 10 = .ok (.iload_n 2, 1) := by decide +kernel
theorem dX3_readPerson_11 : decode cX3_readPerson 11 = .ok (.ifCond .ge 5, 3) := by decide +kernel
theorem dX3_readPerson_14 : decode cX3_readPerson 14 = .ok (.iconst 0, 1) := by decide +kernel
theorem dX3_readPerson_15 : decode cX3_readPerson 15 = .ok (.ireturn, 1) := by decide +kernel
theorem dX3_readPerson_16 : decode cX3_readPerson 16 = .ok (.aload_n 0, 1) := by decide +kernel
theorem dX3_readPerson_17 : decode cX3_readPerson 17 = .ok (.dup, 1) := by decide +kernel
theorem dX3_readPerson_18 : decode cX3_readPerson 18 = .ok (.getfield 19, 3) := by decide +kernel
theorem dX3_readPerson_21 : decode cX3_readPerson 21 = .ok (.iconst 1, 1) := by decide +kernel
theorem dX3_readPerson_22 : decode cX3_readPerson 22 = .ok (.iadd, 1) := by decide +kernel
theorem dX3_readPerson_23 : decode cX3_readPerson 23 = .ok (.putfield 19, 3) := by decide +kernel
theorem dX3_readPerson_26 : decode cX3_readPerson 26 = .ok (.aload_n 0, 1) := by decide +kernel
theorem dX3_readPerson_27 : decode cX3_readPerson 27 = .ok (.aload_n 1, 1) := by decide +kernel
theorem dX3_readPerson_28 : decode cX3_readPerson 28 = .ok (.invokevirtual 47, 3) := by decide +kernel
theorem dX3_readPerson_31 : decode cX3_readPerson 31 = .ok (.istore_n 3, 1) := by decide +kernel
theorem dX3_readPerson_32 : decode cX3_readPerson 32 = .ok (.iload_n 3, 1) := by decide +kernel
theorem dX3_readPerson_33 : decode cX3_readPerson 33 = .ok (.bipush (-4), 2) := by decide +kernel
theorem dX3_readPerson_35 : decode cX3_readPerson 35 = .ok (.if_icmp .ne 5, 3) := by decide +kernel
theorem dX3_readPerson_38 : decode cX3_readPerson 38 = .ok (.iconst 0, 1) := by decide +kernel
theorem dX3_readPerson_39 : decode cX3_readPerson 39 = .ok (.ireturn, 1) := by decide +kernel
theorem dX3_readPerson_40 : decode cX3_readPerson 40 = .ok (.aload_n 0, 1) := by decide +kernel
theorem dX3_readPerson_41 : decode cX3_readPerson 41 = .ok (.iconst 0, 1) := by decide +kernel
theorem dX3_readPerson_42 : decode cX3_readPerson 42 = .ok (.bipush 9, 2) := by decide +kernel
theorem dX3_readPerson_44 : decode cX3_readPerson 44 = .ok (.invokevirtual 37, 3) := by decide +kernel
theorem dX3_readPerson_47 : decode cX3_readPerson 47 = .ok (.istore 4, 2) := by decide +kernel
theorem dX3_readPerson_49 : decode cX3_readPerson 49 = .ok (.iload 4, 2) := by decide +kernel
theorem dX3_readPerson_51 : decode cX3_readPerson 51 = .ok (.bipush (-4), 2) := by decide +kernel
theorem dX3_readPerson_53 : decode cX3_readPerson 53 = .ok (.if_icmp .ne 5, 3) := by decide +kernel
theorem dX3_readPerson_56 : decode cX3_readPerson 56 = .ok (.iconst 0, 1) := by decide +kernel
theorem dX3_readPerson_57 : decode cX3_readPerson 57 = .ok (.ireturn, 1) := by decide +kernel
theorem dX3_readPerson_58 : decode cX3_readPerson 58 = .ok (.aload_n 1, 1) := by decide +kernel
theorem dX3_readPerson_59 : decode cX3_readPerson 59 = .ok (.iload_n 2, 1) := by decide +kernel
theorem dX3_readPerson_60 : decode cX3_readPerson 60 = .ok (.iload_n 3, 1) := by decide +kernel
theorem dX3_readPerson_61 : decode cX3_readPerson 61 = .ok (.iload 4, 2) := by decide +kernel
theorem dX3_readPerson_63 : decode cX3_readPerson 63 = .ok (.aload_n 0, 1) := by decide +kernel
theorem dX3_readPerson_64 : decode cX3_readPerson 64 = .ok (.invokevirtual 67, 3) := by decide +kernel
theorem dX3_readPerson_67 : decode cX3_readPerson 67 = .ok (.invokevirtual 71, 3) := by decide +kernel
theorem dX3_readPerson_70 : decode cX3_readPerson 70 = .ok (.pop, 1) := by decide +kernel
theorem dX3_readPerson_71 : decode cX3_readPerson 71 = .ok (.iconst 1, 1) := by decide +kernel
theorem dX3_readPerson_72 : decode cX3_readPerson 72 = .ok (.ireturn, 1) := by decide +kernel
theorem dX3_readFeatures_0 : decode cX3_readFeatures 0 = .ok (.iconst 0, 1) := by decide +kernel
theorem dX3_readFeatures_1 : decode cX3_readFeatures 1 = .ok (.istore_n 1, 1) := by decide +kernel
theorem dX3_readFeatures_2 : decode cX3_readFeatures 2 = .ok (.iconst 0, 1) := by decide +kernel
theorem dX3_readFeatures_3 : decode cX3_readFeatures 3 = .ok (.istore_n 2, 1) := by decide +kernel
theorem dX3_readFeatures_4 : decode cX3_readFeatures 4 = .ok (.iload_n 2, 1) := by decide +kernel
theorem dX3_readFeatures_5 : decode cX3_readFeatures 5 = .ok (.bipush 6, 2) := by decide +kernel
theorem dX3_readFeatures_7 : decode cX3_readFeatures 7 = .ok (.if_icmp .ge 36, 3) := by decide +kernel
theorem dX3_readFeatures_10 : decode cX3_readFeatures 10 = .ok (.aload_n 0, 1) := by decide +kernel
theorem dX3_readFeatures_11 : decode cX3_readFeatures 11 = .ok (.invokevirtual 33, 3) := by decide +kernel
theorem dX3_readFeatures_14 : decode cX3_readFeatures 14 = .ok (.bipush 97, 2) := by decide +kernel
theorem dX3_readFeatures_16 : decode cX3_readFeatures 16 = .ok (.iload_n 2, 1) := by decide +kernel
theorem dX3_readFeatures_17 : decode cX3_readFeatures 17 = .ok (.iadd, 1) := by decide +kernel
theorem dX3_readFeatures_18 : decode cX3_readFeatures 18 = .ok (.if_icmp .ne 19, 3) := by decide +kernel
theorem dX3_readFeatures_21 : decode cX3_readFeatures 21 = .ok (.iload_n 1, 1) := by decide +kernel
theorem dX3_readFeatures_22 : decode cX3_readFeatures 22 = .ok (.iconst 1, 1) := by decide +kernel
theorem dX3_readFeatures_23 : decode cX3_readFeatures 23 = .ok (.iload_n 2, 1) := by decide +kernel
theorem dX3_readFeatures_24 : decode cX3_readFeatures 24 = .ok (.ishl, 1) := by decide +kernel
theorem dX3_readFeatures_25 : decode cX3_readFeatures 25 = .ok (.ior, 1) := by decide +kernel
theorem dX3_readFeatures_26 : decode cX3_readFeatures 26 = .ok (.istore_n 1, 1) := by decide +kernel
theorem dX3_readFeatures_27 : decode cX3_readFeatures 27 = .ok (.aload_n 0, 1) := by decide +kernel
theorem dX3_readFeatures_28 : decode cX3_readFeatures 28 = .ok (.dup, 1) := by decide +kernel
theorem dX3_readFeatures_29 : decode cX3_readFeatures 29 = .ok (.getfield 19, 3) := by decide +kernel
theorem dX3_readFeatures_32 : decode cX3_readFeatures 32 = .ok (.iconst 1, 1) := by decide +kernel
theorem dX3_readFeatures_33 : decode cX3_readFeatures 33 = .ok (.iadd, 1) := by decide +kernel
theorem dX3_readFeatures_34 : decode cX3_readFeatures 34 = .ok (.putfield 19, 3) := by decide +kernel
theorem dX3_readFeatures_37 : decode cX3_readFeatures 37 = .ok (.iinc 2 1, 3) := by decide +kernel
theorem dX3_readFeatures_40 : decode cX3_readFeatures 40 = .ok (.goto (-36), 3) := by decide +kernel
theorem dX3_readFeatures_43 : decode cX3_readFeatures 43 = .ok (.iload_n 1, 1) := by decide +kernel
theorem dX3_readFeatures_44 : decode cX3_readFeatures 44 = .ok (.ireturn, 1) := by decide +kernel
theorem dX3_readCell_0 : decode cX3_readCell 0 = .ok (.aload_n 0, 1) := by decide +kernel
theorem dX3_readCell_1 : decode cX3_readCell 1 = .ok (.iconst 0, 1) := by decide +kernel
theorem dX3_readCell_2 : decode cX3_readCell 2 = .ok (.aload_n 1, 1) := by decide +kernel
theorem dX3_readCell_3 : decode cX3_readCell 3 = .ok (.getfield 75, 3) := by decide +kernel
theorem dX3_readCell_6 : decode cX3_readCell 6 = .ok (.iconst 1, 1) := by decide +kernel
theorem dX3_readCell_7 : decode cX3_readCell 7 = .ok (.isub, 1) := by decide +kernel
theorem dX3_readCell_8 : decode cX3_readCell 8 = .ok (.invokevirtual 37, 3) := by decide +kernel
theorem dX3_readCell_11 : decode cX3_readCell 11 = .ok (.istore_n 2, 1) := by decide +kernel
theorem dX3_readCell_12 : decode cX3_readCell 12 = .ok (.iload_n 2, 1) := by decide +kernel
theorem dX3_readCell_13 : decode cX3_readCell 13 = .ok (.bipush (-4), 2) := by decide +kernel
theorem dX3_readCell_15 : decode cX3_readCell 15 = .ok (.if_icmp .ne 6, 3) := by decide +kernel
theorem dX3_readCell_18 : decode cX3_readCell 18 = .ok (.bipush (-4), 2) := by decide +kernel
theorem dX3_readCell_20 : decode cX3_readCell 20 = .ok (.ireturn, 1) := by decide +kernel
theorem dX3_readCell_21 : decode cX3_readCell 21 = .ok (.aload_n 0, 1) := by decide +kernel
theorem dX3_readCell_22 : decode cX3_readCell 22 = .ok (.iconst 0, 1) := by decide +kernel
theorem dX3_readCell_23 : decode cX3_readCell 23 = .ok (.aload_n 1, 1) := by decide +kernel
theorem dX3_readCell_24 : decode cX3_readCell 24 = .ok (.getfield 78, 3) := by decide +kernel
theorem dX3_readCell_27 : decode cX3_readCell 27 = .ok (.iconst 1, 1) := by decide +kernel
theorem dX3_readCell_28 : decode cX3_readCell 28 = .ok (.isub, 1) := by decide +kernel
theorem dX3_readCell_29 : decode cX3_readCell 29 = .ok (.invokevirtual 37, 3) := by decide +kernel
theorem dX3_readCell_32 : decode cX3_readCell 32 = .ok (.istore_n 3, 1) := by decide +kernel
theorem dX3_readCell_33 : decode cX3_readCell 33 = .ok (.iload_n 3, 1) := by decide +kernel
theorem dX3_readCell_34 : decode cX3_readCell 34 = .ok (.bipush (-4), 2) := by decide +kernel
theorem dX3_readCell_36 : decode cX3_readCell 36 = .ok (.if_icmp .ne 8, 3) := by decide +kernel
theorem dX3_readCell_39 : decode cX3_readCell 39 = .ok (.bipush (-4), 2) := by decide +kernel
theorem dX3_readCell_41 : decode cX3_readCell 41 = .ok (.goto 11, 3) := by decide +kernel
theorem dX3_readCell_44 : decode cX3_readCell 44 = .ok (.iload_n 2, 1) := by decide +kernel
theorem dX3_readCell_45 : decode cX3_readCell 45 = .ok (.aload_n 1, 1) := by decide +kernel
theorem dX3_readCell_46 : decode cX3_readCell 46 = .ok (.getfield 78, 3) := by decide +kernel
theorem dX3_readCell_49 : decode cX3_readCell 49 = .ok (.imul, 1) := by decide +kernel
theorem dX3_readCell_50 : decode cX3_readCell 50 = .ok (.iload_n 3, 1) := by decide +kernel
theorem dX3_readCell_51 : decode cX3_readCell 51 = .ok (.iadd, 1) := by decide +kernel
theorem dX3_readCell_52 : decode cX3_readCell 52 = .ok (.ireturn, 1) := by decide +kernel
theorem dX3_readDigit_0 : decode cX3_readDigit 0 = .ok (.aload_n 0, 1) := by decide +kernel
theorem dX3_readDigit_1 : decode cX3_readDigit 1 = .ok (.invokevirtual 33, 3) := by decide +kernel
theorem dX3_readDigit_4 : decode cX3_readDigit 4 = .ok (.bipush 48, 2) := by decide +kernel
theorem dX3_readDigit_6 : decode cX3_readDigit 6 = .ok (.isub, 1) := by decide +kernel
theorem dX3_readDigit_7 : decode cX3_readDigit 7 = .ok (.istore_n 3, 1) := by decide +kernel
theorem dX3_readDigit_8 : decode cX3_readDigit 8 = .ok (.iload_n 3, 1) := by decide +kernel
theorem dX3_readDigit_9 : decode cX3_readDigit 9 = .ok (.iload_n 1, 1) := by decide +kernel
theorem dX3_readDigit_10 : decode cX3_readDigit 10 = .ok (.if_icmp .lt 8, 3) := by decide +kernel
theorem dX3_readDigit_13 : decode cX3_readDigit 13 = .ok (.iload_n 3, 1) := by decide +kernel
theorem dX3_readDigit_14 : decode cX3_readDigit 14 = .ok (.iload_n 2, 1) := by decide +kernel
theorem dX3_readDigit_15 : decode cX3_readDigit 15 = .ok (.if_icmp .le 6, 3) := by decide +kernel
theorem dX3_readDigit_18 : decode cX3_readDigit 18 = .ok (.bipush (-4), 2) := by decide +kernel
theorem dX3_readDigit_20 : decode cX3_readDigit 20 = .ok (.ireturn, 1) := by decide +kernel
theorem dX3_readDigit_21 : decode cX3_readDigit 21 = .ok (.aload_n 0, 1) := by decide +kernel
theorem dX3_readDigit_22 : decode cX3_readDigit 22 = .ok (.dup, 1) := by decide +kernel
theorem dX3_readDigit_23 : decode cX3_readDigit 23 = .ok (.getfield 19, 3) := by decide +kernel
theorem dX3_readDigit_26 : decode cX3_readDigit 26 = .ok (.iconst 1, 1) := by decide +kernel
theorem dX3_readDigit_27 : decode cX3_readDigit 27 = .ok (.iadd, 1) := by decide +kernel
theorem dX3_readDigit_28 : decode cX3_readDigit 28 = .ok (.putfield 19, 3) := by decide +kernel
theorem dX3_readDigit_31 : decode cX3_readDigit 31 = .ok (.iload_n 3, 1) := by decide +kernel
theorem dX3_readDigit_32 : decode cX3_readDigit 32 = .ok (.ireturn, 1) := by decide +kernel
theorem dX3_readSign_0 : decode cX3_readSign 0 = .ok (.aload_n 0, 1) := by decide +kernel
theorem dX3_readSign_1 : decode cX3_readSign 1 = .ok (.invokevirtual 33, 3) := by decide +kernel
theorem dX3_readSign_4 : decode cX3_readSign 4 = .ok (.iload_n 1, 1) := by decide +kernel
theorem dX3_readSign_5 : decode cX3_readSign 5 = .ok (.if_icmp .eq 5, 3) := by decide +kernel
theorem dX3_readSign_8 : decode cX3_readSign 8 = .ok (.iconst 0, 1) := by decide +kernel
theorem dX3_readSign_9 : decode cX3_readSign 9 = .ok (.ireturn, 1) := by decide +kernel
theorem dX3_readSign_10 : decode cX3_readSign 10 = .ok (.aload_n 0, 1) := by decide +kernel
theorem dX3_readSign_11 : decode cX3_readSign 11 = .ok (.dup, 1) := by decide +kernel
theorem dX3_readSign_12 : decode cX3_readSign 12 = .ok (.getfield 19, 3) := by decide +kernel
theorem dX3_readSign_15 : decode cX3_readSign 15 = .ok (.iconst 1, 1) := by decide +kernel
theorem dX3_readSign_16 : decode cX3_readSign 16 = .ok (.iadd, 1) := by decide +kernel
theorem dX3_readSign_17 : decode cX3_readSign 17 = .ok (.putfield 19, 3) := by decide +kernel
theorem dX3_readSign_20 : decode cX3_readSign 20 = .ok (.iconst 1, 1) := by decide +kernel
theorem dX3_readSign_21 : decode cX3_readSign 21 = .ok (.ireturn, 1) := by decide +kernel
theorem dX3_peek_0 : decode cX3_peek 0 = .ok (.aload_n 0, 1) := by decide +kernel
theorem dX3_peek_1 : decode cX3_peek 1 = .ok (.getfield 19, 3) := by decide +kernel
theorem dX3_peek_4 : decode cX3_peek 4 = .ok (.aload_n 0, 1) := by decide +kernel
theorem dX3_peek_5 : decode cX3_peek 5 = .ok (.getfield 15, 3) := by decide +kernel
theorem dX3_peek_8 : decode cX3_peek 8 = .ok (.if_icmp .ge 39, 3) := by decide +kernel
theorem dX3_peek_11 : decode cX3_peek 11 = .ok (.aload_n 0, 1) := by decide +kernel
theorem dX3_peek_12 : decode cX3_peek 12 = .ok (.getfield 19, 3) := by decide +kernel
theorem dX3_peek_15 : decode cX3_peek 15 = .ok (.bipush 90, 2) := by decide +kernel
theorem dX3_peek_17 : decode cX3_peek 17 = .ok (.if_icmp .ge 30, 3) := by decide +kernel
theorem dX3_peek_20 : decode cX3_peek 20 = .ok (.aload_n 0, 1) := by decide +kernel
theorem dX3_peek_21 : decode cX3_peek 21 = .ok (.getfield 9, 3) := by decide +kernel
theorem dX3_peek_24 : decode cX3_peek 24 = .ok (.aload_n 0, 1) := by decide +kernel
theorem dX3_peek_25 : decode cX3_peek 25 = .ok (.getfield 19, 3) := by decide +kernel
theorem dX3_peek_28 : decode cX3_peek 28 = .ok (.caload, 1) := by decide +kernel
theorem dX3_peek_29 : decode cX3_peek 29 = .ok (.bipush 32, 2) := by decide +kernel
theorem dX3_peek_31 : decode cX3_peek 31 = .ok (.if_icmp .ne 16, 3) := by decide +kernel
theorem dX3_peek_34 : decode cX3_peek 34 = .ok (.aload_n 0, 1) := by decide +kernel
theorem dX3_peek_35 : decode cX3_peek 35 = .ok (.dup, 1) := by decide +kernel
theorem dX3_peek_36 : decode cX3_peek 36 = .ok (.getfield 19, 3) := by decide +kernel
theorem dX3_peek_39 : decode cX3_peek 39 = .ok (.iconst 1, 1) := by decide +kernel
theorem dX3_peek_40 : decode cX3_peek 40 = .ok (.iadd, 1) := by decide +kernel
theorem dX3_peek_41 : decode cX3_peek 41 = .ok (.putfield 19, 3) := by decide +kernel
theorem dX3_peek_44 : decode cX3_peek 44 = .ok (.goto (-44), 3) := by decide +kernel
theorem dX3_peek_47 : decode cX3_peek 47 = .ok (.aload_n 0, 1) := by decide +kernel
theorem dX3_peek_48 : decode cX3_peek 48 = .ok (.getfield 19, 3) := by decide +kernel
theorem dX3_peek_51 : decode cX3_peek 51 = .ok (.aload_n 0, 1) := by decide +kernel
theorem dX3_peek_52 : decode cX3_peek 52 = .ok (.getfield 15, 3) := by decide +kernel
theorem dX3_peek_55 : decode cX3_peek 55 = .ok (.if_icmp .ge 24, 3) := by decide +kernel
theorem dX3_peek_58 : decode cX3_peek 58 = .ok (.aload_n 0, 1) := by decide +kernel
theorem dX3_peek_59 : decode cX3_peek 59 = .ok (.getfield 19, 3) := by decide +kernel
theorem dX3_peek_62 : decode cX3_peek 62 = .ok (.bipush 90, 2) := by decide +kernel
theorem dX3_peek_64 : decode cX3_peek 64 = .ok (.if_icmp .ge 15, 3) := by decide +kernel
theorem dX3_peek_67 : decode cX3_peek 67 = .ok (.aload_n 0, 1) := by decide +kernel
theorem dX3_peek_68 : decode cX3_peek 68 = .ok (.getfield 9, 3) := by decide +kernel
theorem dX3_peek_71 : decode cX3_peek 71 = .ok (.aload_n 0, 1) := by decide +kernel
theorem dX3_peek_72 : decode cX3_peek 72 = .ok (.getfield 19, 3) := by decide +kernel
theorem dX3_peek_75 : decode cX3_peek 75 = .ok (.caload, 1) := by decide +kernel
theorem dX3_peek_76 : decode cX3_peek 76 = .ok (.goto 4, 3) := by decide +kernel
theorem dX3_peek_79 : decode cX3_peek 79 = .ok (.iconst 0, 1) := by decide +kernel
theorem dX3_peek_80 : decode cX3_peek 80 = .ok (.ireturn, 1) := by decide +kernel
theorem dX4_init_0 : decode cX4_init 0 = .ok (.aload_n 0, 1) := by decide +kernel
theorem dX4_init_1 : decode cX4_init 1 = .ok (.invokespecial 1, 3) := by decide +kernel
theorem dX4_init_4 : decode cX4_init 4 = .ok (.aload_n 0, 1) := by decide +kernel
theorem dX4_init_5 : decode cX4_init 5 = .ok (.new 7, 3) := by decide +kernel
theorem dX4_init_8 : decode cX4_init 8 = .ok (.dup, 1) := by decide +kernel
theorem dX4_init_9 : decode cX4_init 9 = .ok (.invokespecial 9, 3) := by decide +kernel
theorem dX4_init_12 : decode cX4_init 12 = .ok (.putfield 10, 3) := by decide +kernel
theorem dX4_init_15 : decode cX4_init 15 = .ok (.aload_n 0, 1) := by decide +kernel
theorem dX4_init_16 : decode cX4_init 16 = .ok (.new 16, 3) := by decide +kernel
theorem dX4_init_19 : decode cX4_init 19 = .ok (.dup, 1) := by decide +kernel
theorem dX4_init_20 : decode cX4_init 20 = .ok (.invokespecial 18, 3) := by decide +kernel
theorem dX4_init_23 : decode cX4_init 23 = .ok (.putfield 19, 3) := by decide +kernel
theorem dX4_init_26 : decode cX4_init 26 = .ok (.aload_n 0, 1) := by decide +kernel
theorem dX4_init_27 : decode cX4_init 27 = .ok (.new 7, 3) := by decide +kernel
theorem dX4_init_30 : decode cX4_init 30 = .ok (.dup, 1) := by decide +kernel
theorem dX4_init_31 : decode cX4_init 31 = .ok (.invokespecial 9, 3) := by decide +kernel
theorem dX4_init_34 : decode cX4_init 34 = .ok (.putfield 23, 3) := by decide +kernel
theorem dX4_init_37 : decode cX4_init 37 = .ok (.aload_n 0, 1) := by decide +kernel
theorem dX4_init_38 : decode cX4_init 38 = .ok (.new 7, 3) := by decide +kernel
theorem dX4_init_41 : decode cX4_init 41 = .ok (.dup, 1) := by decide +kernel
theorem dX4_init_42 : decode cX4_init 42 = .ok (.invokespecial 9, 3) := by decide +kernel
theorem dX4_init_45 : decode cX4_init 45 = .ok (.putfield 26, 3) := by decide +kernel
theorem dX4_init_48 : decode cX4_init 48 = .ok (.aload_n 0, 1) := by decide +kernel
theorem dX4_init_49 : decode cX4_init 49 = .ok (.new 16, 3) := by decide +kernel
theorem dX4_init_52 : decode cX4_init 52 = .ok (.dup, 1) := by decide +kernel
theorem dX4_init_53 : decode cX4_init 53 = .ok (.invokespecial 18, 3) := by decide +kernel
theorem dX4_init_56 : decode cX4_init 56 = .ok (.putfield 29, 3) := by decide +kernel
theorem dX4_init_59 : decode cX4_init 59 = .ok (.aload_n 0, 1) := by decide +kernel
theorem dX4_init_60 : decode cX4_init 60 = .ok (.new 32, 3) := by decide +kernel
theorem dX4_init_63 : decode cX4_init 63 = .ok (.dup, 1) := by decide +kernel
theorem dX4_init_64 : decode cX4_init 64 = .ok (.invokespecial 34, 3) := by decide +kernel
theorem dX4_init_67 : decode cX4_init 67 = .ok (.putfield 35, 3) := by decide +kernel
theorem dX4_init_70 : decode cX4_init 70 = .ok (.aload_n 0, 1) := by decide +kernel
theorem dX4_init_71 : decode cX4_init 71 = .ok (.iconst 4, 1) := by decide +kernel
theorem dX4_init_72 : decode cX4_init 72 = .ok (.anewarray 39, 3) := by decide +kernel
theorem dX4_init_75 : decode cX4_init 75 = .ok (.putfield 41, 3) := by decide +kernel
theorem dX4_init_78 : decode cX4_init 78 = .ok (.iconst 0, 1) := by decide +kernel
theorem dX4_init_79 : decode cX4_init 79 = .ok (.istore_n 1, 1) := by decide +kernel
theorem dX4_init_80 : decode cX4_init 80 = .ok (.iload_n 1, 1) := by decide +kernel
theorem dX4_init_81 : decode cX4_init 81 = .ok (.iconst 4, 1) := by decide +kernel
theorem dX4_init_82 : decode cX4_init 82 = .ok (.if_icmp .ge 22, 3) := by decide +kernel
theorem dX4_init_85 : decode cX4_init 85 = .ok (.aload_n 0, 1) := by decide +kernel
theorem dX4_init_86 : decode cX4_init 86 = .ok (.getfield 41, 3) := by decide +kernel
theorem dX4_init_89 : decode cX4_init 89 = .ok (.iload_n 1, 1) := by decide +kernel
theorem dX4_init_90 : decode cX4_init 90 = .ok (.new 39, 3) := by decide +kernel
theorem dX4_init_93 : decode cX4_init 93 = .ok (.dup, 1) := by decide +kernel
theorem dX4_init_94 : decode cX4_init 94 = .ok (.invokespecial 45, 3) := by decide +kernel
theorem dX4_init_97 : decode cX4_init 97 = .ok (.aastore, 1) := by decide +kernel
theorem dX4_init_98 : decode cX4_init 98 = .ok (.iinc 1 1, 3) := by decide +kernel
theorem dX4_init_101 : decode cX4_init 101 = .ok (.goto (-21), 3) := by decide +kernel
theorem dX4_init_104 : decode cX4_init 104 = .ok (.return_, 1) := by decide +kernel
theorem dX4_streets_0 : decode cX4_streets 0 = .ok (.iload_n 1, 1) := by decide +kernel
theorem dX4_streets_1 : decode cX4_streets 1 = .ok (.iconst 2, 1) := by decide +kernel
theorem dX4_streets_2 : decode cX4_streets 2 = .ok (.bipush 6, 2) := by decide +kernel
theorem dX4_streets_4 : decode cX4_streets 4 = .ok (.invokestatic 46, 3) := by decide +kernel
theorem dX4_streets_7 : decode cX4_streets 7 = .ok (.ifCond .ne 13, 3) := by decide +kernel
theorem dX4_streets_10 : decode cX4_streets 10 = .ok (.iload_n 2, 1) := by decide +kernel
theorem dX4_streets_11 : decode cX4_streets 11 = .ok (.iconst 2, 1) := by decide +kernel
theorem dX4_streets_12 : decode cX4_streets 12 = .ok (.bipush 6, 2) := by decide +kernel
theorem dX4_streets_14 : decode cX4_streets 14 = .ok (.invokestatic 46, 3) := by decide +kernel
theorem dX4_streets_17 : decode cX4_streets 17 = .ok (.ifCond .eq 5, 3) := by decide +kernel
theorem dX4_streets_20 : decode cX4_streets 20 = .ok (.iconst (-1), 1) := by decide +kernel
theorem dX4_streets_21 : decode cX4_streets 21 = .ok (.ireturn, 1) := by decide +kernel
theorem dX4_streets_22 : decode cX4_streets 22 = .ok (.aload_n 0, 1) := by decide +kernel
theorem dX4_streets_23 : decode cX4_streets 23 = .ok (.getfield 10, 3) := by decide +kernel
theorem dX4_streets_26 : decode cX4_streets 26 = .ok (.iload_n 1, 1) := by decide +kernel
theorem dX4_streets_27 : decode cX4_streets 27 = .ok (.iload_n 2, 1) := by decide +kernel
theorem dX4_streets_28 : decode cX4_streets 28 = .ok (.invokevirtual 50, 3) := by decide +kernel
theorem dX4_streets_31 : decode cX4_streets 31 = .ok (.aload_n 0, 1) := by decide +kernel
theorem dX4_streets_32 : decode cX4_streets 32 = .ok (.getfield 19, 3) := by decide +kernel
theorem dX4_streets_35 : decode cX4_streets 35 = .ok (.invokevirtual 54, 3) := by decide +kernel
theorem dX4_streets_38 : decode cX4_streets 38 = .ok (.aload_n 0, 1) := by decide +kernel
theorem dX4_streets_39 : decode cX4_streets 39 = .ok (.getfield 10, 3) := by decide +kernel
theorem dX4_streets_42 : decode cX4_streets 42 = .ok (.invokevirtual 57, 3) := by decide +kernel
theorem dX4_streets_45 : decode cX4_streets 45 = .ok (.ireturn, 1) := by decide +kernel
theorem dX4_person_0 : decode cX4_person 0 = .ok (.iload_n 1, 1) := by decide +kernel
theorem dX4_person_1 : decode cX4_person 1 = .ok (.iconst 0, 1) := by decide +kernel
theorem dX4_person_2 : decode cX4_person 2 = .ok (.iconst 4, 1) := by decide +kernel
theorem dX4_person_3 : decode cX4_person 3 = .ok (.invokestatic 46, 3) := by decide +kernel
theorem dX4_person_6 : decode cX4_person 6 = .ok (.ifCond .ne 41, 3) := by decide +kernel
theorem dX4_person_9 : decode cX4_person 9 = .ok (.iload_n 2, 1) := by decide +kernel
theorem dX4_person_10 : decode cX4_person 10 = .ok (.iconst 0, 1) := by decide +kernel
theorem dX4_person_11 : decode cX4_person 11 = .ok (.aload_n 0, 1) := by decide +kernel
theorem dX4_person_12 : decode cX4_person 12 = .ok (.getfield 10, 3) := by decide +kernel
theorem dX4_person_15 : decode cX4_person 15 = .ok (.invokevirtual 57, 3) := by decide +kernel
theorem dX4_person_18 : decode cX4_person 18 = .ok (.iconst 1, 1) := by decide +kernel
theorem dX4_person_19 : decode cX4_person 19 = .ok (.isub, 1) := by decide +kernel
theorem dX4_person_20 : decode cX4_person 20 = .ok (.invokestatic 46, 3) := by decide +kernel
theorem dX4_person_23 : decode cX4_person 23 = .ok (.ifCond .ne 24, 3) := by decide +kernel
theorem dX4_person_26 : decode cX4_person 26 = .ok (.iload_n 3, 1) := by decide +kernel
theorem dX4_person_27 : decode cX4_person 27 = .ok (.iconst 0, 1) := by decide +kernel
theorem dX4_person_28 : decode cX4_person 28 = .ok (.bipush 9, 2) := by decide +kernel
theorem dX4_person_30 : decode cX4_person 30 = .ok (.invokestatic 46, 3) := by decide +kernel
theorem dX4_person_33 : decode cX4_person 33 = .ok (.ifCond .ne 14, 3) := by decide +kernel
theorem dX4_person_36 : decode cX4_person 36 = .ok (.iload 4, 2) := by decide +kernel
theorem dX4_person_38 : decode cX4_person 38 = .ok (.iconst 0, 1) := by decide +kernel
theorem dX4_person_39 : decode cX4_person 39 = .ok (.bipush 63, 2) := by decide +kernel
theorem dX4_person_41 : decode cX4_person 41 = .ok (.invokestatic 46, 3) := by decide +kernel
theorem dX4_person_44 : decode cX4_person 44 = .ok (.ifCond .eq 5, 3) := by decide +kernel
theorem dX4_person_47 : decode cX4_person 47 = .ok (.iconst (-1), 1) := by decide +kernel
theorem dX4_person_48 : decode cX4_person 48 = .ok (.ireturn, 1) := by decide +kernel
theorem dX4_person_49 : decode cX4_person 49 = .ok (.aload_n 0, 1) := by decide +kernel
theorem dX4_person_50 : decode cX4_person 50 = .ok (.getfield 10, 3) := by decide +kernel
theorem dX4_person_53 : decode cX4_person 53 = .ok (.getfield 61, 3) := by decide +kernel
theorem dX4_person_56 : decode cX4_person 56 = .ok (.bipush 6, 2) := by decide +kernel
theorem dX4_person_58 : decode cX4_person 58 = .ok (.if_icmp .lt 6, 3) := by decide +kernel
theorem dX4_person_61 : decode cX4_person 61 = .ok (.bipush (-3), 2) := by decide +kernel
theorem dX4_person_63 : decode cX4_person 63 = .ok (.ireturn, 1) := by decide +kernel
theorem dX4_person_64 : decode cX4_person 64 = .ok (.aload_n 0, 1) := by decide +kernel
theorem dX4_person_65 : decode cX4_person 65 = .ok (.getfield 19, 3) := by decide +kernel
theorem dX4_person_68 : decode cX4_person 68 = .ok (.invokevirtual 54, 3) := by decide +kernel
theorem dX4_person_71 : decode cX4_person 71 = .ok (.aload_n 0, 1) := by decide +kernel
theorem dX4_person_72 : decode cX4_person 72 = .ok (.getfield 10, 3) := by decide +kernel
theorem dX4_person_75 : decode cX4_person 75 = .ok (.iload_n 1, 1) := by decide +kernel
theorem dX4_person_76 : decode cX4_person 76 = .ok (.iload_n 2, 1) := by decide +kernel
theorem dX4_person_77 : decode cX4_person 77 = .ok (.iload_n 3, 1) := by decide +kernel
theorem dX4_person_78 : decode cX4_person 78 = .ok (.iload 4, 2) := by decide +kernel
theorem dX4_person_80 : decode cX4_person 80 = .ok (.invokevirtual 65, 3) := by decide +kernel
theorem dX4_person_83 : decode cX4_person 83 = .ok (.ireturn, 1) := by decide +kernel
theorem dX4_of_0 : decode cX4_of 0 = .ok (.aload_n 0, 1) := by decide +kernel
theorem dX4_of_1 : decode cX4_of 1 = .ok (.iload_n 1, 1) := by decide +kernel
theorem dX4_of_2 : decode cX4_of 2 = .ok (.invokevirtual 69, 3) := by decide +kernel
theorem dX4_of_5 : decode cX4_of 5 = .ok (.ifCond .eq 5, 3) := by decide +kernel
theorem dX4_of_8 : decode cX4_of 8 = .ok (.iconst (-1), 1) := by decide +kernel
theorem dX4_of_9 : decode cX4_of 9 = .ok (.ireturn, 1) := by decide +kernel
theorem dX4_of_10 : decode cX4_of 10 = .ok (.iload_n 2, 1) := by decide +kernel
theorem dX4_of_11 : decode cX4_of 11 = .ok (.tableswitch 150 0 8 #[49, 59, 69, 79, 89, 99, 116, 125, 134], 49) := by decide +kernel
theorem dX4_of_60 : decode cX4_of 60 = .ok (.aload_n 0, 1) := by decide +kernel
theorem dX4_of_61 : decode cX4_of 61 = .ok (.getfield 10, 3) := by decide +kernel
theorem dX4_of_64 : decode cX4_of 64 = .ok (.getfield 73, 3) := by decide +kernel
theorem dX4_of_67 : decode cX4_of 67 = .ok (.iload_n 1, 1) := by decide +kernel
theorem dX4_of_68 : decode cX4_of 68 = .ok (.iaload, 1) := by decide +kernel
theorem dX4_of_69 : decode cX4_of 69 = .ok (.ireturn, 1) := by decide +kernel
theorem dX4_of_70 : decode cX4_of 70 = .ok (.aload_n 0, 1) := by decide +kernel
theorem dX4_of_71 : decode cX4_of 71 = .ok (.getfield 10, 3) := by decide +kernel
theorem dX4_of_74 : decode cX4_of 74 = .ok (.getfield 77, 3) := by decide +kernel
theorem dX4_of_77 : decode cX4_of 77 = .ok (.iload_n 1, 1) := by decide +kernel
theorem dX4_of_78 : decode cX4_of 78 = .ok (.iaload, 1) := by decide +kernel
theorem dX4_of_79 : decode cX4_of 79 = .ok (.ireturn, 1) := by decide +kernel
theorem dX4_of_80 : decode cX4_of 80 = .ok (.aload_n 0, 1) := by decide +kernel
theorem dX4_of_81 : decode cX4_of 81 = .ok (.getfield 10, 3) := by decide +kernel
theorem dX4_of_84 : decode cX4_of 84 = .ok (.getfield 80, 3) := by decide +kernel
theorem dX4_of_87 : decode cX4_of 87 = .ok (.iload_n 1, 1) := by decide +kernel
theorem dX4_of_88 : decode cX4_of 88 = .ok (.iaload, 1) := by decide +kernel
theorem dX4_of_89 : decode cX4_of 89 = .ok (.ireturn, 1) := by decide +kernel
theorem dX4_of_90 : decode cX4_of 90 = .ok (.aload_n 0, 1) := by decide +kernel
theorem dX4_of_91 : decode cX4_of 91 = .ok (.getfield 10, 3) := by decide +kernel
theorem dX4_of_94 : decode cX4_of 94 = .ok (.getfield 83, 3) := by decide +kernel
theorem dX4_of_97 : decode cX4_of 97 = .ok (.iload_n 1, 1) := by decide +kernel
theorem dX4_of_98 : decode cX4_of 98 = .ok (.iaload, 1) := by decide +kernel
theorem dX4_of_99 : decode cX4_of 99 = .ok (.ireturn, 1) := by decide +kernel
theorem dX4_of_100 : decode cX4_of 100 = .ok (.aload_n 0, 1) := by decide +kernel
theorem dX4_of_101 : decode cX4_of 101 = .ok (.getfield 10, 3) := by decide +kernel
theorem dX4_of_104 : decode cX4_of 104 = .ok (.getfield 86, 3) := by decide +kernel
theorem dX4_of_107 : decode cX4_of 107 = .ok (.iload_n 1, 1) := by decide +kernel
theorem dX4_of_108 : decode cX4_of 108 = .ok (.iaload, 1) := by decide +kernel
theorem dX4_of_109 : decode cX4_of 109 = .ok (.ireturn, 1) := by decide +kernel
theorem dX4_of_110 : decode cX4_of 110 = .ok (.aload_n 0, 1) := by decide +kernel
theorem dX4_of_111 : decode cX4_of 111 = .ok (.getfield 10, 3) := by decide +kernel
theorem dX4_of_114 : decode cX4_of 114 = .ok (.iload_n 1, 1) := by decide +kernel
theorem dX4_of_115 : decode cX4_of 115 = .ok (.invokevirtual 89, 3) := by decide +kernel
theorem dX4_of_118 : decode cX4_of 118 = .ok (.ifCond .eq 7, 3) := by decide +kernel
theorem dX4_of_121 : decode cX4_of 121 = .ok (.iconst 0, 1) := by decide +kernel
theorem dX4_of_122 : decode cX4_of 122 = .ok (.goto 4, 3) := by decide +kernel
theorem dX4_of_125 : decode cX4_of 125 = .ok (.iconst 1, 1) := by decide +kernel
theorem dX4_of_126 : decode cX4_of 126 = .ok (.ireturn, 1) := by decide +kernel
theorem dX4_of_127 : decode cX4_of 127 = .ok (.aload_n 0, 1) := by decide +kernel
theorem dX4_of_128 : decode cX4_of 128 = .ok (.getfield 10, 3) := by decide +kernel
theorem dX4_of_131 : decode cX4_of 131 = .ok (.iload_n 1, 1) := by decide +kernel
theorem dX4_of_132 : decode cX4_of 132 = .ok (.invokevirtual 92, 3) := by decide +kernel
theorem dX4_of_135 : decode cX4_of 135 = .ok (.ireturn, 1) := by decide +kernel
theorem dX4_of_136 : decode cX4_of 136 = .ok (.aload_n 0, 1) := by decide +kernel
theorem dX4_of_137 : decode cX4_of 137 = .ok (.getfield 10, 3) := by decide +kernel
theorem dX4_of_140 : decode cX4_of 140 = .ok (.iload_n 1, 1) := by decide +kernel
theorem dX4_of_141 : decode cX4_of 141 = .ok (.invokevirtual 96, 3) := by decide +kernel
theorem dX4_of_144 : decode cX4_of 144 = .ok (.ireturn, 1) := by decide +kernel
theorem dX4_of_145 : decode cX4_of 145 = .ok (.aload_n 0, 1) := by decide +kernel
theorem dX4_of_146 : decode cX4_of 146 = .ok (.getfield 10, 3) := by decide +kernel
theorem dX4_of_149 : decode cX4_of 149 = .ok (.aload_n 0, 1) := by decide +kernel
theorem dX4_of_150 : decode cX4_of 150 = .ok (.getfield 10, 3) := by decide +kernel
theorem dX4_of_153 : decode cX4_of 153 = .ok (.iload_n 1, 1) := by decide +kernel
theorem dX4_of_154 : decode cX4_of 154 = .ok (.invokevirtual 99, 3) := by decide +kernel
theorem dX4_of_157 : decode cX4_of 157 = .ok (.invokevirtual 102, 3) := by decide +kernel
theorem dX4_of_160 : decode cX4_of 160 = .ok (.ireturn, 1) := by decide +kernel
theorem dX4_of_161 : decode cX4_of 161 = .ok (.iconst (-1), 1) := by decide +kernel
theorem dX4_of_162 : decode cX4_of 162 = .ok (.ireturn, 1) := by decide +kernel
theorem dX4_rule_0 : decode cX4_rule 0 = .ok (.aload_n 0, 1) := by decide +kernel
theorem dX4_rule_1 : decode cX4_rule 1 = .ok (.iload_n 1, 1) := by decide +kernel
theorem dX4_rule_2 : decode cX4_rule 2 = .ok (.invokevirtual 69, 3) := by decide +kernel
theorem dX4_rule_5 : decode cX4_rule 5 = .ok (.ifCond .eq 5, 3) := by decide +kernel
theorem dX4_rule_8 : decode cX4_rule 8 = .ok (.iconst (-1), 1) := by decide +kernel
theorem dX4_rule_9 : decode cX4_rule 9 = .ok (.ireturn, 1) := by decide +kernel
theorem dX4_rule_10 : decode cX4_rule 10 = .ok (.iload_n 2, 1) := by decide +kernel
theorem dX4_rule_11 : decode cX4_rule 11 = .ok (.ifCond .ne 37, 3) := by decide +kernel
theorem dX4_rule_14 : decode cX4_rule 14 = .ok (.iload_n 3, 1) := by decide +kernel
theorem dX4_rule_15 : decode cX4_rule 15 = .ok (.iconst 0, 1) := by decide +kernel
theorem dX4_rule_16 : decode cX4_rule 16 = .ok (.bipush 9, 2) := by decide +kernel
theorem dX4_rule_18 : decode cX4_rule 18 = .ok (.invokestatic 46, 3) := by decide +kernel
theorem dX4_rule_21 : decode cX4_rule 21 = .ok (.ifCond .ne 27, 3) := by decide +kernel
theorem dX4_rule_24 : decode cX4_rule 24 = .ok (.aload_n 0, 1) := by decide +kernel
theorem dX4_rule_25 : decode cX4_rule 25 = .ok (.getfield 10, 3) := by decide +kernel
theorem dX4_rule_28 : decode cX4_rule 28 = .ok (.getfield 80, 3) := by decide +kernel
theorem dX4_rule_31 : decode cX4_rule 31 = .ok (.iload_n 1, 1) := by decide +kernel
theorem dX4_rule_32 : decode cX4_rule 32 = .ok (.iaload, 1) := by decide +kernel
theorem dX4_rule_33 : decode cX4_rule 33 = .ok (.istore 4, 2) := by decide +kernel
theorem dX4_rule_35 : decode cX4_rule 35 = .ok (.aload_n 0, 1) := by decide +kernel
theorem dX4_rule_36 : decode cX4_rule 36 = .ok (.getfield 10, 3) := by decide +kernel
theorem dX4_rule_39 : decode cX4_rule 39 = .ok (.getfield 80, 3) := by decide +kernel
theorem dX4_rule_42 : decode cX4_rule 42 = .ok (.iload_n 1, 1) := by decide +kernel
theorem dX4_rule_43 : decode cX4_rule 43 = .ok (.iload_n 3, 1) := by decide +kernel
theorem dX4_rule_44 : decode cX4_rule 44 = .ok (.iastore, 1) := by decide +kernel
theorem dX4_rule_45 : decode cX4_rule 45 = .ok (.iload 4, 2) := by decide +kernel
theorem dX4_rule_47 : decode cX4_rule 47 = .ok (.ireturn, 1) := by decide +kernel
theorem dX4_rule_48 : decode cX4_rule 48 = .ok (.iload_n 2, 1) := by decide +kernel
theorem dX4_rule_49 : decode cX4_rule 49 = .ok (.iconst 1, 1) := by decide +kernel
theorem dX4_rule_50 : decode cX4_rule 50 = .ok (.if_icmp .ne 37, 3) := by decide +kernel
theorem dX4_rule_53 : decode cX4_rule 53 = .ok (.iload_n 3, 1) := by decide +kernel
theorem dX4_rule_54 : decode cX4_rule 54 = .ok (.iconst 0, 1) := by decide +kernel
theorem dX4_rule_55 : decode cX4_rule 55 = .ok (.bipush 63, 2) := by decide +kernel
theorem dX4_rule_57 : decode cX4_rule 57 = .ok (.invokestatic 46, 3) := by decide +kernel
theorem dX4_rule_60 : decode cX4_rule 60 = .ok (.ifCond .ne 27, 3) := by decide +kernel
theorem dX4_rule_63 : decode cX4_rule 63 = .ok (.aload_n 0, 1) := by decide +kernel
theorem dX4_rule_64 : decode cX4_rule 64 = .ok (.getfield 10, 3) := by decide +kernel
theorem dX4_rule_67 : decode cX4_rule 67 = .ok (.getfield 86, 3) := by decide +kernel
theorem dX4_rule_70 : decode cX4_rule 70 = .ok (.iload_n 1, 1) := by decide +kernel
theorem dX4_rule_71 : decode cX4_rule 71 = .ok (.iaload, 1) := by decide +kernel
theorem dX4_rule_72 : decode cX4_rule 72 = .ok (.istore 4, 2) := by decide +kernel
theorem dX4_rule_74 : decode cX4_rule 74 = .ok (.aload_n 0, 1) := by decide +kernel
theorem dX4_rule_75 : decode cX4_rule 75 = .ok (.getfield 10, 3) := by decide +kernel
theorem dX4_rule_78 : decode cX4_rule 78 = .ok (.getfield 86, 3) := by decide +kernel
theorem dX4_rule_81 : decode cX4_rule 81 = .ok (.iload_n 1, 1) := by decide +kernel
theorem dX4_rule_82 : decode cX4_rule 82 = .ok (.iload_n 3, 1) := by decide +kernel
theorem dX4_rule_83 : decode cX4_rule 83 = .ok (.iastore, 1) := by decide +kernel
theorem dX4_rule_84 : decode cX4_rule 84 = .ok (.iload 4, 2) := by decide +kernel
theorem dX4_rule_86 : decode cX4_rule 86 = .ok (.ireturn, 1) := by decide +kernel
theorem dX4_rule_87 : decode cX4_rule 87 = .ok (.iconst (-1), 1) := by decide +kernel
theorem dX4_rule_88 : decode cX4_rule 88 = .ok (.ireturn, 1) := by decide +kernel
theorem dX4_type_0 : decode cX4_type 0 = .ok (.iload_n 1, 1) := by decide +kernel
theorem dX4_type_1 : decode cX4_type 1 = .ok (.bipush 32, 2) := by decide +kernel
theorem dX4_type_3 : decode cX4_type 3 = .ok (.bipush 126, 2) := by decide +kernel
theorem dX4_type_5 : decode cX4_type 5 = .ok (.invokestatic 46, 3) := by decide +kernel
theorem dX4_type_8 : decode cX4_type 8 = .ok (.ifCond .eq 5, 3) := by decide +kernel
theorem dX4_type_11 : decode cX4_type 11 = .ok (.iconst (-1), 1) := by decide +kernel
theorem dX4_type_12 : decode cX4_type 12 = .ok (.ireturn, 1) := by decide +kernel
theorem dX4_type_13 : decode cX4_type 13 = .ok (.aload_n 0, 1) := by decide +kernel
theorem dX4_type_14 : decode cX4_type 14 = .ok (.getfield 35, 3) := by decide +kernel
theorem dX4_type_17 : decode cX4_type 17 = .ok (.getfield 105, 3) := by decide +kernel
theorem dX4_type_20 : decode cX4_type 20 = .ok (.bipush 90, 2) := by decide +kernel
theorem dX4_type_22 : decode cX4_type 22 = .ok (.if_icmp .lt 6, 3) := by decide +kernel
theorem dX4_type_25 : decode cX4_type 25 = .ok (.bipush (-3), 2) := by decide +kernel
theorem dX4_type_27 : decode cX4_type 27 = .ok (.ireturn, 1) := by decide +kernel
theorem dX4_type_28 : decode cX4_type 28 = .ok (.aload_n 0, 1) := by decide +kernel
theorem dX4_type_29 : decode cX4_type 29 = .ok (.getfield 35, 3) := by decide +kernel
theorem dX4_type_32 : decode cX4_type 32 = .ok (.iload_n 1, 1) := by decide +kernel
theorem dX4_type_33 : decode cX4_type 33 = .ok (.invokevirtual 108, 3) := by decide +kernel
theorem dX4_type_36 : decode cX4_type 36 = .ok (.ireturn, 1) := by decide +kernel
theorem dX4_city_0 : decode cX4_city 0 = .ok (.aload_n 0, 1) := by decide +kernel
theorem dX4_city_1 : decode cX4_city 1 = .ok (.getfield 23, 3) := by decide +kernel
theorem dX4_city_4 : decode cX4_city 4 = .ok (.aload_n 0, 1) := by decide +kernel
theorem dX4_city_5 : decode cX4_city 5 = .ok (.getfield 10, 3) := by decide +kernel
theorem dX4_city_8 : decode cX4_city 8 = .ok (.invokevirtual 111, 3) := by decide +kernel
theorem dX4_city_11 : decode cX4_city 11 = .ok (.aload_n 0, 1) := by decide +kernel
theorem dX4_city_12 : decode cX4_city 12 = .ok (.getfield 35, 3) := by decide +kernel
theorem dX4_city_15 : decode cX4_city 15 = .ok (.aload_n 0, 1) := by decide +kernel
theorem dX4_city_16 : decode cX4_city 16 = .ok (.getfield 23, 3) := by decide +kernel
theorem dX4_city_19 : decode cX4_city 19 = .ok (.invokevirtual 115, 3) := by decide +kernel
theorem dX4_city_22 : decode cX4_city 22 = .ok (.istore_n 1, 1) := by decide +kernel
theorem dX4_city_23 : decode cX4_city 23 = .ok (.iload_n 1, 1) := by decide +kernel
theorem dX4_city_24 : decode cX4_city 24 = .ok (.ifCond .eq 13, 3) := by decide +kernel
theorem dX4_city_27 : decode cX4_city 27 = .ok (.aload_n 0, 1) := by decide +kernel
theorem dX4_city_28 : decode cX4_city 28 = .ok (.getfield 23, 3) := by decide +kernel
theorem dX4_city_31 : decode cX4_city 31 = .ok (.getfield 61, 3) := by decide +kernel
theorem dX4_city_34 : decode cX4_city 34 = .ok (.goto 13, 3) := by decide +kernel
theorem dX4_city_37 : decode cX4_city 37 = .ok (.bipush (-20), 2) := by decide +kernel
theorem dX4_city_39 : decode cX4_city 39 = .ok (.aload_n 0, 1) := by decide +kernel
theorem dX4_city_40 : decode cX4_city 40 = .ok (.getfield 35, 3) := by decide +kernel
theorem dX4_city_43 : decode cX4_city 43 = .ok (.getfield 119, 3) := by decide +kernel
theorem dX4_city_46 : decode cX4_city 46 = .ok (.isub, 1) := by decide +kernel
theorem dX4_city_47 : decode cX4_city 47 = .ok (.istore_n 2, 1) := by decide +kernel
theorem dX4_city_48 : decode cX4_city 48 = .ok (.aload_n 0, 1) := by decide +kernel
theorem dX4_city_49 : decode cX4_city 49 = .ok (.getfield 35, 3) := by decide +kernel
theorem dX4_city_52 : decode cX4_city 52 = .ok (.iconst 0, 1) := by decide +kernel
theorem dX4_city_53 : decode cX4_city 53 = .ok (.putfield 105, 3) := by decide +kernel
theorem dX4_city_56 : decode cX4_city 56 = .ok (.iload_n 1, 1) := by decide +kernel
theorem dX4_city_57 : decode cX4_city 57 = .ok (.ifCond .eq 21, 3) := by decide +kernel
theorem dX4_city_60 : decode cX4_city 60 = .ok (.aload_n 0, 1) := by decide +kernel
theorem dX4_city_61 : decode cX4_city 61 = .ok (.getfield 10, 3) := by decide +kernel
theorem dX4_city_64 : decode cX4_city 64 = .ok (.aload_n 0, 1) := by decide +kernel
theorem dX4_city_65 : decode cX4_city 65 = .ok (.getfield 23, 3) := by decide +kernel
theorem dX4_city_68 : decode cX4_city 68 = .ok (.invokevirtual 111, 3) := by decide +kernel
theorem dX4_city_71 : decode cX4_city 71 = .ok (.aload_n 0, 1) := by decide +kernel
theorem dX4_city_72 : decode cX4_city 72 = .ok (.getfield 19, 3) := by decide +kernel
theorem dX4_city_75 : decode cX4_city 75 = .ok (.invokevirtual 54, 3) := by decide +kernel
theorem dX4_city_78 : decode cX4_city 78 = .ok (.iload_n 2, 1) := by decide +kernel
theorem dX4_city_79 : decode cX4_city 79 = .ok (.ireturn, 1) := by decide +kernel
theorem dX4_count_0 : decode cX4_count 0 = .ok (.iload_n 1, 1) := by decide +kernel
theorem dX4_count_1 : decode cX4_count 1 = .ok (.tableswitch 135 0 9 #[55, 63, 71, 79, 87, 95, 103, 111, 119, 127], 55) := by decide +kernel
theorem dX4_count_56 : decode cX4_count 56 = .ok (.aload_n 0, 1) := by decide +kernel
theorem dX4_count_57 : decode cX4_count 57 = .ok (.getfield 10, 3) := by decide +kernel
theorem dX4_count_60 : decode cX4_count 60 = .ok (.getfield 122, 3) := by decide +kernel
theorem dX4_count_63 : decode cX4_count 63 = .ok (.ireturn, 1) := by decide +kernel
theorem dX4_count_64 : decode cX4_count 64 = .ok (.aload_n 0, 1) := by decide +kernel
theorem dX4_count_65 : decode cX4_count 65 = .ok (.getfield 10, 3) := by decide +kernel
theorem dX4_count_68 : decode cX4_count 68 = .ok (.getfield 125, 3) := by decide +kernel
theorem dX4_count_71 : decode cX4_count 71 = .ok (.ireturn, 1) := by decide +kernel
theorem dX4_count_72 : decode cX4_count 72 = .ok (.aload_n 0, 1) := by decide +kernel
theorem dX4_count_73 : decode cX4_count 73 = .ok (.getfield 10, 3) := by decide +kernel
theorem dX4_count_76 : decode cX4_count 76 = .ok (.getfield 61, 3) := by decide +kernel
theorem dX4_count_79 : decode cX4_count 79 = .ok (.ireturn, 1) := by decide +kernel
theorem dX4_count_80 : decode cX4_count 80 = .ok (.aload_n 0, 1) := by decide +kernel
theorem dX4_count_81 : decode cX4_count 81 = .ok (.getfield 10, 3) := by decide +kernel
theorem dX4_count_84 : decode cX4_count 84 = .ok (.getfield 128, 3) := by decide +kernel
theorem dX4_count_87 : decode cX4_count 87 = .ok (.ireturn, 1) := by decide +kernel
theorem dX4_count_88 : decode cX4_count 88 = .ok (.aload_n 0, 1) := by decide +kernel
theorem dX4_count_89 : decode cX4_count 89 = .ok (.getfield 10, 3) := by decide +kernel
theorem dX4_count_92 : decode cX4_count 92 = .ok (.getfield 131, 3) := by decide +kernel
theorem dX4_count_95 : decode cX4_count 95 = .ok (.ireturn, 1) := by decide +kernel
theorem dX4_count_96 : decode cX4_count 96 = .ok (.aload_n 0, 1) := by decide +kernel
theorem dX4_count_97 : decode cX4_count 97 = .ok (.getfield 10, 3) := by decide +kernel
theorem dX4_count_100 : decode cX4_count 100 = .ok (.getfield 134, 3) := by decide +kernel
theorem dX4_count_103 : decode cX4_count 103 = .ok (.ireturn, 1) := by decide +kernel
theorem dX4_count_104 : decode cX4_count 104 = .ok (.aload_n 0, 1) := by decide +kernel
theorem dX4_count_105 : decode cX4_count 105 = .ok (.getfield 10, 3) := by decide +kernel
theorem dX4_count_108 : decode cX4_count 108 = .ok (.getfield 137, 3) := by decide +kernel
theorem dX4_count_111 : decode cX4_count 111 = .ok (.ireturn, 1) := by decide +kernel
theorem dX4_count_112 : decode cX4_count 112 = .ok (.aload_n 0, 1) := by decide +kernel
theorem dX4_count_113 : decode cX4_count 113 = .ok (.getfield 10, 3) := by decide +kernel
theorem dX4_count_116 : decode cX4_count 116 = .ok (.getfield 140, 3) := by decide +kernel
theorem dX4_count_119 : decode cX4_count 119 = .ok (.ireturn, 1) := by decide +kernel
theorem dX4_count_120 : decode cX4_count 120 = .ok (.aload_n 0, 1) := by decide +kernel
theorem dX4_count_121 : decode cX4_count 121 = .ok (.getfield 10, 3) := by decide +kernel
theorem dX4_count_124 : decode cX4_count 124 = .ok (.invokevirtual 143, 3) := by decide +kernel
theorem dX4_count_127 : decode cX4_count 127 = .ok (.ireturn, 1) := by decide +kernel
theorem dX4_count_128 : decode cX4_count 128 = .ok (.aload_n 0, 1) := by decide +kernel
theorem dX4_count_129 : decode cX4_count 129 = .ok (.getfield 19, 3) := by decide +kernel
theorem dX4_count_132 : decode cX4_count 132 = .ok (.getfield 146, 3) := by decide +kernel
theorem dX4_count_135 : decode cX4_count 135 = .ok (.ireturn, 1) := by decide +kernel
theorem dX4_count_136 : decode cX4_count 136 = .ok (.iconst (-1), 1) := by decide +kernel
theorem dX4_count_137 : decode cX4_count 137 = .ok (.ireturn, 1) := by decide +kernel
theorem dX4_minutes_0 : decode cX4_minutes 0 = .ok (.iload_n 1, 1) := by decide +kernel
theorem dX4_minutes_1 : decode cX4_minutes 1 = .ok (.iconst 1, 1) := by decide +kernel
theorem dX4_minutes_2 : decode cX4_minutes 2 = .ok (.bipush 40, 2) := by decide +kernel
theorem dX4_minutes_4 : decode cX4_minutes 4 = .ok (.invokestatic 46, 3) := by decide +kernel
theorem dX4_minutes_7 : decode cX4_minutes 7 = .ok (.ifCond .eq 5, 3) := by decide +kernel
theorem dX4_minutes_10 : decode cX4_minutes 10 = .ok (.iconst (-1), 1) := by decide +kernel
theorem dX4_minutes_11 : decode cX4_minutes 11 = .ok (.ireturn, 1) := by decide +kernel
theorem dX4_minutes_12 : decode cX4_minutes 12 = .ok (.aload_n 0, 1) := by decide +kernel
theorem dX4_minutes_13 : decode cX4_minutes 13 = .ok (.getfield 10, 3) := by decide +kernel
theorem dX4_minutes_16 : decode cX4_minutes 16 = .ok (.getfield 131, 3) := by decide +kernel
theorem dX4_minutes_19 : decode cX4_minutes 19 = .ok (.iload_n 1, 1) := by decide +kernel
theorem dX4_minutes_20 : decode cX4_minutes 20 = .ok (.iadd, 1) := by decide +kernel
theorem dX4_minutes_21 : decode cX4_minutes 21 = .ok (.sipush 9999, 3) := by decide +kernel
theorem dX4_minutes_24 : decode cX4_minutes 24 = .ok (.if_icmp .le 6, 3) := by decide +kernel
theorem dX4_minutes_27 : decode cX4_minutes 27 = .ok (.bipush (-3), 2) := by decide +kernel
theorem dX4_minutes_29 : decode cX4_minutes 29 = .ok (.ireturn, 1) := by decide +kernel
theorem dX4_minutes_30 : decode cX4_minutes 30 = .ok (.iconst 0, 1) := by decide +kernel
theorem dX4_minutes_31 : decode cX4_minutes 31 = .ok (.istore_n 2, 1) := by decide +kernel
theorem dX4_minutes_32 : decode cX4_minutes 32 = .ok (.iload_n 2, 1) := by decide +kernel
theorem dX4_minutes_33 : decode cX4_minutes 33 = .ok (.iload_n 1, 1) := by decide +kernel
theorem dX4_minutes_34 : decode cX4_minutes 34 = .ok (.if_icmp .ge 28, 3) := by decide +kernel
theorem dX4_minutes_37 : decode cX4_minutes 37 = .ok (.aload_n 0, 1) := by decide +kernel
theorem dX4_minutes_38 : decode cX4_minutes 38 = .ok (.getfield 19, 3) := by decide +kernel
theorem dX4_minutes_41 : decode cX4_minutes 41 = .ok (.aload_n 0, 1) := by decide +kernel
theorem dX4_minutes_42 : decode cX4_minutes 42 = .ok (.getfield 10, 3) := by decide +kernel
theorem dX4_minutes_45 : decode cX4_minutes 45 = .ok (.invokevirtual 149, 3) := by decide +kernel
theorem dX4_minutes_48 : decode cX4_minutes 48 = .ok (.aload_n 0, 1) := by decide +kernel
theorem dX4_minutes_49 : decode cX4_minutes 49 = .ok (.getfield 10, 3) := by decide +kernel
theorem dX4_minutes_52 : decode cX4_minutes 52 = .ok (.invokevirtual 152, 3) := by decide +kernel
theorem dX4_minutes_55 : decode cX4_minutes 55 = .ok (.pop, 1) := by decide +kernel
theorem dX4_minutes_56 : decode cX4_minutes 56 = .ok (.iinc 2 1, 3) := by decide +kernel
theorem dX4_minutes_59 : decode cX4_minutes 59 = .ok (.goto (-27), 3) := by decide +kernel
theorem dX4_minutes_62 : decode cX4_minutes 62 = .ok (.aload_n 0, 1) := by decide +kernel
theorem dX4_minutes_63 : decode cX4_minutes 63 = .ok (.getfield 10, 3) := by decide +kernel
theorem dX4_minutes_66 : decode cX4_minutes 66 = .ok (.getfield 134, 3) := by decide +kernel
theorem dX4_minutes_69 : decode cX4_minutes 69 = .ok (.ireturn, 1) := by decide +kernel
theorem dX4_walk_0 : decode cX4_walk 0 = .ok (.aload_n 0, 1) := by decide +kernel
theorem dX4_walk_1 : decode cX4_walk 1 = .ok (.iload_n 1, 1) := by decide +kernel
theorem dX4_walk_2 : decode cX4_walk 2 = .ok (.invokevirtual 69, 3) := by decide +kernel
theorem dX4_walk_5 : decode cX4_walk 5 = .ok (.ifCond .ne 12, 3) := by decide +kernel
theorem dX4_walk_8 : decode cX4_walk 8 = .ok (.iload_n 2, 1) := by decide +kernel
theorem dX4_walk_9 : decode cX4_walk 9 = .ok (.iconst 0, 1) := by decide +kernel
theorem dX4_walk_10 : decode cX4_walk 10 = .ok (.iconst 3, 1) := by decide +kernel
theorem dX4_walk_11 : decode cX4_walk 11 = .ok (.invokestatic 46, 3) := by decide +kernel
theorem dX4_walk_14 : decode cX4_walk 14 = .ok (.ifCond .eq 5, 3) := by decide +kernel
theorem dX4_walk_17 : decode cX4_walk 17 = .ok (.iconst (-1), 1) := by decide +kernel
theorem dX4_walk_18 : decode cX4_walk 18 = .ok (.ireturn, 1) := by decide +kernel
theorem dX4_walk_19 : decode cX4_walk 19 = .ok (.aload_n 0, 1) := by decide +kernel
theorem dX4_walk_20 : decode cX4_walk 20 = .ok (.getfield 10, 3) := by decide +kernel
theorem dX4_walk_23 : decode cX4_walk 23 = .ok (.aload_n 0, 1) := by decide +kernel
theorem dX4_walk_24 : decode cX4_walk 24 = .ok (.getfield 10, 3) := by decide +kernel
theorem dX4_walk_27 : decode cX4_walk 27 = .ok (.getfield 77, 3) := by decide +kernel
theorem dX4_walk_30 : decode cX4_walk 30 = .ok (.iload_n 1, 1) := by decide +kernel
theorem dX4_walk_31 : decode cX4_walk 31 = .ok (.iaload, 1) := by decide +kernel
theorem dX4_walk_32 : decode cX4_walk 32 = .ok (.iload_n 2, 1) := by decide +kernel
theorem dX4_walk_33 : decode cX4_walk 33 = .ok (.invokevirtual 155, 3) := by decide +kernel
theorem dX4_walk_36 : decode cX4_walk 36 = .ok (.istore_n 3, 1) := by decide +kernel
theorem dX4_walk_37 : decode cX4_walk 37 = .ok (.aload_n 0, 1) := by decide +kernel
theorem dX4_walk_38 : decode cX4_walk 38 = .ok (.getfield 10, 3) := by decide +kernel
theorem dX4_walk_41 : decode cX4_walk 41 = .ok (.iload_n 1, 1) := by decide +kernel
theorem dX4_walk_42 : decode cX4_walk 42 = .ok (.invokevirtual 89, 3) := by decide +kernel
theorem dX4_walk_45 : decode cX4_walk 45 = .ok (.ifCond .eq 9, 3) := by decide +kernel
theorem dX4_walk_48 : decode cX4_walk 48 = .ok (.iload_n 3, 1) := by decide +kernel
theorem dX4_walk_49 : decode cX4_walk 49 = .ok (.bipush (-4), 2) := by decide +kernel
theorem dX4_walk_51 : decode cX4_walk 51 = .ok (.if_icmp .ne 6, 3) := by decide +kernel
theorem dX4_walk_54 : decode cX4_walk 54 = .ok (.bipush (-2), 2) := by decide +kernel
theorem dX4_walk_56 : decode cX4_walk 56 = .ok (.ireturn, 1) := by decide +kernel
theorem dX4_walk_57 : decode cX4_walk 57 = .ok (.aload_n 0, 1) := by decide +kernel
theorem dX4_walk_58 : decode cX4_walk 58 = .ok (.getfield 19, 3) := by decide +kernel
theorem dX4_walk_61 : decode cX4_walk 61 = .ok (.aload_n 0, 1) := by decide +kernel
theorem dX4_walk_62 : decode cX4_walk 62 = .ok (.getfield 10, 3) := by decide +kernel
theorem dX4_walk_65 : decode cX4_walk 65 = .ok (.invokevirtual 149, 3) := by decide +kernel
theorem dX4_walk_68 : decode cX4_walk 68 = .ok (.aload_n 0, 1) := by decide +kernel
theorem dX4_walk_69 : decode cX4_walk 69 = .ok (.getfield 10, 3) := by decide +kernel
theorem dX4_walk_72 : decode cX4_walk 72 = .ok (.getfield 77, 3) := by decide +kernel
theorem dX4_walk_75 : decode cX4_walk 75 = .ok (.iload_n 1, 1) := by decide +kernel
theorem dX4_walk_76 : decode cX4_walk 76 = .ok (.iload_n 3, 1) := by decide +kernel
theorem dX4_walk_77 : decode cX4_walk 77 = .ok (.iastore, 1) := by decide +kernel
theorem dX4_walk_78 : decode cX4_walk 78 = .ok (.iload_n 3, 1) := by decide +kernel
theorem dX4_walk_79 : decode cX4_walk 79 = .ok (.ireturn, 1) := by decide +kernel
theorem dX4_free_0 : decode cX4_free 0 = .ok (.aload_n 0, 1) := by decide +kernel
theorem dX4_free_1 : decode cX4_free 1 = .ok (.iload_n 1, 1) := by decide +kernel
theorem dX4_free_2 : decode cX4_free 2 = .ok (.invokevirtual 69, 3) := by decide +kernel
theorem dX4_free_5 : decode cX4_free 5 = .ok (.ifCond .eq 5, 3) := by decide +kernel
theorem dX4_free_8 : decode cX4_free 8 = .ok (.iconst (-1), 1) := by decide +kernel
theorem dX4_free_9 : decode cX4_free 9 = .ok (.ireturn, 1) := by decide +kernel
theorem dX4_free_10 : decode cX4_free 10 = .ok (.aload_n 0, 1) := by decide +kernel
theorem dX4_free_11 : decode cX4_free 11 = .ok (.getfield 10, 3) := by decide +kernel
theorem dX4_free_14 : decode cX4_free 14 = .ok (.iload_n 1, 1) := by decide +kernel
theorem dX4_free_15 : decode cX4_free 15 = .ok (.invokevirtual 89, 3) := by decide +kernel
theorem dX4_free_18 : decode cX4_free 18 = .ok (.ifCond .eq 6, 3) := by decide +kernel
theorem dX4_free_21 : decode cX4_free 21 = .ok (.bipush (-2), 2) := by decide +kernel
theorem dX4_free_23 : decode cX4_free 23 = .ok (.ireturn, 1) := by decide +kernel
theorem dX4_free_24 : decode cX4_free 24 = .ok (.aload_n 0, 1) := by decide +kernel
theorem dX4_free_25 : decode cX4_free 25 = .ok (.getfield 19, 3) := by decide +kernel
theorem dX4_free_28 : decode cX4_free 28 = .ok (.aload_n 0, 1) := by decide +kernel
theorem dX4_free_29 : decode cX4_free 29 = .ok (.getfield 10, 3) := by decide +kernel
theorem dX4_free_32 : decode cX4_free 32 = .ok (.invokevirtual 149, 3) := by decide +kernel
theorem dX4_free_35 : decode cX4_free 35 = .ok (.aload_n 0, 1) := by decide +kernel
theorem dX4_free_36 : decode cX4_free 36 = .ok (.getfield 10, 3) := by decide +kernel
theorem dX4_free_39 : decode cX4_free 39 = .ok (.dup, 1) := by decide +kernel
theorem dX4_free_40 : decode cX4_free 40 = .ok (.getfield 134, 3) := by decide +kernel
theorem dX4_free_43 : decode cX4_free 43 = .ok (.iconst 1, 1) := by decide +kernel
theorem dX4_free_44 : decode cX4_free 44 = .ok (.iload_n 1, 1) := by decide +kernel
theorem dX4_free_45 : decode cX4_free 45 = .ok (.ishl, 1) := by decide +kernel
theorem dX4_free_46 : decode cX4_free 46 = .ok (.iconst (-1), 1) := by decide +kernel
theorem dX4_free_47 : decode cX4_free 47 = .ok (.ixor, 1) := by decide +kernel
theorem dX4_free_48 : decode cX4_free 48 = .ok (.iand, 1) := by decide +kernel
theorem dX4_free_49 : decode cX4_free 49 = .ok (.putfield 134, 3) := by decide +kernel
theorem dX4_free_52 : decode cX4_free 52 = .ok (.aload_n 0, 1) := by decide +kernel
theorem dX4_free_53 : decode cX4_free 53 = .ok (.getfield 10, 3) := by decide +kernel
theorem dX4_free_56 : decode cX4_free 56 = .ok (.getfield 134, 3) := by decide +kernel
theorem dX4_free_59 : decode cX4_free 59 = .ok (.ireturn, 1) := by decide +kernel
theorem dX4_drift_0 : decode cX4_drift 0 = .ok (.iload_n 1, 1) := by decide +kernel
theorem dX4_drift_1 : decode cX4_drift 1 = .ok (.iconst 1, 1) := by decide +kernel
theorem dX4_drift_2 : decode cX4_drift 2 = .ok (.bipush 40, 2) := by decide +kernel
theorem dX4_drift_4 : decode cX4_drift 4 = .ok (.invokestatic 46, 3) := by decide +kernel
theorem dX4_drift_7 : decode cX4_drift 7 = .ok (.ifCond .eq 5, 3) := by decide +kernel
theorem dX4_drift_10 : decode cX4_drift 10 = .ok (.iconst (-1), 1) := by decide +kernel
theorem dX4_drift_11 : decode cX4_drift 11 = .ok (.ireturn, 1) := by decide +kernel
theorem dX4_drift_12 : decode cX4_drift 12 = .ok (.aload_n 0, 1) := by decide +kernel
theorem dX4_drift_13 : decode cX4_drift 13 = .ok (.getfield 10, 3) := by decide +kernel
theorem dX4_drift_16 : decode cX4_drift 16 = .ok (.getfield 61, 3) := by decide +kernel
theorem dX4_drift_19 : decode cX4_drift 19 = .ok (.ifCond .ne 6, 3) := by decide +kernel
theorem dX4_drift_22 : decode cX4_drift 22 = .ok (.bipush (-2), 2) := by decide +kernel
theorem dX4_drift_24 : decode cX4_drift 24 = .ok (.ireturn, 1) := by decide +kernel
theorem dX4_drift_25 : decode cX4_drift 25 = .ok (.aload_n 0, 1) := by decide +kernel
theorem dX4_drift_26 : decode cX4_drift 26 = .ok (.getfield 10, 3) := by decide +kernel
theorem dX4_drift_29 : decode cX4_drift 29 = .ok (.getfield 131, 3) := by decide +kernel
theorem dX4_drift_32 : decode cX4_drift 32 = .ok (.iload_n 1, 1) := by decide +kernel
theorem dX4_drift_33 : decode cX4_drift 33 = .ok (.iadd, 1) := by decide +kernel
theorem dX4_drift_34 : decode cX4_drift 34 = .ok (.sipush 9999, 3) := by decide +kernel
theorem dX4_drift_37 : decode cX4_drift 37 = .ok (.if_icmp .le 6, 3) := by decide +kernel
theorem dX4_drift_40 : decode cX4_drift 40 = .ok (.bipush (-3), 2) := by decide +kernel
theorem dX4_drift_42 : decode cX4_drift 42 = .ok (.ireturn, 1) := by decide +kernel
theorem dX4_drift_43 : decode cX4_drift 43 = .ok (.iconst 0, 1) := by decide +kernel
theorem dX4_drift_44 : decode cX4_drift 44 = .ok (.istore_n 2, 1) := by decide +kernel
theorem dX4_drift_45 : decode cX4_drift 45 = .ok (.iload_n 2, 1) := by decide +kernel
theorem dX4_drift_46 : decode cX4_drift 46 = .ok (.iload_n 1, 1) := by decide +kernel
theorem dX4_drift_47 : decode cX4_drift 47 = .ok (.if_icmp .ge 35, 3) := by decide +kernel
theorem dX4_drift_50 : decode cX4_drift 50 = .ok (.aload_n 0, 1) := by decide +kernel
theorem dX4_drift_51 : decode cX4_drift 51 = .ok (.getfield 19, 3) := by decide +kernel
theorem dX4_drift_54 : decode cX4_drift 54 = .ok (.aload_n 0, 1) := by decide +kernel
theorem dX4_drift_55 : decode cX4_drift 55 = .ok (.getfield 10, 3) := by decide +kernel
theorem dX4_drift_58 : decode cX4_drift 58 = .ok (.invokevirtual 149, 3) := by decide +kernel
theorem dX4_drift_61 : decode cX4_drift 61 = .ok (.aload_n 0, 1) := by decide +kernel
theorem dX4_drift_62 : decode cX4_drift 62 = .ok (.getfield 10, 3) := by decide +kernel
theorem dX4_drift_65 : decode cX4_drift 65 = .ok (.invokevirtual 159, 3) := by decide +kernel
theorem dX4_drift_68 : decode cX4_drift 68 = .ok (.aload_n 0, 1) := by decide +kernel
theorem dX4_drift_69 : decode cX4_drift 69 = .ok (.getfield 10, 3) := by decide +kernel
theorem dX4_drift_72 : decode cX4_drift 72 = .ok (.invokevirtual 152, 3) := by decide +kernel
theorem dX4_drift_75 : decode cX4_drift 75 = .ok (.pop, 1) := by decide +kernel
theorem dX4_drift_76 : decode cX4_drift 76 = .ok (.iinc 2 1, 3) := by decide +kernel
theorem dX4_drift_79 : decode cX4_drift 79 = .ok (.goto (-34), 3) := by decide +kernel
theorem dX4_drift_82 : decode cX4_drift 82 = .ok (.aload_n 0, 1) := by decide +kernel
theorem dX4_drift_83 : decode cX4_drift 83 = .ok (.getfield 10, 3) := by decide +kernel
theorem dX4_drift_86 : decode cX4_drift 86 = .ok (.getfield 134, 3) := by decide +kernel
theorem dX4_drift_89 : decode cX4_drift 89 = .ok (.ireturn, 1) := by decide +kernel
theorem dX4_undo_0 : decode cX4_undo 0 = .ok (.aload_n 0, 1) := by decide +kernel
theorem dX4_undo_1 : decode cX4_undo 1 = .ok (.getfield 19, 3) := by decide +kernel
theorem dX4_undo_4 : decode cX4_undo 4 = .ok (.getfield 146, 3) := by decide +kernel
theorem dX4_undo_7 : decode cX4_undo 7 = .ok (.ifCond .ne 6, 3) := by decide +kernel
theorem dX4_undo_10 : decode cX4_undo 10 = .ok (.bipush (-4), 2) := by decide +kernel
theorem dX4_undo_12 : decode cX4_undo 12 = .ok (.ireturn, 1) := by decide +kernel
theorem dX4_undo_13 : decode cX4_undo 13 = .ok (.aload_n 0, 1) := by decide +kernel
theorem dX4_undo_14 : decode cX4_undo 14 = .ok (.getfield 19, 3) := by decide +kernel
theorem dX4_undo_17 : decode cX4_undo 17 = .ok (.aload_n 0, 1) := by decide +kernel
theorem dX4_undo_18 : decode cX4_undo 18 = .ok (.getfield 10, 3) := by decide +kernel
theorem dX4_undo_21 : decode cX4_undo 21 = .ok (.invokevirtual 162, 3) := by decide +kernel
theorem dX4_undo_24 : decode cX4_undo 24 = .ok (.aload_n 0, 1) := by decide +kernel
theorem dX4_undo_25 : decode cX4_undo 25 = .ok (.getfield 19, 3) := by decide +kernel
theorem dX4_undo_28 : decode cX4_undo 28 = .ok (.getfield 146, 3) := by decide +kernel
theorem dX4_undo_31 : decode cX4_undo 31 = .ok (.ireturn, 1) := by decide +kernel
theorem dX4_seed_0 : decode cX4_seed 0 = .ok (.iload_n 1, 1) := by decide +kernel
theorem dX4_seed_1 : decode cX4_seed 1 = .ok (.ifCond .ge 5, 3) := by decide +kernel
theorem dX4_seed_4 : decode cX4_seed 4 = .ok (.iconst (-1), 1) := by decide +kernel
theorem dX4_seed_5 : decode cX4_seed 5 = .ok (.ireturn, 1) := by decide +kernel
theorem dX4_seed_6 : decode cX4_seed 6 = .ok (.aload_n 0, 1) := by decide +kernel
theorem dX4_seed_7 : decode cX4_seed 7 = .ok (.getfield 10, 3) := by decide +kernel
theorem dX4_seed_10 : decode cX4_seed 10 = .ok (.getfield 165, 3) := by decide +kernel
theorem dX4_seed_13 : decode cX4_seed 13 = .ok (.istore_n 2, 1) := by decide +kernel
theorem dX4_seed_14 : decode cX4_seed 14 = .ok (.aload_n 0, 1) := by decide +kernel
theorem dX4_seed_15 : decode cX4_seed 15 = .ok (.getfield 10, 3) := by decide +kernel
theorem dX4_seed_18 : decode cX4_seed 18 = .ok (.iload_n 1, 1) := by decide +kernel
theorem dX4_seed_19 : decode cX4_seed 19 = .ok (.putfield 165, 3) := by decide +kernel
theorem dX4_seed_22 : decode cX4_seed 22 = .ok (.iload_n 2, 1) := by decide +kernel
theorem dX4_seed_23 : decode cX4_seed 23 = .ok (.ireturn, 1) := by decide +kernel
theorem dX4_ahead_0 : decode cX4_ahead 0 = .ok (.iload_n 1, 1) := by decide +kernel
theorem dX4_ahead_1 : decode cX4_ahead 1 = .ok (.iconst 0, 1) := by decide +kernel
theorem dX4_ahead_2 : decode cX4_ahead 2 = .ok (.bipush 60, 2) := by decide +kernel
theorem dX4_ahead_4 : decode cX4_ahead 4 = .ok (.invokestatic 46, 3) := by decide +kernel
theorem dX4_ahead_7 : decode cX4_ahead 7 = .ok (.ifCond .ne 12, 3) := by decide +kernel
theorem dX4_ahead_10 : decode cX4_ahead 10 = .ok (.iload_n 2, 1) := by decide +kernel
theorem dX4_ahead_11 : decode cX4_ahead 11 = .ok (.iconst 0, 1) := by decide +kernel
theorem dX4_ahead_12 : decode cX4_ahead 12 = .ok (.iconst 3, 1) := by decide +kernel
theorem dX4_ahead_13 : decode cX4_ahead 13 = .ok (.invokestatic 46, 3) := by decide +kernel
theorem dX4_ahead_16 : decode cX4_ahead 16 = .ok (.ifCond .eq 5, 3) := by decide +kernel
theorem dX4_ahead_19 : decode cX4_ahead 19 = .ok (.iconst (-1), 1) := by decide +kernel
theorem dX4_ahead_20 : decode cX4_ahead 20 = .ok (.ireturn, 1) := by decide +kernel
theorem dX4_ahead_21 : decode cX4_ahead 21 = .ok (.aload_n 0, 1) := by decide +kernel
theorem dX4_ahead_22 : decode cX4_ahead 22 = .ok (.getfield 23, 3) := by decide +kernel
theorem dX4_ahead_25 : decode cX4_ahead 25 = .ok (.aload_n 0, 1) := by decide +kernel
theorem dX4_ahead_26 : decode cX4_ahead 26 = .ok (.getfield 10, 3) := by decide +kernel
theorem dX4_ahead_29 : decode cX4_ahead 29 = .ok (.invokevirtual 111, 3) := by decide +kernel
theorem dX4_ahead_32 : decode cX4_ahead 32 = .ok (.iconst 0, 1) := by decide +kernel
theorem dX4_ahead_33 : decode cX4_ahead 33 = .ok (.istore_n 3, 1) := by decide +kernel
theorem dX4_ahead_34 : decode cX4_ahead 34 = .ok (.iload_n 3, 1) := by decide +kernel
theorem dX4_ahead_35 : decode cX4_ahead 35 = .ok (.iload_n 1, 1) := by decide +kernel
theorem dX4_ahead_36 : decode cX4_ahead 36 = .ok (.if_icmp .ge 17, 3) := by decide +kernel
theorem dX4_ahead_39 : decode cX4_ahead 39 = .ok (.aload_n 0, 1) := by decide +kernel
theorem dX4_ahead_40 : decode cX4_ahead 40 = .ok (.getfield 23, 3) := by decide +kernel
theorem dX4_ahead_43 : decode cX4_ahead 43 = .ok (.invokevirtual 152, 3) := by decide +kernel
theorem dX4_ahead_46 : decode cX4_ahead 46 = .ok (.pop, 1) := by decide +kernel
theorem dX4_ahead_47 : decode cX4_ahead 47 = .ok (.iinc 3 1, 3) := by decide +kernel
theorem dX4_ahead_50 : decode cX4_ahead 50 = .ok (.goto (-16), 3) := by decide +kernel
theorem dX4_ahead_53 : decode cX4_ahead 53 = .ok (.iload_n 2, 1) := by decide +kernel
theorem dX4_ahead_54 : decode cX4_ahead 54 = .ok (.tableswitch 50 0 2 #[26, 34, 42], 26) := by decide +kernel
theorem dX4_ahead_80 : decode cX4_ahead 80 = .ok (.aload_n 0, 1) := by decide +kernel
theorem dX4_ahead_81 : decode cX4_ahead 81 = .ok (.getfield 23, 3) := by decide +kernel
theorem dX4_ahead_84 : decode cX4_ahead 84 = .ok (.getfield 128, 3) := by decide +kernel
theorem dX4_ahead_87 : decode cX4_ahead 87 = .ok (.ireturn, 1) := by decide +kernel
theorem dX4_ahead_88 : decode cX4_ahead 88 = .ok (.aload_n 0, 1) := by decide +kernel
theorem dX4_ahead_89 : decode cX4_ahead 89 = .ok (.getfield 23, 3) := by decide +kernel
theorem dX4_ahead_92 : decode cX4_ahead 92 = .ok (.getfield 134, 3) := by decide +kernel
theorem dX4_ahead_95 : decode cX4_ahead 95 = .ok (.ireturn, 1) := by decide +kernel
theorem dX4_ahead_96 : decode cX4_ahead 96 = .ok (.aload_n 0, 1) := by decide +kernel
theorem dX4_ahead_97 : decode cX4_ahead 97 = .ok (.getfield 23, 3) := by decide +kernel
theorem dX4_ahead_100 : decode cX4_ahead 100 = .ok (.getfield 137, 3) := by decide +kernel
theorem dX4_ahead_103 : decode cX4_ahead 103 = .ok (.ireturn, 1) := by decide +kernel
theorem dX4_ahead_104 : decode cX4_ahead 104 = .ok (.aload_n 0, 1) := by decide +kernel
theorem dX4_ahead_105 : decode cX4_ahead 105 = .ok (.getfield 23, 3) := by decide +kernel
theorem dX4_ahead_108 : decode cX4_ahead 108 = .ok (.getfield 140, 3) := by decide +kernel
theorem dX4_ahead_111 : decode cX4_ahead 111 = .ok (.ireturn, 1) := by decide +kernel
theorem dX4_next_0 : decode cX4_next 0 = .ok (.iload_n 1, 1) := by decide +kernel
theorem dX4_next_1 : decode cX4_next 1 = .ok (.iconst 0, 1) := by decide +kernel
theorem dX4_next_2 : decode cX4_next 2 = .ok (.iconst 2, 1) := by decide +kernel
theorem dX4_next_3 : decode cX4_next 3 = .ok (.invokestatic 46, 3) := by decide +kernel
theorem dX4_next_6 : decode cX4_next 6 = .ok (.ifCond .eq 5, 3) := by decide +kernel
theorem dX4_next_9 : decode cX4_next 9 = .ok (.iconst (-1), 1) := by decide +kernel
theorem dX4_next_10 : decode cX4_next 10 = .ok (.ireturn, 1) := by decide +kernel
theorem dX4_next_11 : decode cX4_next 11 = .ok (.aload_n 0, 1) := by decide +kernel
theorem dX4_next_12 : decode cX4_next 12 = .ok (.getfield 23, 3) := by decide +kernel
theorem dX4_next_15 : decode cX4_next 15 = .ok (.aload_n 0, 1) := by decide +kernel
theorem dX4_next_16 : decode cX4_next 16 = .ok (.getfield 10, 3) := by decide +kernel
theorem dX4_next_19 : decode cX4_next 19 = .ok (.invokevirtual 111, 3) := by decide +kernel
theorem dX4_next_22 : decode cX4_next 22 = .ok (.aload_n 0, 1) := by decide +kernel
theorem dX4_next_23 : decode cX4_next 23 = .ok (.getfield 23, 3) := by decide +kernel
theorem dX4_next_26 : decode cX4_next 26 = .ok (.invokevirtual 168, 3) := by decide +kernel
theorem dX4_next_29 : decode cX4_next 29 = .ok (.istore_n 2, 1) := by decide +kernel
theorem dX4_next_30 : decode cX4_next 30 = .ok (.iload_n 2, 1) := by decide +kernel
theorem dX4_next_31 : decode cX4_next 31 = .ok (.bipush (-4), 2) := by decide +kernel
theorem dX4_next_33 : decode cX4_next 33 = .ok (.if_icmp .eq 7, 3) := by decide +kernel
theorem dX4_next_36 : decode cX4_next 36 = .ok (.iload_n 1, 1) := by decide +kernel
theorem dX4_next_37 : decode cX4_next 37 = .ok (.ifCond .ne 5, 3) := by decide +kernel
theorem dX4_next_40 : decode cX4_next 40 = .ok (.iload_n 2, 1) := by decide +kernel
theorem dX4_next_41 : decode cX4_next 41 = .ok (.ireturn, 1) := by decide +kernel
theorem dX4_next_42 : decode cX4_next 42 = .ok (.iload_n 1, 1) := by decide +kernel
theorem dX4_next_43 : decode cX4_next 43 = .ok (.iconst 1, 1) := by decide +kernel
theorem dX4_next_44 : decode cX4_next 44 = .ok (.if_icmp .ne 21, 3) := by decide +kernel
theorem dX4_next_47 : decode cX4_next 47 = .ok (.aload_n 0, 1) := by decide +kernel
theorem dX4_next_48 : decode cX4_next 48 = .ok (.getfield 23, 3) := by decide +kernel
theorem dX4_next_51 : decode cX4_next 51 = .ok (.getfield 131, 3) := by decide +kernel
theorem dX4_next_54 : decode cX4_next 54 = .ok (.aload_n 0, 1) := by decide +kernel
theorem dX4_next_55 : decode cX4_next 55 = .ok (.getfield 10, 3) := by decide +kernel
theorem dX4_next_58 : decode cX4_next 58 = .ok (.getfield 131, 3) := by decide +kernel
theorem dX4_next_61 : decode cX4_next 61 = .ok (.isub, 1) := by decide +kernel
theorem dX4_next_62 : decode cX4_next 62 = .ok (.goto 18, 3) := by decide +kernel
theorem dX4_next_65 : decode cX4_next 65 = .ok (.aload_n 0, 1) := by decide +kernel
theorem dX4_next_66 : decode cX4_next 66 = .ok (.getfield 23, 3) := by decide +kernel
theorem dX4_next_69 : decode cX4_next 69 = .ok (.aload_n 0, 1) := by decide +kernel
theorem dX4_next_70 : decode cX4_next 70 = .ok (.getfield 23, 3) := by decide +kernel
theorem dX4_next_73 : decode cX4_next 73 = .ok (.iload_n 2, 1) := by decide +kernel
theorem dX4_next_74 : decode cX4_next 74 = .ok (.invokevirtual 99, 3) := by decide +kernel
theorem dX4_next_77 : decode cX4_next 77 = .ok (.invokevirtual 102, 3) := by decide +kernel
theorem dX4_next_80 : decode cX4_next 80 = .ok (.ireturn, 1) := by decide +kernel
theorem dX4_stand_0 : decode cX4_stand 0 = .ok (.aload_n 0, 1) := by decide +kernel
theorem dX4_stand_1 : decode cX4_stand 1 = .ok (.iload_n 1, 1) := by decide +kernel
theorem dX4_stand_2 : decode cX4_stand 2 = .ok (.invokevirtual 69, 3) := by decide +kernel
theorem dX4_stand_5 : decode cX4_stand 5 = .ok (.ifCond .ne 12, 3) := by decide +kernel
theorem dX4_stand_8 : decode cX4_stand 8 = .ok (.iload_n 2, 1) := by decide +kernel
theorem dX4_stand_9 : decode cX4_stand 9 = .ok (.iconst 0, 1) := by decide +kernel
theorem dX4_stand_10 : decode cX4_stand 10 = .ok (.iconst 1, 1) := by decide +kernel
theorem dX4_stand_11 : decode cX4_stand 11 = .ok (.invokestatic 46, 3) := by decide +kernel
theorem dX4_stand_14 : decode cX4_stand 14 = .ok (.ifCond .eq 5, 3) := by decide +kernel
theorem dX4_stand_17 : decode cX4_stand 17 = .ok (.iconst (-1), 1) := by decide +kernel
theorem dX4_stand_18 : decode cX4_stand 18 = .ok (.ireturn, 1) := by decide +kernel
theorem dX4_stand_19 : decode cX4_stand 19 = .ok (.aload_n 0, 1) := by decide +kernel
theorem dX4_stand_20 : decode cX4_stand 20 = .ok (.getfield 10, 3) := by decide +kernel
theorem dX4_stand_23 : decode cX4_stand 23 = .ok (.iload_n 1, 1) := by decide +kernel
theorem dX4_stand_24 : decode cX4_stand 24 = .ok (.invokevirtual 89, 3) := by decide +kernel
theorem dX4_stand_27 : decode cX4_stand 27 = .ok (.ifCond .ne 6, 3) := by decide +kernel
theorem dX4_stand_30 : decode cX4_stand 30 = .ok (.bipush (-2), 2) := by decide +kernel
theorem dX4_stand_32 : decode cX4_stand 32 = .ok (.ireturn, 1) := by decide +kernel
theorem dX4_stand_33 : decode cX4_stand 33 = .ok (.iconst 0, 1) := by decide +kernel
theorem dX4_stand_34 : decode cX4_stand 34 = .ok (.istore_n 3, 1) := by decide +kernel
theorem dX4_stand_35 : decode cX4_stand 35 = .ok (.iconst 0, 1) := by decide +kernel
theorem dX4_stand_36 : decode cX4_stand 36 = .ok (.istore 4, 2) := by decide +kernel
theorem dX4_stand_38 : decode cX4_stand 38 = .ok (.iconst 0, 1) := by decide +kernel
theorem dX4_stand_39 : decode cX4_stand 39 = .ok (.istore 5, 2) := by decide +kernel
theorem dX4_stand_41 : decode cX4_stand 41 = .ok (.iload 5, 2) := by decide +kernel
theorem dX4_stand_43 : decode cX4_stand 43 = .ok (.aload_n 0, 1) := by decide +kernel
theorem dX4_stand_44 : decode cX4_stand 44 = .ok (.getfield 10, 3) := by decide +kernel
theorem dX4_stand_47 : decode cX4_stand 47 = .ok (.invokevirtual 57, 3) := by decide +kernel
theorem dX4_stand_50 : decode cX4_stand 50 = .ok (.if_icmp .ge 57, 3) := by decide +kernel
theorem dX4_stand_53 : decode cX4_stand 53 = .ok (.aload_n 0, 1) := by decide +kernel
theorem dX4_stand_54 : decode cX4_stand 54 = .ok (.getfield 23, 3) := by decide +kernel
theorem dX4_stand_57 : decode cX4_stand 57 = .ok (.aload_n 0, 1) := by decide +kernel
theorem dX4_stand_58 : decode cX4_stand 58 = .ok (.getfield 10, 3) := by decide +kernel
theorem dX4_stand_61 : decode cX4_stand 61 = .ok (.invokevirtual 111, 3) := by decide +kernel
theorem dX4_stand_64 : decode cX4_stand 64 = .ok (.aload_n 0, 1) := by decide +kernel
theorem dX4_stand_65 : decode cX4_stand 65 = .ok (.getfield 23, 3) := by decide +kernel
theorem dX4_stand_68 : decode cX4_stand 68 = .ok (.getfield 77, 3) := by decide +kernel
theorem dX4_stand_71 : decode cX4_stand 71 = .ok (.iload_n 1, 1) := by decide +kernel
theorem dX4_stand_72 : decode cX4_stand 72 = .ok (.iload 5, 2) := by decide +kernel
theorem dX4_stand_74 : decode cX4_stand 74 = .ok (.iastore, 1) := by decide +kernel
theorem dX4_stand_75 : decode cX4_stand 75 = .ok (.aload_n 0, 1) := by decide +kernel
theorem dX4_stand_76 : decode cX4_stand 76 = .ok (.getfield 23, 3) := by decide +kernel
theorem dX4_stand_79 : decode cX4_stand 79 = .ok (.iload_n 1, 1) := by decide +kernel
theorem dX4_stand_80 : decode cX4_stand 80 = .ok (.bipush 60, 2) := by decide +kernel
theorem dX4_stand_82 : decode cX4_stand 82 = .ok (.invokevirtual 171, 3) := by decide +kernel
theorem dX4_stand_85 : decode cX4_stand 85 = .ok (.istore 6, 2) := by decide +kernel
theorem dX4_stand_87 : decode cX4_stand 87 = .ok (.iload 6, 2) := by decide +kernel
theorem dX4_stand_89 : decode cX4_stand 89 = .ok (.iload 4, 2) := by decide +kernel
theorem dX4_stand_91 : decode cX4_stand 91 = .ok (.if_icmp .le 10, 3) := by decide +kernel
theorem dX4_stand_94 : decode cX4_stand 94 = .ok (.iload 6, 2) := by decide +kernel
theorem dX4_stand_96 : decode cX4_stand 96 = .ok (.istore 4, 2) := by decide +kernel
theorem dX4_stand_98 : decode cX4_stand 98 = .ok (.iload 5, 2) := by decide +kernel
theorem dX4_stand_100 : decode cX4_stand 100 = .ok (.istore_n 3, 1) := by decide +kernel
theorem dX4_stand_101 : decode cX4_stand 101 = .ok (.iinc 5 1, 3) := by decide +kernel
theorem dX4_stand_104 : decode cX4_stand 104 = .ok (.goto (-63), 3) := by decide +kernel
theorem dX4_stand_107 : decode cX4_stand 107 = .ok (.iload_n 2, 1) := by decide +kernel
theorem dX4_stand_108 : decode cX4_stand 108 = .ok (.ifCond .ne 7, 3) := by decide +kernel
theorem dX4_stand_111 : decode cX4_stand 111 = .ok (.iload_n 3, 1) := by decide +kernel
theorem dX4_stand_112 : decode cX4_stand 112 = .ok (.goto 5, 3) := by decide +kernel
theorem dX4_stand_115 : decode cX4_stand 115 = .ok (.iload 4, 2) := by decide +kernel
theorem dX4_stand_117 : decode cX4_stand 117 = .ok (.ireturn, 1) := by decide +kernel
theorem dX4_hush_0 : decode cX4_hush 0 = .ok (.aload_n 0, 1) := by decide +kernel
theorem dX4_hush_1 : decode cX4_hush 1 = .ok (.iload_n 1, 1) := by decide +kernel
theorem dX4_hush_2 : decode cX4_hush 2 = .ok (.invokevirtual 69, 3) := by decide +kernel
theorem dX4_hush_5 : decode cX4_hush 5 = .ok (.ifCond .ne 13, 3) := by decide +kernel
theorem dX4_hush_8 : decode cX4_hush 8 = .ok (.iload_n 2, 1) := by decide +kernel
theorem dX4_hush_9 : decode cX4_hush 9 = .ok (.iconst 1, 1) := by decide +kernel
theorem dX4_hush_10 : decode cX4_hush 10 = .ok (.bipush 60, 2) := by decide +kernel
theorem dX4_hush_12 : decode cX4_hush 12 = .ok (.invokestatic 46, 3) := by decide +kernel
theorem dX4_hush_15 : decode cX4_hush 15 = .ok (.ifCond .eq 5, 3) := by decide +kernel
theorem dX4_hush_18 : decode cX4_hush 18 = .ok (.iconst (-1), 1) := by decide +kernel
theorem dX4_hush_19 : decode cX4_hush 19 = .ok (.ireturn, 1) := by decide +kernel
theorem dX4_hush_20 : decode cX4_hush 20 = .ok (.aload_n 0, 1) := by decide +kernel
theorem dX4_hush_21 : decode cX4_hush 21 = .ok (.getfield 10, 3) := by decide +kernel
theorem dX4_hush_24 : decode cX4_hush 24 = .ok (.iload_n 1, 1) := by decide +kernel
theorem dX4_hush_25 : decode cX4_hush 25 = .ok (.invokevirtual 89, 3) := by decide +kernel
theorem dX4_hush_28 : decode cX4_hush 28 = .ok (.ifCond .ne 6, 3) := by decide +kernel
theorem dX4_hush_31 : decode cX4_hush 31 = .ok (.bipush (-2), 2) := by decide +kernel
theorem dX4_hush_33 : decode cX4_hush 33 = .ok (.ireturn, 1) := by decide +kernel
theorem dX4_hush_34 : decode cX4_hush 34 = .ok (.iconst 0, 1) := by decide +kernel
theorem dX4_hush_35 : decode cX4_hush 35 = .ok (.istore_n 3, 1) := by decide +kernel
theorem dX4_hush_36 : decode cX4_hush 36 = .ok (.iload_n 3, 1) := by decide +kernel
theorem dX4_hush_37 : decode cX4_hush 37 = .ok (.aload_n 0, 1) := by decide +kernel
theorem dX4_hush_38 : decode cX4_hush 38 = .ok (.getfield 10, 3) := by decide +kernel
theorem dX4_hush_41 : decode cX4_hush 41 = .ok (.getfield 80, 3) := by decide +kernel
theorem dX4_hush_44 : decode cX4_hush 44 = .ok (.iload_n 1, 1) := by decide +kernel
theorem dX4_hush_45 : decode cX4_hush 45 = .ok (.iaload, 1) := by decide +kernel
theorem dX4_hush_46 : decode cX4_hush 46 = .ok (.if_icmp .gt 48, 3) := by decide +kernel
theorem dX4_hush_49 : decode cX4_hush 49 = .ok (.aload_n 0, 1) := by decide +kernel
theorem dX4_hush_50 : decode cX4_hush 50 = .ok (.getfield 23, 3) := by decide +kernel
theorem dX4_hush_53 : decode cX4_hush 53 = .ok (.aload_n 0, 1) := by decide +kernel
theorem dX4_hush_54 : decode cX4_hush 54 = .ok (.getfield 10, 3) := by decide +kernel
theorem dX4_hush_57 : decode cX4_hush 57 = .ok (.invokevirtual 111, 3) := by decide +kernel
theorem dX4_hush_60 : decode cX4_hush 60 = .ok (.aload_n 0, 1) := by decide +kernel
theorem dX4_hush_61 : decode cX4_hush 61 = .ok (.getfield 23, 3) := by decide +kernel
theorem dX4_hush_64 : decode cX4_hush 64 = .ok (.getfield 80, 3) := by decide +kernel
theorem dX4_hush_67 : decode cX4_hush 67 = .ok (.iload_n 1, 1) := by decide +kernel
theorem dX4_hush_68 : decode cX4_hush 68 = .ok (.dup2, 1) := by decide +kernel
theorem dX4_hush_69 : decode cX4_hush 69 = .ok (.iaload, 1) := by decide +kernel
theorem dX4_hush_70 : decode cX4_hush 70 = .ok (.iload_n 3, 1) := by decide +kernel
theorem dX4_hush_71 : decode cX4_hush 71 = .ok (.isub, 1) := by decide +kernel
theorem dX4_hush_72 : decode cX4_hush 72 = .ok (.iastore, 1) := by decide +kernel
theorem dX4_hush_73 : decode cX4_hush 73 = .ok (.aload_n 0, 1) := by decide +kernel
theorem dX4_hush_74 : decode cX4_hush 74 = .ok (.getfield 23, 3) := by decide +kernel
theorem dX4_hush_77 : decode cX4_hush 77 = .ok (.iload_n 1, 1) := by decide +kernel
theorem dX4_hush_78 : decode cX4_hush 78 = .ok (.iload_n 2, 1) := by decide +kernel
theorem dX4_hush_79 : decode cX4_hush 79 = .ok (.invokevirtual 171, 3) := by decide +kernel
theorem dX4_hush_82 : decode cX4_hush 82 = .ok (.iload_n 2, 1) := by decide +kernel
theorem dX4_hush_83 : decode cX4_hush 83 = .ok (.if_icmp .le 5, 3) := by decide +kernel
theorem dX4_hush_86 : decode cX4_hush 86 = .ok (.iload_n 3, 1) := by decide +kernel
theorem dX4_hush_87 : decode cX4_hush 87 = .ok (.ireturn, 1) := by decide +kernel
theorem dX4_hush_88 : decode cX4_hush 88 = .ok (.iinc 3 1, 3) := by decide +kernel
theorem dX4_hush_91 : decode cX4_hush 91 = .ok (.goto (-55), 3) := by decide +kernel
theorem dX4_hush_94 : decode cX4_hush 94 = .ok (.bipush (-4), 2) := by decide +kernel
theorem dX4_hush_96 : decode cX4_hush 96 = .ok (.ireturn, 1) := by decide +kernel
theorem dX4_mask_0 : decode cX4_mask 0 = .ok (.aload_n 0, 1) := by decide +kernel
theorem dX4_mask_1 : decode cX4_mask 1 = .ok (.iload_n 1, 1) := by decide +kernel
theorem dX4_mask_2 : decode cX4_mask 2 = .ok (.invokevirtual 69, 3) := by decide +kernel
theorem dX4_mask_5 : decode cX4_mask 5 = .ok (.ifCond .ne 12, 3) := by decide +kernel
theorem dX4_mask_8 : decode cX4_mask 8 = .ok (.iload_n 2, 1) := by decide +kernel
theorem dX4_mask_9 : decode cX4_mask 9 = .ok (.iconst 0, 1) := by decide +kernel
theorem dX4_mask_10 : decode cX4_mask 10 = .ok (.iconst 1, 1) := by decide +kernel
theorem dX4_mask_11 : decode cX4_mask 11 = .ok (.invokestatic 46, 3) := by decide +kernel
theorem dX4_mask_14 : decode cX4_mask 14 = .ok (.ifCond .eq 5, 3) := by decide +kernel
theorem dX4_mask_17 : decode cX4_mask 17 = .ok (.iconst (-1), 1) := by decide +kernel
theorem dX4_mask_18 : decode cX4_mask 18 = .ok (.ireturn, 1) := by decide +kernel
theorem dX4_mask_19 : decode cX4_mask 19 = .ok (.bipush 7, 2) := by decide +kernel
theorem dX4_mask_21 : decode cX4_mask 21 = .ok (.istore_n 3, 1) := by decide +kernel
theorem dX4_mask_22 : decode cX4_mask 22 = .ok (.bipush (-4), 2) := by decide +kernel
theorem dX4_mask_24 : decode cX4_mask 24 = .ok (.istore 4, 2) := by decide +kernel
theorem dX4_mask_26 : decode cX4_mask 26 = .ok (.iconst 0, 1) := by decide +kernel
theorem dX4_mask_27 : decode cX4_mask 27 = .ok (.istore 5, 2) := by decide +kernel
theorem dX4_mask_29 : decode cX4_mask 29 = .ok (.iload 5, 2) := by decide +kernel
theorem dX4_mask_31 : decode cX4_mask 31 = .ok (.bipush 63, 2) := by decide +kernel
theorem dX4_mask_33 : decode cX4_mask 33 = .ok (.if_icmp .gt 51, 3) := by decide +kernel
theorem dX4_mask_36 : decode cX4_mask 36 = .ok (.iload 5, 2) := by decide +kernel
theorem dX4_mask_38 : decode cX4_mask 38 = .ok (.invokestatic 174, 3) := by decide +kernel
theorem dX4_mask_41 : decode cX4_mask 41 = .ok (.istore 6, 2) := by decide +kernel
theorem dX4_mask_43 : decode cX4_mask 43 = .ok (.iload 6, 2) := by decide +kernel
theorem dX4_mask_45 : decode cX4_mask 45 = .ok (.iload_n 3, 1) := by decide +kernel
theorem dX4_mask_46 : decode cX4_mask 46 = .ok (.if_icmp .ge 32, 3) := by decide +kernel
theorem dX4_mask_49 : decode cX4_mask 49 = .ok (.aload_n 0, 1) := by decide +kernel
theorem dX4_mask_50 : decode cX4_mask 50 = .ok (.getfield 10, 3) := by decide +kernel
theorem dX4_mask_53 : decode cX4_mask 53 = .ok (.aload_n 0, 1) := by decide +kernel
theorem dX4_mask_54 : decode cX4_mask 54 = .ok (.getfield 10, 3) := by decide +kernel
theorem dX4_mask_57 : decode cX4_mask 57 = .ok (.iload_n 1, 1) := by decide +kernel
theorem dX4_mask_58 : decode cX4_mask 58 = .ok (.invokevirtual 99, 3) := by decide +kernel
theorem dX4_mask_61 : decode cX4_mask 61 = .ok (.iload 5, 2) := by decide +kernel
theorem dX4_mask_63 : decode cX4_mask 63 = .ok (.ixor, 1) := by decide +kernel
theorem dX4_mask_64 : decode cX4_mask 64 = .ok (.invokevirtual 102, 3) := by decide +kernel
theorem dX4_mask_67 : decode cX4_mask 67 = .ok (.iload_n 1, 1) := by decide +kernel
theorem dX4_mask_68 : decode cX4_mask 68 = .ok (.if_icmp .eq 10, 3) := by decide +kernel
theorem dX4_mask_71 : decode cX4_mask 71 = .ok (.iload 6, 2) := by decide +kernel
theorem dX4_mask_73 : decode cX4_mask 73 = .ok (.istore_n 3, 1) := by decide +kernel
theorem dX4_mask_74 : decode cX4_mask 74 = .ok (.iload 5, 2) := by decide +kernel
theorem dX4_mask_76 : decode cX4_mask 76 = .ok (.istore 4, 2) := by decide +kernel
theorem dX4_mask_78 : decode cX4_mask 78 = .ok (.iinc 5 1, 3) := by decide +kernel
theorem dX4_mask_81 : decode cX4_mask 81 = .ok (.goto (-52), 3) := by decide +kernel
theorem dX4_mask_84 : decode cX4_mask 84 = .ok (.iload_n 2, 1) := by decide +kernel
theorem dX4_mask_85 : decode cX4_mask 85 = .ok (.ifCond .ne 14, 3) := by decide +kernel
theorem dX4_mask_88 : decode cX4_mask 88 = .ok (.iload 4, 2) := by decide +kernel
theorem dX4_mask_90 : decode cX4_mask 90 = .ok (.bipush (-4), 2) := by decide +kernel
theorem dX4_mask_92 : decode cX4_mask 92 = .ok (.if_icmp .eq 7, 3) := by decide +kernel
theorem dX4_mask_95 : decode cX4_mask 95 = .ok (.iload_n 3, 1) := by decide +kernel
theorem dX4_mask_96 : decode cX4_mask 96 = .ok (.goto 5, 3) := by decide +kernel
theorem dX4_mask_99 : decode cX4_mask 99 = .ok (.iload 4, 2) := by decide +kernel
theorem dX4_mask_101 : decode cX4_mask 101 = .ok (.ireturn, 1) := by decide +kernel
theorem dX4_alike_0 : decode cX4_alike 0 = .ok (.iload_n 1, 1) := by decide +kernel
theorem dX4_alike_1 : decode cX4_alike 1 = .ok (.iconst 0, 1) := by decide +kernel
theorem dX4_alike_2 : decode cX4_alike 2 = .ok (.bipush 6, 2) := by decide +kernel
theorem dX4_alike_4 : decode cX4_alike 4 = .ok (.invokestatic 46, 3) := by decide +kernel
theorem dX4_alike_7 : decode cX4_alike 7 = .ok (.ifCond .ne 12, 3) := by decide +kernel
theorem dX4_alike_10 : decode cX4_alike 10 = .ok (.iload_n 2, 1) := by decide +kernel
theorem dX4_alike_11 : decode cX4_alike 11 = .ok (.iconst 0, 1) := by decide +kernel
theorem dX4_alike_12 : decode cX4_alike 12 = .ok (.iconst 1, 1) := by decide +kernel
theorem dX4_alike_13 : decode cX4_alike 13 = .ok (.invokestatic 46, 3) := by decide +kernel
theorem dX4_alike_16 : decode cX4_alike 16 = .ok (.ifCond .eq 5, 3) := by decide +kernel
theorem dX4_alike_19 : decode cX4_alike 19 = .ok (.iconst (-1), 1) := by decide +kernel
theorem dX4_alike_20 : decode cX4_alike 20 = .ok (.ireturn, 1) := by decide +kernel
theorem dX4_alike_21 : decode cX4_alike 21 = .ok (.iconst 0, 1) := by decide +kernel
theorem dX4_alike_22 : decode cX4_alike 22 = .ok (.istore_n 3, 1) := by decide +kernel
theorem dX4_alike_23 : decode cX4_alike 23 = .ok (.bipush (-4), 2) := by decide +kernel
theorem dX4_alike_25 : decode cX4_alike 25 = .ok (.istore 4, 2) := by decide +kernel
theorem dX4_alike_27 : decode cX4_alike 27 = .ok (.iconst 0, 1) := by decide +kernel
theorem dX4_alike_28 : decode cX4_alike 28 = .ok (.istore 5, 2) := by decide +kernel
theorem dX4_alike_30 : decode cX4_alike 30 = .ok (.iload 5, 2) := by decide +kernel
theorem dX4_alike_32 : decode cX4_alike 32 = .ok (.aload_n 0, 1) := by decide +kernel
theorem dX4_alike_33 : decode cX4_alike 33 = .ok (.getfield 10, 3) := by decide +kernel
theorem dX4_alike_36 : decode cX4_alike 36 = .ok (.getfield 61, 3) := by decide +kernel
theorem dX4_alike_39 : decode cX4_alike 39 = .ok (.if_icmp .ge 83, 3) := by decide +kernel
theorem dX4_alike_42 : decode cX4_alike 42 = .ok (.iload 5, 2) := by decide +kernel
theorem dX4_alike_44 : decode cX4_alike 44 = .ok (.iconst 1, 1) := by decide +kernel
theorem dX4_alike_45 : decode cX4_alike 45 = .ok (.iadd, 1) := by decide +kernel
theorem dX4_alike_46 : decode cX4_alike 46 = .ok (.istore 6, 2) := by decide +kernel
theorem dX4_alike_48 : decode cX4_alike 48 = .ok (.iload 6, 2) := by decide +kernel
theorem dX4_alike_50 : decode cX4_alike 50 = .ok (.aload_n 0, 1) := by decide +kernel
theorem dX4_alike_51 : decode cX4_alike 51 = .ok (.getfield 10, 3) := by decide +kernel
theorem dX4_alike_54 : decode cX4_alike 54 = .ok (.getfield 61, 3) := by decide +kernel
theorem dX4_alike_57 : decode cX4_alike 57 = .ok (.if_icmp .ge 59, 3) := by decide +kernel
theorem dX4_alike_60 : decode cX4_alike 60 = .ok (.aload_n 0, 1) := by decide +kernel
theorem dX4_alike_61 : decode cX4_alike 61 = .ok (.getfield 10, 3) := by decide +kernel
theorem dX4_alike_64 : decode cX4_alike 64 = .ok (.getfield 83, 3) := by decide +kernel
theorem dX4_alike_67 : decode cX4_alike 67 = .ok (.iload 5, 2) := by decide +kernel
theorem dX4_alike_69 : decode cX4_alike 69 = .ok (.iaload, 1) := by decide +kernel
theorem dX4_alike_70 : decode cX4_alike 70 = .ok (.aload_n 0, 1) := by decide +kernel
theorem dX4_alike_71 : decode cX4_alike 71 = .ok (.getfield 10, 3) := by decide +kernel
theorem dX4_alike_74 : decode cX4_alike 74 = .ok (.getfield 83, 3) := by decide +kernel
theorem dX4_alike_77 : decode cX4_alike 77 = .ok (.iload 6, 2) := by decide +kernel
theorem dX4_alike_79 : decode cX4_alike 79 = .ok (.iaload, 1) := by decide +kernel
theorem dX4_alike_80 : decode cX4_alike 80 = .ok (.ixor, 1) := by decide +kernel
theorem dX4_alike_81 : decode cX4_alike 81 = .ok (.invokestatic 174, 3) := by decide +kernel
theorem dX4_alike_84 : decode cX4_alike 84 = .ok (.iload_n 1, 1) := by decide +kernel
theorem dX4_alike_85 : decode cX4_alike 85 = .ok (.if_icmp .gt 25, 3) := by decide +kernel
theorem dX4_alike_88 : decode cX4_alike 88 = .ok (.iload_n 3, 1) := by decide +kernel
theorem dX4_alike_89 : decode cX4_alike 89 = .ok (.ifCond .ne 14, 3) := by decide +kernel
theorem dX4_alike_92 : decode cX4_alike 92 = .ok (.bipush 10, 2) := by decide +kernel
theorem dX4_alike_94 : decode cX4_alike 94 = .ok (.iload 5, 2) := by decide +kernel
theorem dX4_alike_96 : decode cX4_alike 96 = .ok (.imul, 1) := by decide +kernel
theorem dX4_alike_97 : decode cX4_alike 97 = .ok (.iload 6, 2) := by decide +kernel
theorem dX4_alike_99 : decode cX4_alike 99 = .ok (.iadd, 1) := by decide +kernel
theorem dX4_alike_100 : decode cX4_alike 100 = .ok (.goto 5, 3) := by decide +kernel
theorem dX4_alike_103 : decode cX4_alike 103 = .ok (.iload 4, 2) := by decide +kernel
theorem dX4_alike_105 : decode cX4_alike 105 = .ok (.istore 4, 2) := by decide +kernel
theorem dX4_alike_107 : decode cX4_alike 107 = .ok (.iinc 3 1, 3) := by decide +kernel
theorem dX4_alike_110 : decode cX4_alike 110 = .ok (.iinc 6 1, 3) := by decide +kernel
theorem dX4_alike_113 : decode cX4_alike 113 = .ok (.goto (-65), 3) := by decide +kernel
theorem dX4_alike_116 : decode cX4_alike 116 = .ok (.iinc 5 1, 3) := by decide +kernel
theorem dX4_alike_119 : decode cX4_alike 119 = .ok (.goto (-89), 3) := by decide +kernel
theorem dX4_alike_122 : decode cX4_alike 122 = .ok (.iload_n 2, 1) := by decide +kernel
theorem dX4_alike_123 : decode cX4_alike 123 = .ok (.ifCond .ne 7, 3) := by decide +kernel
theorem dX4_alike_126 : decode cX4_alike 126 = .ok (.iload_n 3, 1) := by decide +kernel
theorem dX4_alike_127 : decode cX4_alike 127 = .ok (.goto 5, 3) := by decide +kernel
theorem dX4_alike_130 : decode cX4_alike 130 = .ok (.iload 4, 2) := by decide +kernel
theorem dX4_alike_132 : decode cX4_alike 132 = .ok (.ireturn, 1) := by decide +kernel
theorem dX4_turned_0 : decode cX4_turned 0 = .ok (.aload_n 0, 1) := by decide +kernel
theorem dX4_turned_1 : decode cX4_turned 1 = .ok (.iload_n 1, 1) := by decide +kernel
theorem dX4_turned_2 : decode cX4_turned 2 = .ok (.invokevirtual 69, 3) := by decide +kernel
theorem dX4_turned_5 : decode cX4_turned 5 = .ok (.ifCond .ne 12, 3) := by decide +kernel
theorem dX4_turned_8 : decode cX4_turned 8 = .ok (.iload_n 2, 1) := by decide +kernel
theorem dX4_turned_9 : decode cX4_turned 9 = .ok (.iconst 0, 1) := by decide +kernel
theorem dX4_turned_10 : decode cX4_turned 10 = .ok (.iconst 1, 1) := by decide +kernel
theorem dX4_turned_11 : decode cX4_turned 11 = .ok (.invokestatic 46, 3) := by decide +kernel
theorem dX4_turned_14 : decode cX4_turned 14 = .ok (.ifCond .eq 5, 3) := by decide +kernel
theorem dX4_turned_17 : decode cX4_turned 17 = .ok (.iconst (-1), 1) := by decide +kernel
theorem dX4_turned_18 : decode cX4_turned 18 = .ok (.ireturn, 1) := by decide +kernel
theorem dX4_turned_19 : decode cX4_turned 19 = .ok (.iconst 0, 1) := by decide +kernel
theorem dX4_turned_20 : decode cX4_turned 20 = .ok (.istore_n 3, 1) := by decide +kernel
theorem dX4_turned_21 : decode cX4_turned 21 = .ok (.bipush (-4), 2) := by decide +kernel
theorem dX4_turned_23 : decode cX4_turned 23 = .ok (.istore 4, 2) := by decide +kernel
theorem dX4_turned_25 : decode cX4_turned 25 = .ok (.iconst 0, 1) := by decide +kernel
theorem dX4_turned_26 : decode cX4_turned 26 = .ok (.istore 5, 2) := by decide +kernel
theorem dX4_turned_28 : decode cX4_turned 28 = .ok (.iload 5, 2) := by decide +kernel
theorem dX4_turned_30 : decode cX4_turned 30 = .ok (.aload_n 0, 1) := by decide +kernel
theorem dX4_turned_31 : decode cX4_turned 31 = .ok (.getfield 10, 3) := by decide +kernel
theorem dX4_turned_34 : decode cX4_turned 34 = .ok (.invokevirtual 57, 3) := by decide +kernel
theorem dX4_turned_37 : decode cX4_turned 37 = .ok (.if_icmp .ge 56, 3) := by decide +kernel
theorem dX4_turned_40 : decode cX4_turned 40 = .ok (.aload_n 0, 1) := by decide +kernel
theorem dX4_turned_41 : decode cX4_turned 41 = .ok (.getfield 23, 3) := by decide +kernel
theorem dX4_turned_44 : decode cX4_turned 44 = .ok (.aload_n 0, 1) := by decide +kernel
theorem dX4_turned_45 : decode cX4_turned 45 = .ok (.getfield 10, 3) := by decide +kernel
theorem dX4_turned_48 : decode cX4_turned 48 = .ok (.invokevirtual 111, 3) := by decide +kernel
theorem dX4_turned_51 : decode cX4_turned 51 = .ok (.aload_n 0, 1) := by decide +kernel
theorem dX4_turned_52 : decode cX4_turned 52 = .ok (.getfield 23, 3) := by decide +kernel
theorem dX4_turned_55 : decode cX4_turned 55 = .ok (.iload 5, 2) := by decide +kernel
theorem dX4_turned_57 : decode cX4_turned 57 = .ok (.putfield 128, 3) := by decide +kernel
theorem dX4_turned_60 : decode cX4_turned 60 = .ok (.aload_n 0, 1) := by decide +kernel
theorem dX4_turned_61 : decode cX4_turned 61 = .ok (.getfield 23, 3) := by decide +kernel
theorem dX4_turned_64 : decode cX4_turned 64 = .ok (.invokevirtual 168, 3) := by decide +kernel
theorem dX4_turned_67 : decode cX4_turned 67 = .ok (.iload_n 1, 1) := by decide +kernel
theorem dX4_turned_68 : decode cX4_turned 68 = .ok (.if_icmp .ne 19, 3) := by decide +kernel
theorem dX4_turned_71 : decode cX4_turned 71 = .ok (.iload_n 3, 1) := by decide +kernel
theorem dX4_turned_72 : decode cX4_turned 72 = .ok (.ifCond .ne 8, 3) := by decide +kernel
theorem dX4_turned_75 : decode cX4_turned 75 = .ok (.iload 5, 2) := by decide +kernel
theorem dX4_turned_77 : decode cX4_turned 77 = .ok (.goto 5, 3) := by decide +kernel
theorem dX4_turned_80 : decode cX4_turned 80 = .ok (.iload 4, 2) := by decide +kernel
theorem dX4_turned_82 : decode cX4_turned 82 = .ok (.istore 4, 2) := by decide +kernel
theorem dX4_turned_84 : decode cX4_turned 84 = .ok (.iinc 3 1, 3) := by decide +kernel
theorem dX4_turned_87 : decode cX4_turned 87 = .ok (.iinc 5 1, 3) := by decide +kernel
theorem dX4_turned_90 : decode cX4_turned 90 = .ok (.goto (-62), 3) := by decide +kernel
theorem dX4_turned_93 : decode cX4_turned 93 = .ok (.iload_n 2, 1) := by decide +kernel
theorem dX4_turned_94 : decode cX4_turned 94 = .ok (.ifCond .ne 7, 3) := by decide +kernel
theorem dX4_turned_97 : decode cX4_turned 97 = .ok (.iload_n 3, 1) := by decide +kernel
theorem dX4_turned_98 : decode cX4_turned 98 = .ok (.goto 5, 3) := by decide +kernel
theorem dX4_turned_101 : decode cX4_turned 101 = .ok (.iload 4, 2) := by decide +kernel
theorem dX4_turned_103 : decode cX4_turned 103 = .ok (.ireturn, 1) := by decide +kernel
theorem dX4_luck_0 : decode cX4_luck 0 = .ok (.aload_n 0, 1) := by decide +kernel
theorem dX4_luck_1 : decode cX4_luck 1 = .ok (.iload_n 1, 1) := by decide +kernel
theorem dX4_luck_2 : decode cX4_luck 2 = .ok (.invokevirtual 69, 3) := by decide +kernel
theorem dX4_luck_5 : decode cX4_luck 5 = .ok (.ifCond .ne 22, 3) := by decide +kernel
theorem dX4_luck_8 : decode cX4_luck 8 = .ok (.iload_n 2, 1) := by decide +kernel
theorem dX4_luck_9 : decode cX4_luck 9 = .ok (.iconst 0, 1) := by decide +kernel
theorem dX4_luck_10 : decode cX4_luck 10 = .ok (.bipush 10, 2) := by decide +kernel
theorem dX4_luck_12 : decode cX4_luck 12 = .ok (.invokestatic 46, 3) := by decide +kernel
theorem dX4_luck_15 : decode cX4_luck 15 = .ok (.ifCond .ne 12, 3) := by decide +kernel
theorem dX4_luck_18 : decode cX4_luck 18 = .ok (.iload_n 3, 1) := by decide +kernel
theorem dX4_luck_19 : decode cX4_luck 19 = .ok (.iconst 0, 1) := by decide +kernel
theorem dX4_luck_20 : decode cX4_luck 20 = .ok (.iconst 1, 1) := by decide +kernel
theorem dX4_luck_21 : decode cX4_luck 21 = .ok (.invokestatic 46, 3) := by decide +kernel
theorem dX4_luck_24 : decode cX4_luck 24 = .ok (.ifCond .eq 5, 3) := by decide +kernel
theorem dX4_luck_27 : decode cX4_luck 27 = .ok (.iconst (-1), 1) := by decide +kernel
theorem dX4_luck_28 : decode cX4_luck 28 = .ok (.ireturn, 1) := by decide +kernel
theorem dX4_luck_29 : decode cX4_luck 29 = .ok (.iconst 0, 1) := by decide +kernel
theorem dX4_luck_30 : decode cX4_luck 30 = .ok (.istore 4, 2) := by decide +kernel
theorem dX4_luck_32 : decode cX4_luck 32 = .ok (.iconst 1, 1) := by decide +kernel
theorem dX4_luck_33 : decode cX4_luck 33 = .ok (.istore 5, 2) := by decide +kernel
theorem dX4_luck_35 : decode cX4_luck 35 = .ok (.aload_n 0, 1) := by decide +kernel
theorem dX4_luck_36 : decode cX4_luck 36 = .ok (.getfield 10, 3) := by decide +kernel
theorem dX4_luck_39 : decode cX4_luck 39 = .ok (.iload_n 1, 1) := by decide +kernel
theorem dX4_luck_40 : decode cX4_luck 40 = .ok (.invokevirtual 89, 3) := by decide +kernel
theorem dX4_luck_43 : decode cX4_luck 43 = .ok (.ifCond .eq 71, 3) := by decide +kernel
theorem dX4_luck_46 : decode cX4_luck 46 = .ok (.aload_n 0, 1) := by decide +kernel
theorem dX4_luck_47 : decode cX4_luck 47 = .ok (.getfield 10, 3) := by decide +kernel
theorem dX4_luck_50 : decode cX4_luck 50 = .ok (.iload_n 1, 1) := by decide +kernel
theorem dX4_luck_51 : decode cX4_luck 51 = .ok (.invokevirtual 96, 3) := by decide +kernel
theorem dX4_luck_54 : decode cX4_luck 54 = .ok (.ifCond .le 60, 3) := by decide +kernel
theorem dX4_luck_57 : decode cX4_luck 57 = .ok (.bipush 10, 2) := by decide +kernel
theorem dX4_luck_59 : decode cX4_luck 59 = .ok (.iload_n 2, 1) := by decide +kernel
theorem dX4_luck_60 : decode cX4_luck 60 = .ok (.isub, 1) := by decide +kernel
theorem dX4_luck_61 : decode cX4_luck 61 = .ok (.istore 4, 2) := by decide +kernel
theorem dX4_luck_63 : decode cX4_luck 63 = .ok (.bipush 10, 2) := by decide +kernel
theorem dX4_luck_65 : decode cX4_luck 65 = .ok (.istore 5, 2) := by decide +kernel
theorem dX4_luck_67 : decode cX4_luck 67 = .ok (.iconst 0, 1) := by decide +kernel
theorem dX4_luck_68 : decode cX4_luck 68 = .ok (.istore 6, 2) := by decide +kernel
theorem dX4_luck_70 : decode cX4_luck 70 = .ok (.iload 6, 2) := by decide +kernel
theorem dX4_luck_72 : decode cX4_luck 72 = .ok (.aload_n 0, 1) := by decide +kernel
theorem dX4_luck_73 : decode cX4_luck 73 = .ok (.getfield 10, 3) := by decide +kernel
theorem dX4_luck_76 : decode cX4_luck 76 = .ok (.getfield 61, 3) := by decide +kernel
theorem dX4_luck_79 : decode cX4_luck 79 = .ok (.if_icmp .ge 35, 3) := by decide +kernel
theorem dX4_luck_82 : decode cX4_luck 82 = .ok (.aload_n 0, 1) := by decide +kernel
theorem dX4_luck_83 : decode cX4_luck 83 = .ok (.getfield 10, 3) := by decide +kernel
