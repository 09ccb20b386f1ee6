theorem dX5_hush_21 : decode cX5_hush 21 = .ok (.ireturn, 1) := by decide +kernel
theorem dX5_hush_22 : decode cX5_hush 22 = .ok (.aload_n 0, 1) := by decide +kernel
theorem dX5_hush_23 : decode cX5_hush 23 = .ok (.iload_n 1, 1) := by decide +kernel
theorem dX5_hush_24 : decode cX5_hush 24 = .ok (.invokevirtual 67, 3) := by decide +kernel
theorem dX5_hush_27 : decode cX5_hush 27 = .ok (.ifCond .ne 6, 3) := by decide +kernel
theorem dX5_hush_30 : decode cX5_hush 30 = .ok (.bipush (-2), 2) := by decide +kernel
theorem dX5_hush_32 : decode cX5_hush 32 = .ok (.ireturn, 1) := by decide +kernel
theorem dX5_hush_33 : decode cX5_hush 33 = .ok (.aload_n 0, 1) := by decide +kernel
theorem dX5_hush_34 : decode cX5_hush 34 = .ok (.invokevirtual 173, 3) := by decide +kernel
theorem dX5_hush_37 : decode cX5_hush 37 = .ok (.iconst 0, 1) := by decide +kernel
theorem dX5_hush_38 : decode cX5_hush 38 = .ok (.istore_n 3, 1) := by decide +kernel
theorem dX5_hush_39 : decode cX5_hush 39 = .ok (.iload_n 3, 1) := by decide +kernel
theorem dX5_hush_40 : decode cX5_hush 40 = .ok (.aload_n 0, 1) := by decide +kernel
theorem dX5_hush_41 : decode cX5_hush 41 = .ok (.iload_n 1, 1) := by decide +kernel
theorem dX5_hush_42 : decode cX5_hush 42 = .ok (.iconst 2, 1) := by decide +kernel
theorem dX5_hush_43 : decode cX5_hush 43 = .ok (.invokevirtual 53, 3) := by decide +kernel
theorem dX5_hush_46 : decode cX5_hush 46 = .ok (.if_icmp .gt 39, 3) := by decide +kernel
theorem dX5_hush_49 : decode cX5_hush 49 = .ok (.aload_n 0, 1) := by decide +kernel
theorem dX5_hush_50 : decode cX5_hush 50 = .ok (.getfield 7, 3) := by decide +kernel
theorem dX5_hush_53 : decode cX5_hush 53 = .ok (.bipush 9, 2) := by decide +kernel
theorem dX5_hush_55 : decode cX5_hush 55 = .ok (.iconst 5, 1) := by decide +kernel
theorem dX5_hush_56 : decode cX5_hush 56 = .ok (.iload_n 1, 1) := by decide +kernel
theorem dX5_hush_57 : decode cX5_hush 57 = .ok (.imul, 1) := by decide +kernel
theorem dX5_hush_58 : decode cX5_hush 58 = .ok (.iadd, 1) := by decide +kernel
theorem dX5_hush_59 : decode cX5_hush 59 = .ok (.iconst 2, 1) := by decide +kernel
theorem dX5_hush_60 : decode cX5_hush 60 = .ok (.iadd, 1) := by decide +kernel
theorem dX5_hush_61 : decode cX5_hush 61 = .ok (.dup2, 1) := by decide +kernel
theorem dX5_hush_62 : decode cX5_hush 62 = .ok (.iaload, 1) := by decide +kernel
theorem dX5_hush_63 : decode cX5_hush 63 = .ok (.iload_n 3, 1) := by decide +kernel
theorem dX5_hush_64 : decode cX5_hush 64 = .ok (.isub, 1) := by decide +kernel
theorem dX5_hush_65 : decode cX5_hush 65 = .ok (.iastore, 1) := by decide +kernel
theorem dX5_hush_66 : decode cX5_hush 66 = .ok (.aload_n 0, 1) := by decide +kernel
theorem dX5_hush_67 : decode cX5_hush 67 = .ok (.iload_n 1, 1) := by decide +kernel
theorem dX5_hush_68 : decode cX5_hush 68 = .ok (.iload_n 2, 1) := by decide +kernel
theorem dX5_hush_69 : decode cX5_hush 69 = .ok (.invokevirtual 182, 3) := by decide +kernel
theorem dX5_hush_72 : decode cX5_hush 72 = .ok (.bipush 61, 2) := by decide +kernel
theorem dX5_hush_74 : decode cX5_hush 74 = .ok (.if_icmp .ne 5, 3) := by decide +kernel
theorem dX5_hush_77 : decode cX5_hush 77 = .ok (.iload_n 3, 1) := by decide +kernel
theorem dX5_hush_78 : decode cX5_hush 78 = .ok (.ireturn, 1) := by decide +kernel
theorem dX5_hush_79 : decode cX5_hush 79 = .ok (.iinc 3 1, 3) := by decide +kernel
theorem dX5_hush_82 : decode cX5_hush 82 = .ok (.goto (-43), 3) := by decide +kernel
theorem dX5_hush_85 : decode cX5_hush 85 = .ok (.bipush (-4), 2) := by decide +kernel
theorem dX5_hush_87 : decode cX5_hush 87 = .ok (.ireturn, 1) := by decide +kernel
theorem dX5_mask_0 : decode cX5_mask 0 = .ok (.aload_n 0, 1) := by decide +kernel
theorem dX5_mask_1 : decode cX5_mask 1 = .ok (.iload_n 1, 1) := by decide +kernel
theorem dX5_mask_2 : decode cX5_mask 2 = .ok (.invokevirtual 107, 3) := by decide +kernel
theorem dX5_mask_5 : decode cX5_mask 5 = .ok (.ifCond .eq 13, 3) := by decide +kernel
theorem dX5_mask_8 : decode cX5_mask 8 = .ok (.iload_n 2, 1) := by decide +kernel
theorem dX5_mask_9 : decode cX5_mask 9 = .ok (.i2l, 1) := by decide +kernel
theorem dX5_mask_10 : decode cX5_mask 10 = .ok (.lconst 0, 1) := by decide +kernel
theorem dX5_mask_11 : decode cX5_mask 11 = .ok (.lconst 1, 1) := by decide +kernel
theorem dX5_mask_12 : decode cX5_mask 12 = .ok (.invokestatic 49, 3) := by decide +kernel
theorem dX5_mask_15 : decode cX5_mask 15 = .ok (.ifCond .ne 5, 3) := by decide +kernel
theorem dX5_mask_18 : decode cX5_mask 18 = .ok (.iconst (-1), 1) := by decide +kernel
theorem dX5_mask_19 : decode cX5_mask 19 = .ok (.ireturn, 1) := by decide +kernel
theorem dX5_mask_20 : decode cX5_mask 20 = .ok (.bipush (-4), 2) := by decide +kernel
theorem dX5_mask_22 : decode cX5_mask 22 = .ok (.istore_n 3, 1) := by decide +kernel
theorem dX5_mask_23 : decode cX5_mask 23 = .ok (.iconst 0, 1) := by decide +kernel
theorem dX5_mask_24 : decode cX5_mask 24 = .ok (.istore 4, 2) := by decide +kernel
theorem dX5_mask_26 : decode cX5_mask 26 = .ok (.iload 4, 2) := by decide +kernel
theorem dX5_mask_28 : decode cX5_mask 28 = .ok (.bipush 64, 2) := by decide +kernel
theorem dX5_mask_30 : decode cX5_mask 30 = .ok (.if_icmp .ge 64, 3) := by decide +kernel
theorem dX5_mask_33 : decode cX5_mask 33 = .ok (.iload_n 3, 1) := by decide +kernel
theorem dX5_mask_34 : decode cX5_mask 34 = .ok (.bipush (-4), 2) := by decide +kernel
theorem dX5_mask_36 : decode cX5_mask 36 = .ok (.if_icmp .eq 15, 3) := by decide +kernel
theorem dX5_mask_39 : decode cX5_mask 39 = .ok (.iload 4, 2) := by decide +kernel
theorem dX5_mask_41 : decode cX5_mask 41 = .ok (.invokestatic 64, 3) := by decide +kernel
theorem dX5_mask_44 : decode cX5_mask 44 = .ok (.iload_n 3, 1) := by decide +kernel
theorem dX5_mask_45 : decode cX5_mask 45 = .ok (.invokestatic 64, 3) := by decide +kernel
theorem dX5_mask_48 : decode cX5_mask 48 = .ok (.if_icmp .ge 25, 3) := by decide +kernel
theorem dX5_mask_51 : decode cX5_mask 51 = .ok (.aload_n 0, 1) := by decide +kernel
theorem dX5_mask_52 : decode cX5_mask 52 = .ok (.iload_n 1, 1) := by decide +kernel
theorem dX5_mask_53 : decode cX5_mask 53 = .ok (.aload_n 0, 1) := by decide +kernel
theorem dX5_mask_54 : decode cX5_mask 54 = .ok (.iload_n 1, 1) := by decide +kernel
theorem dX5_mask_55 : decode cX5_mask 55 = .ok (.iconst 4, 1) := by decide +kernel
theorem dX5_mask_56 : decode cX5_mask 56 = .ok (.invokevirtual 53, 3) := by decide +kernel
theorem dX5_mask_59 : decode cX5_mask 59 = .ok (.iload 4, 2) := by decide +kernel
theorem dX5_mask_61 : decode cX5_mask 61 = .ok (.ixor, 1) := by decide +kernel
theorem dX5_mask_62 : decode cX5_mask 62 = .ok (.invokevirtual 83, 3) := by decide +kernel
theorem dX5_mask_65 : decode cX5_mask 65 = .ok (.iload_n 1, 1) := by decide +kernel
theorem dX5_mask_66 : decode cX5_mask 66 = .ok (.if_icmp .eq 7, 3) := by decide +kernel
theorem dX5_mask_69 : decode cX5_mask 69 = .ok (.iconst 1, 1) := by decide +kernel
theorem dX5_mask_70 : decode cX5_mask 70 = .ok (.goto 4, 3) := by decide +kernel
theorem dX5_mask_73 : decode cX5_mask 73 = .ok (.iconst 0, 1) := by decide +kernel
theorem dX5_mask_74 : decode cX5_mask 74 = .ok (.istore 5, 2) := by decide +kernel
theorem dX5_mask_76 : decode cX5_mask 76 = .ok (.iload 5, 2) := by decide +kernel
theorem dX5_mask_78 : decode cX5_mask 78 = .ok (.ifCond .eq 8, 3) := by decide +kernel
theorem dX5_mask_81 : decode cX5_mask 81 = .ok (.iload 4, 2) := by decide +kernel
theorem dX5_mask_83 : decode cX5_mask 83 = .ok (.goto 4, 3) := by decide +kernel
theorem dX5_mask_86 : decode cX5_mask 86 = .ok (.iload_n 3, 1) := by decide +kernel
theorem dX5_mask_87 : decode cX5_mask 87 = .ok (.istore_n 3, 1) := by decide +kernel
theorem dX5_mask_88 : decode cX5_mask 88 = .ok (.iinc 4 1, 3) := by decide +kernel
theorem dX5_mask_91 : decode cX5_mask 91 = .ok (.goto (-65), 3) := by decide +kernel
theorem dX5_mask_94 : decode cX5_mask 94 = .ok (.iload_n 2, 1) := by decide +kernel
theorem dX5_mask_95 : decode cX5_mask 95 = .ok (.iconst 1, 1) := by decide +kernel
theorem dX5_mask_96 : decode cX5_mask 96 = .ok (.if_icmp .eq 9, 3) := by decide +kernel
theorem dX5_mask_99 : decode cX5_mask 99 = .ok (.iload_n 3, 1) := by decide +kernel
theorem dX5_mask_100 : decode cX5_mask 100 = .ok (.bipush (-4), 2) := by decide +kernel
theorem dX5_mask_102 : decode cX5_mask 102 = .ok (.if_icmp .ne 7, 3) := by decide +kernel
theorem dX5_mask_105 : decode cX5_mask 105 = .ok (.iload_n 3, 1) := by decide +kernel
theorem dX5_mask_106 : decode cX5_mask 106 = .ok (.goto 7, 3) := by decide +kernel
theorem dX5_mask_109 : decode cX5_mask 109 = .ok (.iload_n 3, 1) := by decide +kernel
theorem dX5_mask_110 : decode cX5_mask 110 = .ok (.invokestatic 64, 3) := by decide +kernel
theorem dX5_mask_113 : decode cX5_mask 113 = .ok (.ireturn, 1) := by decide +kernel
theorem dX5_alike_0 : decode cX5_alike 0 = .ok (.iload_n 1, 1) := by decide +kernel
theorem dX5_alike_1 : decode cX5_alike 1 = .ok (.i2l, 1) := by decide +kernel
theorem dX5_alike_2 : decode cX5_alike 2 = .ok (.lconst 0, 1) := by decide +kernel
theorem dX5_alike_3 : decode cX5_alike 3 = .ok (.ldc2_w 91, 3) := by decide +kernel
theorem dX5_alike_6 : decode cX5_alike 6 = .ok (.invokestatic 49, 3) := by decide +kernel
theorem dX5_alike_9 : decode cX5_alike 9 = .ok (.ifCond .eq 13, 3) := by decide +kernel
theorem dX5_alike_12 : decode cX5_alike 12 = .ok (.iload_n 2, 1) := by decide +kernel
theorem dX5_alike_13 : decode cX5_alike 13 = .ok (.i2l, 1) := by decide +kernel
theorem dX5_alike_14 : decode cX5_alike 14 = .ok (.lconst 0, 1) := by decide +kernel
theorem dX5_alike_15 : decode cX5_alike 15 = .ok (.lconst 1, 1) := by decide +kernel
theorem dX5_alike_16 : decode cX5_alike 16 = .ok (.invokestatic 49, 3) := by decide +kernel
theorem dX5_alike_19 : decode cX5_alike 19 = .ok (.ifCond .ne 5, 3) := by decide +kernel
theorem dX5_alike_22 : decode cX5_alike 22 = .ok (.iconst (-1), 1) := by decide +kernel
theorem dX5_alike_23 : decode cX5_alike 23 = .ok (.ireturn, 1) := by decide +kernel
theorem dX5_alike_24 : decode cX5_alike 24 = .ok (.iconst 0, 1) := by decide +kernel
theorem dX5_alike_25 : decode cX5_alike 25 = .ok (.istore_n 3, 1) := by decide +kernel
theorem dX5_alike_26 : decode cX5_alike 26 = .ok (.bipush (-4), 2) := by decide +kernel
theorem dX5_alike_28 : decode cX5_alike 28 = .ok (.istore 4, 2) := by decide +kernel
theorem dX5_alike_30 : decode cX5_alike 30 = .ok (.iconst 0, 1) := by decide +kernel
theorem dX5_alike_31 : decode cX5_alike 31 = .ok (.istore 5, 2) := by decide +kernel
theorem dX5_alike_33 : decode cX5_alike 33 = .ok (.iload 5, 2) := by decide +kernel
theorem dX5_alike_35 : decode cX5_alike 35 = .ok (.aload_n 0, 1) := by decide +kernel
theorem dX5_alike_36 : decode cX5_alike 36 = .ok (.getfield 7, 3) := by decide +kernel
theorem dX5_alike_39 : decode cX5_alike 39 = .ok (.iconst 2, 1) := by decide +kernel
theorem dX5_alike_40 : decode cX5_alike 40 = .ok (.iaload, 1) := by decide +kernel
theorem dX5_alike_41 : decode cX5_alike 41 = .ok (.if_icmp .ge 98, 3) := by decide +kernel
theorem dX5_alike_44 : decode cX5_alike 44 = .ok (.iload 5, 2) := by decide +kernel
theorem dX5_alike_46 : decode cX5_alike 46 = .ok (.iconst 1, 1) := by decide +kernel
theorem dX5_alike_47 : decode cX5_alike 47 = .ok (.iadd, 1) := by decide +kernel
theorem dX5_alike_48 : decode cX5_alike 48 = .ok (.istore 6, 2) := by decide +kernel
theorem dX5_alike_50 : decode cX5_alike 50 = .ok (.iload 6, 2) := by decide +kernel
theorem dX5_alike_52 : decode cX5_alike 52 = .ok (.aload_n 0, 1) := by decide +kernel
theorem dX5_alike_53 : decode cX5_alike 53 = .ok (.getfield 7, 3) := by decide +kernel
theorem dX5_alike_56 : decode cX5_alike 56 = .ok (.iconst 2, 1) := by decide +kernel
theorem dX5_alike_57 : decode cX5_alike 57 = .ok (.iaload, 1) := by decide +kernel
theorem dX5_alike_58 : decode cX5_alike 58 = .ok (.if_icmp .ge 75, 3) := by decide +kernel
theorem dX5_alike_61 : decode cX5_alike 61 = .ok (.aload_n 0, 1) := by decide +kernel
theorem dX5_alike_62 : decode cX5_alike 62 = .ok (.iload 5, 2) := by decide +kernel
theorem dX5_alike_64 : decode cX5_alike 64 = .ok (.iconst 3, 1) := by decide +kernel
theorem dX5_alike_65 : decode cX5_alike 65 = .ok (.invokevirtual 53, 3) := by decide +kernel
theorem dX5_alike_68 : decode cX5_alike 68 = .ok (.aload_n 0, 1) := by decide +kernel
theorem dX5_alike_69 : decode cX5_alike 69 = .ok (.iload 6, 2) := by decide +kernel
theorem dX5_alike_71 : decode cX5_alike 71 = .ok (.iconst 3, 1) := by decide +kernel
theorem dX5_alike_72 : decode cX5_alike 72 = .ok (.invokevirtual 53, 3) := by decide +kernel
theorem dX5_alike_75 : decode cX5_alike 75 = .ok (.ixor, 1) := by decide +kernel
theorem dX5_alike_76 : decode cX5_alike 76 = .ok (.invokestatic 64, 3) := by decide +kernel
theorem dX5_alike_79 : decode cX5_alike 79 = .ok (.iload_n 1, 1) := by decide +kernel
theorem dX5_alike_80 : decode cX5_alike 80 = .ok (.if_icmp .gt 7, 3) := by decide +kernel
theorem dX5_alike_83 : decode cX5_alike 83 = .ok (.iconst 1, 1) := by decide +kernel
theorem dX5_alike_84 : decode cX5_alike 84 = .ok (.goto 4, 3) := by decide +kernel
theorem dX5_alike_87 : decode cX5_alike 87 = .ok (.iconst 0, 1) := by decide +kernel
theorem dX5_alike_88 : decode cX5_alike 88 = .ok (.istore 7, 2) := by decide +kernel
theorem dX5_alike_90 : decode cX5_alike 90 = .ok (.iload 7, 2) := by decide +kernel
theorem dX5_alike_92 : decode cX5_alike 92 = .ok (.ifCond .eq 18, 3) := by decide +kernel
theorem dX5_alike_95 : decode cX5_alike 95 = .ok (.iload_n 3, 1) := by decide +kernel
theorem dX5_alike_96 : decode cX5_alike 96 = .ok (.ifCond .ne 14, 3) := by decide +kernel
theorem dX5_alike_99 : decode cX5_alike 99 = .ok (.bipush 10, 2) := by decide +kernel
theorem dX5_alike_101 : decode cX5_alike 101 = .ok (.iload 5, 2) := by decide +kernel
theorem dX5_alike_103 : decode cX5_alike 103 = .ok (.imul, 1) := by decide +kernel
theorem dX5_alike_104 : decode cX5_alike 104 = .ok (.iload 6, 2) := by decide +kernel
theorem dX5_alike_106 : decode cX5_alike 106 = .ok (.iadd, 1) := by decide +kernel
theorem dX5_alike_107 : decode cX5_alike 107 = .ok (.goto 5, 3) := by decide +kernel
theorem dX5_alike_110 : decode cX5_alike 110 = .ok (.iload 4, 2) := by decide +kernel
theorem dX5_alike_112 : decode cX5_alike 112 = .ok (.istore 4, 2) := by decide +kernel
theorem dX5_alike_114 : decode cX5_alike 114 = .ok (.iload_n 3, 1) := by decide +kernel
theorem dX5_alike_115 : decode cX5_alike 115 = .ok (.iload 7, 2) := by decide +kernel
theorem dX5_alike_117 : decode cX5_alike 117 = .ok (.ifCond .eq 7, 3) := by decide +kernel
theorem dX5_alike_120 : decode cX5_alike 120 = .ok (.iconst 1, 1) := by decide +kernel
theorem dX5_alike_121 : decode cX5_alike 121 = .ok (.goto 4, 3) := by decide +kernel
theorem dX5_alike_124 : decode cX5_alike 124 = .ok (.iconst 0, 1) := by decide +kernel
theorem dX5_alike_125 : decode cX5_alike 125 = .ok (.iadd, 1) := by decide +kernel
theorem dX5_alike_126 : decode cX5_alike 126 = .ok (.istore_n 3, 1) := by decide +kernel
theorem dX5_alike_127 : decode cX5_alike 127 = .ok (.iinc 6 1, 3) := by decide +kernel
theorem dX5_alike_130 : decode cX5_alike 130 = .ok (.goto (-80), 3) := by decide +kernel
theorem dX5_alike_133 : decode cX5_alike 133 = .ok (.iinc 5 1, 3) := by decide +kernel
theorem dX5_alike_136 : decode cX5_alike 136 = .ok (.goto (-103), 3) := by decide +kernel
theorem dX5_alike_139 : decode cX5_alike 139 = .ok (.iload_n 2, 1) := by decide +kernel
theorem dX5_alike_140 : decode cX5_alike 140 = .ok (.ifCond .ne 7, 3) := by decide +kernel
theorem dX5_alike_143 : decode cX5_alike 143 = .ok (.iload_n 3, 1) := by decide +kernel
theorem dX5_alike_144 : decode cX5_alike 144 = .ok (.goto 5, 3) := by decide +kernel
theorem dX5_alike_147 : decode cX5_alike 147 = .ok (.iload 4, 2) := by decide +kernel
theorem dX5_alike_149 : decode cX5_alike 149 = .ok (.ireturn, 1) := by decide +kernel
theorem dX5_turned_0 : decode cX5_turned 0 = .ok (.aload_n 0, 1) := by decide +kernel
theorem dX5_turned_1 : decode cX5_turned 1 = .ok (.iload_n 1, 1) := by decide +kernel
theorem dX5_turned_2 : decode cX5_turned 2 = .ok (.invokevirtual 107, 3) := by decide +kernel
theorem dX5_turned_5 : decode cX5_turned 5 = .ok (.ifCond .eq 13, 3) := by decide +kernel
theorem dX5_turned_8 : decode cX5_turned 8 = .ok (.iload_n 2, 1) := by decide +kernel
theorem dX5_turned_9 : decode cX5_turned 9 = .ok (.i2l, 1) := by decide +kernel
theorem dX5_turned_10 : decode cX5_turned 10 = .ok (.lconst 0, 1) := by decide +kernel
theorem dX5_turned_11 : decode cX5_turned 11 = .ok (.lconst 1, 1) := by decide +kernel
theorem dX5_turned_12 : decode cX5_turned 12 = .ok (.invokestatic 49, 3) := by decide +kernel
theorem dX5_turned_15 : decode cX5_turned 15 = .ok (.ifCond .ne 5, 3) := by decide +kernel
theorem dX5_turned_18 : decode cX5_turned 18 = .ok (.iconst (-1), 1) := by decide +kernel
theorem dX5_turned_19 : decode cX5_turned 19 = .ok (.ireturn, 1) := by decide +kernel
theorem dX5_turned_20 : decode cX5_turned 20 = .ok (.iconst 0, 1) := by decide +kernel
theorem dX5_turned_21 : decode cX5_turned 21 = .ok (.istore_n 3, 1) := by decide +kernel
theorem dX5_turned_22 : decode cX5_turned 22 = .ok (.bipush (-4), 2) := by decide +kernel
theorem dX5_turned_24 : decode cX5_turned 24 = .ok (.istore 4, 2) := by decide +kernel
theorem dX5_turned_26 : decode cX5_turned 26 = .ok (.aload_n 0, 1) := by decide +kernel
theorem dX5_turned_27 : decode cX5_turned 27 = .ok (.invokevirtual 173, 3) := by decide +kernel
theorem dX5_turned_30 : decode cX5_turned 30 = .ok (.iconst 0, 1) := by decide +kernel
theorem dX5_turned_31 : decode cX5_turned 31 = .ok (.istore 5, 2) := by decide +kernel
theorem dX5_turned_33 : decode cX5_turned 33 = .ok (.iload 5, 2) := by decide +kernel
theorem dX5_turned_35 : decode cX5_turned 35 = .ok (.aload_n 0, 1) := by decide +kernel
theorem dX5_turned_36 : decode cX5_turned 36 = .ok (.invokevirtual 93, 3) := by decide +kernel
theorem dX5_turned_39 : decode cX5_turned 39 = .ok (.if_icmp .ge 72, 3) := by decide +kernel
theorem dX5_turned_42 : decode cX5_turned 42 = .ok (.aload_n 0, 1) := by decide +kernel
theorem dX5_turned_43 : decode cX5_turned 43 = .ok (.getfield 7, 3) := by decide +kernel
theorem dX5_turned_46 : decode cX5_turned 46 = .ok (.iconst 3, 1) := by decide +kernel
theorem dX5_turned_47 : decode cX5_turned 47 = .ok (.iload 5, 2) := by decide +kernel
theorem dX5_turned_49 : decode cX5_turned 49 = .ok (.iastore, 1) := by decide +kernel
theorem dX5_turned_50 : decode cX5_turned 50 = .ok (.aload_n 0, 1) := by decide +kernel
theorem dX5_turned_51 : decode cX5_turned 51 = .ok (.invokevirtual 179, 3) := by decide +kernel
theorem dX5_turned_54 : decode cX5_turned 54 = .ok (.bipush 61, 2) := by decide +kernel
theorem dX5_turned_56 : decode cX5_turned 56 = .ok (.if_icmp .ge 15, 3) := by decide +kernel
theorem dX5_turned_59 : decode cX5_turned 59 = .ok (.aload_n 0, 1) := by decide +kernel
theorem dX5_turned_60 : decode cX5_turned 60 = .ok (.getfield 80, 3) := by decide +kernel
theorem dX5_turned_63 : decode cX5_turned 63 = .ok (.iload_n 1, 1) := by decide +kernel
theorem dX5_turned_64 : decode cX5_turned 64 = .ok (.if_icmp .ne 7, 3) := by decide +kernel
theorem dX5_turned_67 : decode cX5_turned 67 = .ok (.iconst 1, 1) := by decide +kernel
theorem dX5_turned_68 : decode cX5_turned 68 = .ok (.goto 4, 3) := by decide +kernel
theorem dX5_turned_71 : decode cX5_turned 71 = .ok (.iconst 0, 1) := by decide +kernel
theorem dX5_turned_72 : decode cX5_turned 72 = .ok (.istore 6, 2) := by decide +kernel
theorem dX5_turned_74 : decode cX5_turned 74 = .ok (.iload 6, 2) := by decide +kernel
theorem dX5_turned_76 : decode cX5_turned 76 = .ok (.ifCond .eq 12, 3) := by decide +kernel
theorem dX5_turned_79 : decode cX5_turned 79 = .ok (.iload_n 3, 1) := by decide +kernel
theorem dX5_turned_80 : decode cX5_turned 80 = .ok (.ifCond .ne 8, 3) := by decide +kernel
theorem dX5_turned_83 : decode cX5_turned 83 = .ok (.iload 5, 2) := by decide +kernel
theorem dX5_turned_85 : decode cX5_turned 85 = .ok (.goto 5, 3) := by decide +kernel
theorem dX5_turned_88 : decode cX5_turned 88 = .ok (.iload 4, 2) := by decide +kernel
theorem dX5_turned_90 : decode cX5_turned 90 = .ok (.istore 4, 2) := by decide +kernel
theorem dX5_turned_92 : decode cX5_turned 92 = .ok (.iload_n 3, 1) := by decide +kernel
theorem dX5_turned_93 : decode cX5_turned 93 = .ok (.iload 6, 2) := by decide +kernel
theorem dX5_turned_95 : decode cX5_turned 95 = .ok (.ifCond .eq 7, 3) := by decide +kernel
theorem dX5_turned_98 : decode cX5_turned 98 = .ok (.iconst 1, 1) := by decide +kernel
theorem dX5_turned_99 : decode cX5_turned 99 = .ok (.goto 4, 3) := by decide +kernel
theorem dX5_turned_102 : decode cX5_turned 102 = .ok (.iconst 0, 1) := by decide +kernel
theorem dX5_turned_103 : decode cX5_turned 103 = .ok (.iadd, 1) := by decide +kernel
theorem dX5_turned_104 : decode cX5_turned 104 = .ok (.istore_n 3, 1) := by decide +kernel
theorem dX5_turned_105 : decode cX5_turned 105 = .ok (.iinc 5 1, 3) := by decide +kernel
theorem dX5_turned_108 : decode cX5_turned 108 = .ok (.goto (-75), 3) := by decide +kernel
theorem dX5_turned_111 : decode cX5_turned 111 = .ok (.iload_n 2, 1) := by decide +kernel
theorem dX5_turned_112 : decode cX5_turned 112 = .ok (.ifCond .ne 7, 3) := by decide +kernel
theorem dX5_turned_115 : decode cX5_turned 115 = .ok (.iload_n 3, 1) := by decide +kernel
theorem dX5_turned_116 : decode cX5_turned 116 = .ok (.goto 5, 3) := by decide +kernel
theorem dX5_turned_119 : decode cX5_turned 119 = .ok (.iload 4, 2) := by decide +kernel
theorem dX5_turned_121 : decode cX5_turned 121 = .ok (.ireturn, 1) := by decide +kernel
theorem dX5_luck_0 : decode cX5_luck 0 = .ok (.aload_n 0, 1) := by decide +kernel
theorem dX5_luck_1 : decode cX5_luck 1 = .ok (.iload_n 1, 1) := by decide +kernel
theorem dX5_luck_2 : decode cX5_luck 2 = .ok (.invokevirtual 107, 3) := by decide +kernel
theorem dX5_luck_5 : decode cX5_luck 5 = .ok (.ifCond .eq 25, 3) := by decide +kernel
theorem dX5_luck_8 : decode cX5_luck 8 = .ok (.iload_n 2, 1) := by decide +kernel
theorem dX5_luck_9 : decode cX5_luck 9 = .ok (.i2l, 1) := by decide +kernel
theorem dX5_luck_10 : decode cX5_luck 10 = .ok (.lconst 0, 1) := by decide +kernel
theorem dX5_luck_11 : decode cX5_luck 11 = .ok (.ldc2_w 185, 3) := by decide +kernel
theorem dX5_luck_14 : decode cX5_luck 14 = .ok (.invokestatic 49, 3) := by decide +kernel
theorem dX5_luck_17 : decode cX5_luck 17 = .ok (.ifCond .eq 13, 3) := by decide +kernel
theorem dX5_luck_20 : decode cX5_luck 20 = .ok (.iload_n 3, 1) := by decide +kernel
theorem dX5_luck_21 : decode cX5_luck 21 = .ok (.i2l, 1) := by decide +kernel
theorem dX5_luck_22 : decode cX5_luck 22 = .ok (.lconst 0, 1) := by decide +kernel
theorem dX5_luck_23 : decode cX5_luck 23 = .ok (.lconst 1, 1) := by decide +kernel
theorem dX5_luck_24 : decode cX5_luck 24 = .ok (.invokestatic 49, 3) := by decide +kernel
theorem dX5_luck_27 : decode cX5_luck 27 = .ok (.ifCond .ne 5, 3) := by decide +kernel
theorem dX5_luck_30 : decode cX5_luck 30 = .ok (.iconst (-1), 1) := by decide +kernel
theorem dX5_luck_31 : decode cX5_luck 31 = .ok (.ireturn, 1) := by decide +kernel
theorem dX5_luck_32 : decode cX5_luck 32 = .ok (.iconst 0, 1) := by decide +kernel
theorem dX5_luck_33 : decode cX5_luck 33 = .ok (.istore 4, 2) := by decide +kernel
theorem dX5_luck_35 : decode cX5_luck 35 = .ok (.iconst 0, 1) := by decide +kernel
theorem dX5_luck_36 : decode cX5_luck 36 = .ok (.istore 5, 2) := by decide +kernel
theorem dX5_luck_38 : decode cX5_luck 38 = .ok (.iconst 0, 1) := by decide +kernel
theorem dX5_luck_39 : decode cX5_luck 39 = .ok (.istore 6, 2) := by decide +kernel
theorem dX5_luck_41 : decode cX5_luck 41 = .ok (.iload 6, 2) := by decide +kernel
theorem dX5_luck_43 : decode cX5_luck 43 = .ok (.iconst 1, 1) := by decide +kernel
theorem dX5_luck_44 : decode cX5_luck 44 = .ok (.aload_n 0, 1) := by decide +kernel
theorem dX5_luck_45 : decode cX5_luck 45 = .ok (.getfield 7, 3) := by decide +kernel
theorem dX5_luck_48 : decode cX5_luck 48 = .ok (.iconst 2, 1) := by decide +kernel
theorem dX5_luck_49 : decode cX5_luck 49 = .ok (.iaload, 1) := by decide +kernel
theorem dX5_luck_50 : decode cX5_luck 50 = .ok (.ishl, 1) := by decide +kernel
theorem dX5_luck_51 : decode cX5_luck 51 = .ok (.if_icmp .ge 84, 3) := by decide +kernel
theorem dX5_luck_54 : decode cX5_luck 54 = .ok (.iconst 1, 1) := by decide +kernel
theorem dX5_luck_55 : decode cX5_luck 55 = .ok (.istore 7, 2) := by decide +kernel
theorem dX5_luck_57 : decode cX5_luck 57 = .ok (.iconst 0, 1) := by decide +kernel
theorem dX5_luck_58 : decode cX5_luck 58 = .ok (.istore 8, 2) := by decide +kernel
theorem dX5_luck_60 : decode cX5_luck 60 = .ok (.iload 8, 2) := by decide +kernel
theorem dX5_luck_62 : decode cX5_luck 62 = .ok (.aload_n 0, 1) := by decide +kernel
theorem dX5_luck_63 : decode cX5_luck 63 = .ok (.getfield 7, 3) := by decide +kernel
theorem dX5_luck_66 : decode cX5_luck 66 = .ok (.iconst 2, 1) := by decide +kernel
theorem dX5_luck_67 : decode cX5_luck 67 = .ok (.iaload, 1) := by decide +kernel
theorem dX5_luck_68 : decode cX5_luck 68 = .ok (.if_icmp .ge 33, 3) := by decide +kernel
theorem dX5_luck_71 : decode cX5_luck 71 = .ok (.iload 7, 2) := by decide +kernel
theorem dX5_luck_73 : decode cX5_luck 73 = .ok (.iload 6, 2) := by decide +kernel
theorem dX5_luck_75 : decode cX5_luck 75 = .ok (.iload 8, 2) := by decide +kernel
theorem dX5_luck_77 : decode cX5_luck 77 = .ok (.ishr, 1) := by decide +kernel
theorem dX5_luck_78 : decode cX5_luck 78 = .ok (.iconst 1, 1) := by decide +kernel
theorem dX5_luck_79 : decode cX5_luck 79 = .ok (.iand, 1) := by decide +kernel
theorem dX5_luck_80 : decode cX5_luck 80 = .ok (.iconst 1, 1) := by decide +kernel
theorem dX5_luck_81 : decode cX5_luck 81 = .ok (.if_icmp .ne 7, 3) := by decide +kernel
theorem dX5_luck_84 : decode cX5_luck 84 = .ok (.iload_n 2, 1) := by decide +kernel
theorem dX5_luck_85 : decode cX5_luck 85 = .ok (.goto 7, 3) := by decide +kernel
theorem dX5_luck_88 : decode cX5_luck 88 = .ok (.bipush 10, 2) := by decide +kernel
theorem dX5_luck_90 : decode cX5_luck 90 = .ok (.iload_n 2, 1) := by decide +kernel
theorem dX5_luck_91 : decode cX5_luck 91 = .ok (.isub, 1) := by decide +kernel
theorem dX5_luck_92 : decode cX5_luck 92 = .ok (.imul, 1) := by decide +kernel
theorem dX5_luck_93 : decode cX5_luck 93 = .ok (.istore 7, 2) := by decide +kernel
theorem dX5_luck_95 : decode cX5_luck 95 = .ok (.iinc 8 1, 3) := by decide +kernel
theorem dX5_luck_98 : decode cX5_luck 98 = .ok (.goto (-38), 3) := by decide +kernel
theorem dX5_luck_101 : decode cX5_luck 101 = .ok (.iload 5, 2) := by decide +kernel
theorem dX5_luck_103 : decode cX5_luck 103 = .ok (.iload 7, 2) := by decide +kernel
theorem dX5_luck_105 : decode cX5_luck 105 = .ok (.iadd, 1) := by decide +kernel
theorem dX5_luck_106 : decode cX5_luck 106 = .ok (.istore 5, 2) := by decide +kernel
theorem dX5_luck_108 : decode cX5_luck 108 = .ok (.iload 4, 2) := by decide +kernel
theorem dX5_luck_110 : decode cX5_luck 110 = .ok (.aload_n 0, 1) := by decide +kernel
theorem dX5_luck_111 : decode cX5_luck 111 = .ok (.iload 6, 2) := by decide +kernel
theorem dX5_luck_113 : decode cX5_luck 113 = .ok (.invokevirtual 74, 3) := by decide +kernel
theorem dX5_luck_116 : decode cX5_luck 116 = .ok (.iload_n 1, 1) := by decide +kernel
theorem dX5_luck_117 : decode cX5_luck 117 = .ok (.if_icmp .ne 8, 3) := by decide +kernel
theorem dX5_luck_120 : decode cX5_luck 120 = .ok (.iload 7, 2) := by decide +kernel
theorem dX5_luck_122 : decode cX5_luck 122 = .ok (.goto 4, 3) := by decide +kernel
theorem dX5_luck_125 : decode cX5_luck 125 = .ok (.iconst 0, 1) := by decide +kernel
theorem dX5_luck_126 : decode cX5_luck 126 = .ok (.iadd, 1) := by decide +kernel
theorem dX5_luck_127 : decode cX5_luck 127 = .ok (.istore 4, 2) := by decide +kernel
theorem dX5_luck_129 : decode cX5_luck 129 = .ok (.iinc 6 1, 3) := by decide +kernel
theorem dX5_luck_132 : decode cX5_luck 132 = .ok (.goto (-91), 3) := by decide +kernel
theorem dX5_luck_135 : decode cX5_luck 135 = .ok (.iload 4, 2) := by decide +kernel
theorem dX5_luck_137 : decode cX5_luck 137 = .ok (.istore 6, 2) := by decide +kernel
theorem dX5_luck_139 : decode cX5_luck 139 = .ok (.iload 5, 2) := by decide +kernel
theorem dX5_luck_141 : decode cX5_luck 141 = .ok (.istore 7, 2) := by decide +kernel
theorem dX5_luck_143 : decode cX5_luck 143 = .ok (.iload 7, 2) := by decide +kernel
theorem dX5_luck_145 : decode cX5_luck 145 = .ok (.ifCond .eq 21, 3) := by decide +kernel
theorem dX5_luck_148 : decode cX5_luck 148 = .ok (.iload 6, 2) := by decide +kernel
theorem dX5_luck_150 : decode cX5_luck 150 = .ok (.iload 7, 2) := by decide +kernel
theorem dX5_luck_152 : decode cX5_luck 152 = .ok (.irem, 1) := by decide +kernel
theorem dX5_luck_153 : decode cX5_luck 153 = .ok (.istore 8, 2) := by decide +kernel
theorem dX5_luck_155 : decode cX5_luck 155 = .ok (.iload 7, 2) := by decide +kernel
theorem dX5_luck_157 : decode cX5_luck 157 = .ok (.istore 6, 2) := by decide +kernel
theorem dX5_luck_159 : decode cX5_luck 159 = .ok (.iload 8, 2) := by decide +kernel
theorem dX5_luck_161 : decode cX5_luck 161 = .ok (.istore 7, 2) := by decide +kernel
theorem dX5_luck_163 : decode cX5_luck 163 = .ok (.goto (-20), 3) := by decide +kernel
theorem dX5_luck_166 : decode cX5_luck 166 = .ok (.iload_n 3, 1) := by decide +kernel
theorem dX5_luck_167 : decode cX5_luck 167 = .ok (.ifCond .ne 11, 3) := by decide +kernel
theorem dX5_luck_170 : decode cX5_luck 170 = .ok (.iload 4, 2) := by decide +kernel
theorem dX5_luck_172 : decode cX5_luck 172 = .ok (.iload 6, 2) := by decide +kernel
theorem dX5_luck_174 : decode cX5_luck 174 = .ok (.idiv, 1) := by decide +kernel
theorem dX5_luck_175 : decode cX5_luck 175 = .ok (.goto 8, 3) := by decide +kernel
theorem dX5_luck_178 : decode cX5_luck 178 = .ok (.iload 5, 2) := by decide +kernel
theorem dX5_luck_180 : decode cX5_luck 180 = .ok (.iload 6, 2) := by decide +kernel
theorem dX5_luck_182 : decode cX5_luck 182 = .ok (.idiv, 1) := by decide +kernel
theorem dX5_luck_183 : decode cX5_luck 183 = .ok (.ireturn, 1) := by decide +kernel
theorem dX5_image_0 : decode cX5_image 0 = .ok (.iconst 0, 1) := by decide +kernel
theorem dX5_image_1 : decode cX5_image 1 = .ok (.istore_n 1, 1) := by decide +kernel
theorem dX5_image_2 : decode cX5_image 2 = .ok (.iload_n 1, 1) := by decide +kernel
theorem dX5_image_3 : decode cX5_image 3 = .ok (.bipush 39, 2) := by decide +kernel
theorem dX5_image_5 : decode cX5_image 5 = .ok (.if_icmp .ge 21, 3) := by decide +kernel
theorem dX5_image_8 : decode cX5_image 8 = .ok (.aload_n 0, 1) := by decide +kernel
theorem dX5_image_9 : decode cX5_image 9 = .ok (.getfield 25, 3) := by decide +kernel
theorem dX5_image_12 : decode cX5_image 12 = .ok (.iload_n 1, 1) := by decide +kernel
theorem dX5_image_13 : decode cX5_image 13 = .ok (.aload_n 0, 1) := by decide +kernel
theorem dX5_image_14 : decode cX5_image 14 = .ok (.getfield 7, 3) := by decide +kernel
theorem dX5_image_17 : decode cX5_image 17 = .ok (.iload_n 1, 1) := by decide +kernel
theorem dX5_image_18 : decode cX5_image 18 = .ok (.iaload, 1) := by decide +kernel
theorem dX5_image_19 : decode cX5_image 19 = .ok (.iastore, 1) := by decide +kernel
theorem dX5_image_20 : decode cX5_image 20 = .ok (.iinc 1 1, 3) := by decide +kernel
theorem dX5_image_23 : decode cX5_image 23 = .ok (.goto (-21), 3) := by decide +kernel
theorem dX5_image_26 : decode cX5_image 26 = .ok (.iconst 0, 1) := by decide +kernel
theorem dX5_image_27 : decode cX5_image 27 = .ok (.istore_n 1, 1) := by decide +kernel
theorem dX5_image_28 : decode cX5_image 28 = .ok (.iload_n 1, 1) := by decide +kernel
theorem dX5_image_29 : decode cX5_image 29 = .ok (.bipush 96, 2) := by decide +kernel
theorem dX5_image_31 : decode cX5_image 31 = .ok (.if_icmp .ge 24, 3) := by decide +kernel
theorem dX5_image_34 : decode cX5_image 34 = .ok (.aload_n 0, 1) := by decide +kernel
theorem dX5_image_35 : decode cX5_image 35 = .ok (.getfield 25, 3) := by decide +kernel
theorem dX5_image_38 : decode cX5_image 38 = .ok (.bipush 39, 2) := by decide +kernel
theorem dX5_image_40 : decode cX5_image 40 = .ok (.iload_n 1, 1) := by decide +kernel
theorem dX5_image_41 : decode cX5_image 41 = .ok (.iadd, 1) := by decide +kernel
theorem dX5_image_42 : decode cX5_image 42 = .ok (.aload_n 0, 1) := by decide +kernel
theorem dX5_image_43 : decode cX5_image 43 = .ok (.getfield 19, 3) := by decide +kernel
theorem dX5_image_46 : decode cX5_image 46 = .ok (.iload_n 1, 1) := by decide +kernel
theorem dX5_image_47 : decode cX5_image 47 = .ok (.iaload, 1) := by decide +kernel
theorem dX5_image_48 : decode cX5_image 48 = .ok (.iastore, 1) := by decide +kernel
theorem dX5_image_49 : decode cX5_image 49 = .ok (.iinc 1 1, 3) := by decide +kernel
theorem dX5_image_52 : decode cX5_image 52 = .ok (.goto (-24), 3) := by decide +kernel
theorem dX5_image_55 : decode cX5_image 55 = .ok (.aload_n 0, 1) := by decide +kernel
theorem dX5_image_56 : decode cX5_image 56 = .ok (.aload_n 0, 1) := by decide +kernel
theorem dX5_image_57 : decode cX5_image 57 = .ok (.getfield 45, 3) := by decide +kernel
theorem dX5_image_60 : decode cX5_image 60 = .ok (.putfield 187, 3) := by decide +kernel
theorem dX5_image_63 : decode cX5_image 63 = .ok (.aload_n 0, 1) := by decide +kernel
theorem dX5_image_64 : decode cX5_image 64 = .ok (.iconst 1, 1) := by decide +kernel
theorem dX5_image_65 : decode cX5_image 65 = .ok (.putfield 190, 3) := by decide +kernel
theorem dX5_image_68 : decode cX5_image 68 = .ok (.iconst 1, 1) := by decide +kernel
theorem dX5_image_69 : decode cX5_image 69 = .ok (.ireturn, 1) := by decide +kernel
theorem dX5_restore_0 : decode cX5_restore 0 = .ok (.aload_n 0, 1) := by decide +kernel
theorem dX5_restore_1 : decode cX5_restore 1 = .ok (.getfield 190, 3) := by decide +kernel
theorem dX5_restore_4 : decode cX5_restore 4 = .ok (.ifCond .ne 6, 3) := by decide +kernel
theorem dX5_restore_7 : decode cX5_restore 7 = .ok (.bipush (-4), 2) := by decide +kernel
theorem dX5_restore_9 : decode cX5_restore 9 = .ok (.ireturn, 1) := by decide +kernel
theorem dX5_restore_10 : decode cX5_restore 10 = .ok (.iconst 0, 1) := by decide +kernel
theorem dX5_restore_11 : decode cX5_restore 11 = .ok (.istore_n 1, 1) := by decide +kernel
theorem dX5_restore_12 : decode cX5_restore 12 = .ok (.iload_n 1, 1) := by decide +kernel
theorem dX5_restore_13 : decode cX5_restore 13 = .ok (.bipush 39, 2) := by decide +kernel
theorem dX5_restore_15 : decode cX5_restore 15 = .ok (.if_icmp .ge 21, 3) := by decide +kernel
theorem dX5_restore_18 : decode cX5_restore 18 = .ok (.aload_n 0, 1) := by decide +kernel
theorem dX5_restore_19 : decode cX5_restore 19 = .ok (.getfield 7, 3) := by decide +kernel
theorem dX5_restore_22 : decode cX5_restore 22 = .ok (.iload_n 1, 1) := by decide +kernel
theorem dX5_restore_23 : decode cX5_restore 23 = .ok (.aload_n 0, 1) := by decide +kernel
theorem dX5_restore_24 : decode cX5_restore 24 = .ok (.getfield 25, 3) := by decide +kernel
theorem dX5_restore_27 : decode cX5_restore 27 = .ok (.iload_n 1, 1) := by decide +kernel
theorem dX5_restore_28 : decode cX5_restore 28 = .ok (.iaload, 1) := by decide +kernel
theorem dX5_restore_29 : decode cX5_restore 29 = .ok (.iastore, 1) := by decide +kernel
theorem dX5_restore_30 : decode cX5_restore 30 = .ok (.iinc 1 1, 3) := by decide +kernel
theorem dX5_restore_33 : decode cX5_restore 33 = .ok (.goto (-21), 3) := by decide +kernel
theorem dX5_restore_36 : decode cX5_restore 36 = .ok (.iconst 0, 1) := by decide +kernel
theorem dX5_restore_37 : decode cX5_restore 37 = .ok (.istore_n 1, 1) := by decide +kernel
theorem dX5_restore_38 : decode cX5_restore 38 = .ok (.iload_n 1, 1) := by decide +kernel
theorem dX5_restore_39 : decode cX5_restore 39 = .ok (.bipush 96, 2) := by decide +kernel
theorem dX5_restore_41 : decode cX5_restore 41 = .ok (.if_icmp .ge 24, 3) := by decide +kernel
theorem dX5_restore_44 : decode cX5_restore 44 = .ok (.aload_n 0, 1) := by decide +kernel
theorem dX5_restore_45 : decode cX5_restore 45 = .ok (.getfield 19, 3) := by decide +kernel
theorem dX5_restore_48 : decode cX5_restore 48 = .ok (.iload_n 1, 1) := by decide +kernel
theorem dX5_restore_49 : decode cX5_restore 49 = .ok (.aload_n 0, 1) := by decide +kernel
theorem dX5_restore_50 : decode cX5_restore 50 = .ok (.getfield 25, 3) := by decide +kernel
theorem dX5_restore_53 : decode cX5_restore 53 = .ok (.bipush 39, 2) := by decide +kernel
theorem dX5_restore_55 : decode cX5_restore 55 = .ok (.iload_n 1, 1) := by decide +kernel
theorem dX5_restore_56 : decode cX5_restore 56 = .ok (.iadd, 1) := by decide +kernel
theorem dX5_restore_57 : decode cX5_restore 57 = .ok (.iaload, 1) := by decide +kernel
theorem dX5_restore_58 : decode cX5_restore 58 = .ok (.iastore, 1) := by decide +kernel
theorem dX5_restore_59 : decode cX5_restore 59 = .ok (.iinc 1 1, 3) := by decide +kernel
theorem dX5_restore_62 : decode cX5_restore 62 = .ok (.goto (-24), 3) := by decide +kernel
theorem dX5_restore_65 : decode cX5_restore 65 = .ok (.aload_n 0, 1) := by decide +kernel
theorem dX5_restore_66 : decode cX5_restore 66 = .ok (.aload_n 0, 1) := by decide +kernel
theorem dX5_restore_67 : decode cX5_restore 67 = .ok (.getfield 187, 3) := by decide +kernel
theorem dX5_restore_70 : decode cX5_restore 70 = .ok (.putfield 45, 3) := by decide +kernel
theorem dX5_restore_73 : decode cX5_restore 73 = .ok (.iconst 1, 1) := by decide +kernel
theorem dX5_restore_74 : decode cX5_restore 74 = .ok (.ireturn, 1) := by decide +kernel
theorem dX5_isSheet_0 : decode cX5_isSheet 0 = .ok (.iload_n 0, 1) := by decide +kernel
theorem dX5_isSheet_1 : decode cX5_isSheet 1 = .ok (.i2l, 1) := by decide +kernel
theorem dX5_isSheet_2 : decode cX5_isSheet 2 = .ok (.lconst 0, 1) := by decide +kernel
theorem dX5_isSheet_3 : decode cX5_isSheet 3 = .ok (.ldc2_w 159, 3) := by decide +kernel
theorem dX5_isSheet_6 : decode cX5_isSheet 6 = .ok (.invokestatic 49, 3) := by decide +kernel
theorem dX5_isSheet_9 : decode cX5_isSheet 9 = .ok (.ireturn, 1) := by decide +kernel
theorem dX5_isLane_0 : decode cX5_isLane 0 = .ok (.iload_n 0, 1) := by decide +kernel
theorem dX5_isLane_1 : decode cX5_isLane 1 = .ok (.i2l, 1) := by decide +kernel
theorem dX5_isLane_2 : decode cX5_isLane 2 = .ok (.lconst 0, 1) := by decide +kernel
theorem dX5_isLane_3 : decode cX5_isLane 3 = .ok (.ldc2_w 159, 3) := by decide +kernel
theorem dX5_isLane_6 : decode cX5_isLane 6 = .ok (.invokestatic 49, 3) := by decide +kernel
theorem dX5_isLane_9 : decode cX5_isLane 9 = .ok (.ireturn, 1) := by decide +kernel
theorem dX5_why_0 : decode cX5_why 0 = .ok (.aload_n 0, 1) := by decide +kernel
theorem dX5_why_1 : decode cX5_why 1 = .ok (.getfield 28, 3) := by decide +kernel
theorem dX5_why_4 : decode cX5_why 4 = .ok (.iload_n 1, 1) := by decide +kernel
theorem dX5_why_5 : decode cX5_why 5 = .ok (.iaload, 1) := by decide +kernel
theorem dX5_why_6 : decode cX5_why 6 = .ok (.ifCond .ge 6, 3) := by decide +kernel
theorem dX5_why_9 : decode cX5_why 9 = .ok (.bipush (-11), 2) := by decide +kernel
theorem dX5_why_11 : decode cX5_why 11 = .ok (.ireturn, 1) := by decide +kernel
theorem dX5_why_12 : decode cX5_why 12 = .ok (.aload_n 0, 1) := by decide +kernel
theorem dX5_why_13 : decode cX5_why 13 = .ok (.getfield 28, 3) := by decide +kernel
theorem dX5_why_16 : decode cX5_why 16 = .ok (.iload_n 1, 1) := by decide +kernel
theorem dX5_why_17 : decode cX5_why 17 = .ok (.iaload, 1) := by decide +kernel
theorem dX5_why_18 : decode cX5_why 18 = .ok (.iload_n 2, 1) := by decide +kernel
theorem dX5_why_19 : decode cX5_why 19 = .ok (.if_icmp .eq 6, 3) := by decide +kernel
theorem dX5_why_22 : decode cX5_why 22 = .ok (.bipush (-12), 2) := by decide +kernel
theorem dX5_why_24 : decode cX5_why 24 = .ok (.ireturn, 1) := by decide +kernel
theorem dX5_why_25 : decode cX5_why 25 = .ok (.iload_n 3, 1) := by decide +kernel
theorem dX5_why_26 : decode cX5_why 26 = .ok (.ifCond .lt 25, 3) := by decide +kernel
theorem dX5_why_29 : decode cX5_why 29 = .ok (.iload 4, 2) := by decide +kernel
theorem dX5_why_31 : decode cX5_why 31 = .ok (.ifCond .lt 20, 3) := by decide +kernel
theorem dX5_why_34 : decode cX5_why 34 = .ok (.iload_n 3, 1) := by decide +kernel
theorem dX5_why_35 : decode cX5_why 35 = .ok (.i2l, 1) := by decide +kernel
theorem dX5_why_36 : decode cX5_why 36 = .ok (.iload 4, 2) := by decide +kernel
theorem dX5_why_38 : decode cX5_why 38 = .ok (.i2l, 1) := by decide +kernel
theorem dX5_why_39 : decode cX5_why 39 = .ok (.ladd, 1) := by decide +kernel
theorem dX5_why_40 : decode cX5_why 40 = .ok (.aload_n 0, 1) := by decide +kernel
theorem dX5_why_41 : decode cX5_why 41 = .ok (.getfield 31, 3) := by decide +kernel
theorem dX5_why_44 : decode cX5_why 44 = .ok (.iload_n 1, 1) := by decide +kernel
theorem dX5_why_45 : decode cX5_why 45 = .ok (.iaload, 1) := by decide +kernel
theorem dX5_why_46 : decode cX5_why 46 = .ok (.i2l, 1) := by decide +kernel
theorem dX5_why_47 : decode cX5_why 47 = .ok (.lcmp, 1) := by decide +kernel
theorem dX5_why_48 : decode cX5_why 48 = .ok (.ifCond .le 8, 3) := by decide +kernel
theorem dX5_why_51 : decode cX5_why 51 = .ok (.bipush (-13), 2) := by decide +kernel
theorem dX5_why_53 : decode cX5_why 53 = .ok (.goto 4, 3) := by decide +kernel
theorem dX5_why_56 : decode cX5_why 56 = .ok (.iconst 0, 1) := by decide +kernel
theorem dX5_why_57 : decode cX5_why 57 = .ok (.ireturn, 1) := by decide +kernel
theorem dX5_seen_0 : decode cX5_seen 0 = .ok (.iload_n 1, 1) := by decide +kernel
theorem dX5_seen_1 : decode cX5_seen 1 = .ok (.invokestatic 193, 3) := by decide +kernel
theorem dX5_seen_4 : decode cX5_seen 4 = .ok (.ifCond .eq 34, 3) := by decide +kernel
theorem dX5_seen_7 : decode cX5_seen 7 = .ok (.iload_n 2, 1) := by decide +kernel
theorem dX5_seen_8 : decode cX5_seen 8 = .ok (.invokestatic 196, 3) := by decide +kernel
theorem dX5_seen_11 : decode cX5_seen 11 = .ok (.ifCond .eq 27, 3) := by decide +kernel
theorem dX5_seen_14 : decode cX5_seen 14 = .ok (.iload 4, 2) := by decide +kernel
theorem dX5_seen_16 : decode cX5_seen 16 = .ok (.i2l, 1) := by decide +kernel
theorem dX5_seen_17 : decode cX5_seen 17 = .ok (.lconst 1, 1) := by decide +kernel
theorem dX5_seen_18 : decode cX5_seen 18 = .ok (.ldc2_w 110, 3) := by decide +kernel
theorem dX5_seen_21 : decode cX5_seen 21 = .ok (.invokestatic 49, 3) := by decide +kernel
theorem dX5_seen_24 : decode cX5_seen 24 = .ok (.ifCond .eq 14, 3) := by decide +kernel
theorem dX5_seen_27 : decode cX5_seen 27 = .ok (.iload 5, 2) := by decide +kernel
theorem dX5_seen_29 : decode cX5_seen 29 = .ok (.i2l, 1) := by decide +kernel
theorem dX5_seen_30 : decode cX5_seen 30 = .ok (.lconst 0, 1) := by decide +kernel
theorem dX5_seen_31 : decode cX5_seen 31 = .ok (.lconst 1, 1) := by decide +kernel
theorem dX5_seen_32 : decode cX5_seen 32 = .ok (.invokestatic 49, 3) := by decide +kernel
theorem dX5_seen_35 : decode cX5_seen 35 = .ok (.ifCond .ne 5, 3) := by decide +kernel
theorem dX5_seen_38 : decode cX5_seen 38 = .ok (.iconst (-1), 1) := by decide +kernel
theorem dX5_seen_39 : decode cX5_seen 39 = .ok (.ireturn, 1) := by decide +kernel
theorem dX5_seen_40 : decode cX5_seen 40 = .ok (.aload_n 0, 1) := by decide +kernel
theorem dX5_seen_41 : decode cX5_seen 41 = .ok (.iload_n 1, 1) := by decide +kernel
theorem dX5_seen_42 : decode cX5_seen 42 = .ok (.iload_n 2, 1) := by decide +kernel
theorem dX5_seen_43 : decode cX5_seen 43 = .ok (.iload_n 3, 1) := by decide +kernel
theorem dX5_seen_44 : decode cX5_seen 44 = .ok (.iload 4, 2) := by decide +kernel
theorem dX5_seen_46 : decode cX5_seen 46 = .ok (.invokevirtual 199, 3) := by decide +kernel
theorem dX5_seen_49 : decode cX5_seen 49 = .ok (.istore 6, 2) := by decide +kernel
theorem dX5_seen_51 : decode cX5_seen 51 = .ok (.iload 6, 2) := by decide +kernel
theorem dX5_seen_53 : decode cX5_seen 53 = .ok (.ifCond .ge 6, 3) := by decide +kernel
theorem dX5_seen_56 : decode cX5_seen 56 = .ok (.iload 6, 2) := by decide +kernel
theorem dX5_seen_58 : decode cX5_seen 58 = .ok (.ireturn, 1) := by decide +kernel
theorem dX5_seen_59 : decode cX5_seen 59 = .ok (.iconst 0, 1) := by decide +kernel
theorem dX5_seen_60 : decode cX5_seen 60 = .ok (.istore 7, 2) := by decide +kernel
theorem dX5_seen_62 : decode cX5_seen 62 = .ok (.bipush (-4), 2) := by decide +kernel
theorem dX5_seen_64 : decode cX5_seen 64 = .ok (.istore 8, 2) := by decide +kernel
theorem dX5_seen_66 : decode cX5_seen 66 = .ok (.aload_n 0, 1) := by decide +kernel
theorem dX5_seen_67 : decode cX5_seen 67 = .ok (.invokevirtual 173, 3) := by decide +kernel
theorem dX5_seen_70 : decode cX5_seen 70 = .ok (.iconst 0, 1) := by decide +kernel
theorem dX5_seen_71 : decode cX5_seen 71 = .ok (.istore 9, 2) := by decide +kernel
theorem dX5_seen_73 : decode cX5_seen 73 = .ok (.iload 9, 2) := by decide +kernel
theorem dX5_seen_75 : decode cX5_seen 75 = .ok (.aload_n 0, 1) := by decide +kernel
theorem dX5_seen_76 : decode cX5_seen 76 = .ok (.invokevirtual 93, 3) := by decide +kernel
theorem dX5_seen_79 : decode cX5_seen 79 = .ok (.if_icmp .ge 116, 3) := by decide +kernel
theorem dX5_seen_82 : decode cX5_seen 82 = .ok (.aload_n 0, 1) := by decide +kernel
theorem dX5_seen_83 : decode cX5_seen 83 = .ok (.getfield 7, 3) := by decide +kernel
theorem dX5_seen_86 : decode cX5_seen 86 = .ok (.iconst 3, 1) := by decide +kernel
theorem dX5_seen_87 : decode cX5_seen 87 = .ok (.iload 9, 2) := by decide +kernel
theorem dX5_seen_89 : decode cX5_seen 89 = .ok (.iastore, 1) := by decide +kernel
theorem dX5_seen_90 : decode cX5_seen 90 = .ok (.iconst 1, 1) := by decide +kernel
theorem dX5_seen_91 : decode cX5_seen 91 = .ok (.istore 10, 2) := by decide +kernel
theorem dX5_seen_93 : decode cX5_seen 93 = .ok (.iconst 0, 1) := by decide +kernel
theorem dX5_seen_94 : decode cX5_seen 94 = .ok (.istore 11, 2) := by decide +kernel
theorem dX5_seen_96 : decode cX5_seen 96 = .ok (.iload 11, 2) := by decide +kernel
theorem dX5_seen_98 : decode cX5_seen 98 = .ok (.iload 4, 2) := by decide +kernel
theorem dX5_seen_100 : decode cX5_seen 100 = .ok (.if_icmp .ge 51, 3) := by decide +kernel
theorem dX5_seen_103 : decode cX5_seen 103 = .ok (.aload_n 0, 1) := by decide +kernel
theorem dX5_seen_104 : decode cX5_seen 104 = .ok (.invokevirtual 155, 3) := by decide +kernel
theorem dX5_seen_107 : decode cX5_seen 107 = .ok (.pop, 1) := by decide +kernel
theorem dX5_seen_108 : decode cX5_seen 108 = .ok (.iload 10, 2) := by decide +kernel
theorem dX5_seen_110 : decode cX5_seen 110 = .ok (.ifCond .eq 32, 3) := by decide +kernel
theorem dX5_seen_113 : decode cX5_seen 113 = .ok (.aload_n 0, 1) := by decide +kernel
theorem dX5_seen_114 : decode cX5_seen 114 = .ok (.getfield 7, 3) := by decide +kernel
theorem dX5_seen_117 : decode cX5_seen 117 = .ok (.iconst 3, 1) := by decide +kernel
theorem dX5_seen_118 : decode cX5_seen 118 = .ok (.iaload, 1) := by decide +kernel
theorem dX5_seen_119 : decode cX5_seen 119 = .ok (.i2l, 1) := by decide +kernel
theorem dX5_seen_120 : decode cX5_seen 120 = .ok (.aload_n 0, 1) := by decide +kernel
theorem dX5_seen_121 : decode cX5_seen 121 = .ok (.getfield 34, 3) := by decide +kernel
theorem dX5_seen_124 : decode cX5_seen 124 = .ok (.bipush 24, 2) := by decide +kernel
theorem dX5_seen_126 : decode cX5_seen 126 = .ok (.iload_n 1, 1) := by decide +kernel
theorem dX5_seen_127 : decode cX5_seen 127 = .ok (.imul, 1) := by decide +kernel
theorem dX5_seen_128 : decode cX5_seen 128 = .ok (.iload_n 3, 1) := by decide +kernel
theorem dX5_seen_129 : decode cX5_seen 129 = .ok (.iadd, 1) := by decide +kernel
theorem dX5_seen_130 : decode cX5_seen 130 = .ok (.iload 11, 2) := by decide +kernel
theorem dX5_seen_132 : decode cX5_seen 132 = .ok (.iadd, 1) := by decide +kernel
theorem dX5_seen_133 : decode cX5_seen 133 = .ok (.laload, 1) := by decide +kernel
theorem dX5_seen_134 : decode cX5_seen 134 = .ok (.lcmp, 1) := by decide +kernel
theorem dX5_seen_135 : decode cX5_seen 135 = .ok (.ifCond .ne 7, 3) := by decide +kernel
theorem dX5_seen_138 : decode cX5_seen 138 = .ok (.iconst 1, 1) := by decide +kernel
theorem dX5_seen_139 : decode cX5_seen 139 = .ok (.goto 4, 3) := by decide +kernel
theorem dX5_seen_142 : decode cX5_seen 142 = .ok (.iconst 0, 1) := by decide +kernel
theorem dX5_seen_143 : decode cX5_seen 143 = .ok (.istore 10, 2) := by decide +kernel
theorem dX5_seen_145 : decode cX5_seen 145 = .ok (.iinc 11 1, 3) := by decide +kernel
theorem dX5_seen_148 : decode cX5_seen 148 = .ok (.goto (-52), 3) := by decide +kernel
theorem dX5_seen_151 : decode cX5_seen 151 = .ok (.iload 10, 2) := by decide +kernel
theorem dX5_seen_153 : decode cX5_seen 153 = .ok (.ifCond .eq 13, 3) := by decide +kernel
theorem dX5_seen_156 : decode cX5_seen 156 = .ok (.iload 7, 2) := by decide +kernel
theorem dX5_seen_158 : decode cX5_seen 158 = .ok (.ifCond .ne 8, 3) := by decide +kernel
theorem dX5_seen_161 : decode cX5_seen 161 = .ok (.iload 9, 2) := by decide +kernel
theorem dX5_seen_163 : decode cX5_seen 163 = .ok (.goto 5, 3) := by decide +kernel
theorem dX5_seen_166 : decode cX5_seen 166 = .ok (.iload 8, 2) := by decide +kernel
theorem dX5_seen_168 : decode cX5_seen 168 = .ok (.istore 8, 2) := by decide +kernel
theorem dX5_seen_170 : decode cX5_seen 170 = .ok (.iload 7, 2) := by decide +kernel
theorem dX5_seen_172 : decode cX5_seen 172 = .ok (.iload 10, 2) := by decide +kernel
theorem dX5_seen_174 : decode cX5_seen 174 = .ok (.ifCond .eq 7, 3) := by decide +kernel
theorem dX5_seen_177 : decode cX5_seen 177 = .ok (.iconst 1, 1) := by decide +kernel
theorem dX5_seen_178 : decode cX5_seen 178 = .ok (.goto 4, 3) := by decide +kernel
theorem dX5_seen_181 : decode cX5_seen 181 = .ok (.iconst 0, 1) := by decide +kernel
theorem dX5_seen_182 : decode cX5_seen 182 = .ok (.iadd, 1) := by decide +kernel
theorem dX5_seen_183 : decode cX5_seen 183 = .ok (.istore 7, 2) := by decide +kernel
theorem dX5_seen_185 : decode cX5_seen 185 = .ok (.aload_n 0, 1) := by decide +kernel
theorem dX5_seen_186 : decode cX5_seen 186 = .ok (.invokevirtual 176, 3) := by decide +kernel
theorem dX5_seen_189 : decode cX5_seen 189 = .ok (.iinc 9 1, 3) := by decide +kernel
theorem dX5_seen_192 : decode cX5_seen 192 = .ok (.goto (-119), 3) := by decide +kernel
theorem dX5_seen_195 : decode cX5_seen 195 = .ok (.iload 5, 2) := by decide +kernel
theorem dX5_seen_197 : decode cX5_seen 197 = .ok (.ifCond .ne 8, 3) := by decide +kernel
theorem dX5_seen_200 : decode cX5_seen 200 = .ok (.iload 7, 2) := by decide +kernel
theorem dX5_seen_202 : decode cX5_seen 202 = .ok (.goto 5, 3) := by decide +kernel
theorem dX5_seen_205 : decode cX5_seen 205 = .ok (.iload 8, 2) := by decide +kernel
theorem dX5_seen_207 : decode cX5_seen 207 = .ok (.ireturn, 1) := by decide +kernel
theorem dX5_film_0 : decode cX5_film 0 = .ok (.iload_n 1, 1) := by decide +kernel
theorem dX5_film_1 : decode cX5_film 1 = .ok (.i2l, 1) := by decide +kernel
theorem dX5_film_2 : decode cX5_film 2 = .ok (.lconst 1, 1) := by decide +kernel
theorem dX5_film_3 : decode cX5_film 3 = .ok (.ldc2_w 203, 3) := by decide +kernel
theorem dX5_film_6 : decode cX5_film 6 = .ok (.invokestatic 49, 3) := by decide +kernel
theorem dX5_film_9 : decode cX5_film 9 = .ok (.ifCond .eq 17, 3) := by decide +kernel
theorem dX5_film_12 : decode cX5_film 12 = .ok (.iload_n 2, 1) := by decide +kernel
theorem dX5_film_13 : decode cX5_film 13 = .ok (.invokestatic 193, 3) := by decide +kernel
theorem dX5_film_16 : decode cX5_film 16 = .ok (.ifCond .eq 10, 3) := by decide +kernel
theorem dX5_film_19 : decode cX5_film 19 = .ok (.iload_n 3, 1) := by decide +kernel
theorem dX5_film_20 : decode cX5_film 20 = .ok (.invokestatic 196, 3) := by decide +kernel
theorem dX5_film_23 : decode cX5_film 23 = .ok (.ifCond .ne 5, 3) := by decide +kernel
theorem dX5_film_26 : decode cX5_film 26 = .ok (.iconst (-1), 1) := by decide +kernel
theorem dX5_film_27 : decode cX5_film 27 = .ok (.ireturn, 1) := by decide +kernel
theorem dX5_film_28 : decode cX5_film 28 = .ok (.aload_n 0, 1) := by decide +kernel
theorem dX5_film_29 : decode cX5_film 29 = .ok (.iload_n 2, 1) := by decide +kernel
theorem dX5_film_30 : decode cX5_film 30 = .ok (.iload_n 3, 1) := by decide +kernel
theorem dX5_film_31 : decode cX5_film 31 = .ok (.iload 4, 2) := by decide +kernel
theorem dX5_film_33 : decode cX5_film 33 = .ok (.iload_n 1, 1) := by decide +kernel
theorem dX5_film_34 : decode cX5_film 34 = .ok (.invokevirtual 199, 3) := by decide +kernel
theorem dX5_film_37 : decode cX5_film 37 = .ok (.istore 5, 2) := by decide +kernel
theorem dX5_film_39 : decode cX5_film 39 = .ok (.iload 5, 2) := by decide +kernel
theorem dX5_film_41 : decode cX5_film 41 = .ok (.ifCond .ge 6, 3) := by decide +kernel
theorem dX5_film_44 : decode cX5_film 44 = .ok (.iload 5, 2) := by decide +kernel
theorem dX5_film_46 : decode cX5_film 46 = .ok (.ireturn, 1) := by decide +kernel
theorem dX5_film_47 : decode cX5_film 47 = .ok (.aload_n 0, 1) := by decide +kernel
theorem dX5_film_48 : decode cX5_film 48 = .ok (.invokevirtual 173, 3) := by decide +kernel
theorem dX5_film_51 : decode cX5_film 51 = .ok (.iconst 0, 1) := by decide +kernel
theorem dX5_film_52 : decode cX5_film 52 = .ok (.istore 6, 2) := by decide +kernel
theorem dX5_film_54 : decode cX5_film 54 = .ok (.iload 6, 2) := by decide +kernel
theorem dX5_film_56 : decode cX5_film 56 = .ok (.iload_n 1, 1) := by decide +kernel
theorem dX5_film_57 : decode cX5_film 57 = .ok (.if_icmp .ge 36, 3) := by decide +kernel
theorem dX5_film_60 : decode cX5_film 60 = .ok (.aload_n 0, 1) := by decide +kernel
theorem dX5_film_61 : decode cX5_film 61 = .ok (.invokevirtual 155, 3) := by decide +kernel
theorem dX5_film_64 : decode cX5_film 64 = .ok (.pop, 1) := by decide +kernel
theorem dX5_film_65 : decode cX5_film 65 = .ok (.aload_n 0, 1) := by decide +kernel
theorem dX5_film_66 : decode cX5_film 66 = .ok (.getfield 34, 3) := by decide +kernel
theorem dX5_film_69 : decode cX5_film 69 = .ok (.bipush 24, 2) := by decide +kernel
theorem dX5_film_71 : decode cX5_film 71 = .ok (.iload_n 2, 1) := by decide +kernel
theorem dX5_film_72 : decode cX5_film 72 = .ok (.imul, 1) := by decide +kernel
theorem dX5_film_73 : decode cX5_film 73 = .ok (.iload 4, 2) := by decide +kernel
theorem dX5_film_75 : decode cX5_film 75 = .ok (.iadd, 1) := by decide +kernel
theorem dX5_film_76 : decode cX5_film 76 = .ok (.iload 6, 2) := by decide +kernel
theorem dX5_film_78 : decode cX5_film 78 = .ok (.iadd, 1) := by decide +kernel
theorem dX5_film_79 : decode cX5_film 79 = .ok (.aload_n 0, 1) := by decide +kernel
theorem dX5_film_80 : decode cX5_film 80 = .ok (.getfield 7, 3) := by decide +kernel
theorem dX5_film_83 : decode cX5_film 83 = .ok (.iconst 3, 1) := by decide +kernel
theorem dX5_film_84 : decode cX5_film 84 = .ok (.iaload, 1) := by decide +kernel
theorem dX5_film_85 : decode cX5_film 85 = .ok (.i2l, 1) := by decide +kernel
theorem dX5_film_86 : decode cX5_film 86 = .ok (.lastore, 1) := by decide +kernel
theorem dX5_film_87 : decode cX5_film 87 = .ok (.iinc 6 1, 3) := by decide +kernel
theorem dX5_film_90 : decode cX5_film 90 = .ok (.goto (-36), 3) := by decide +kernel
theorem dX5_film_93 : decode cX5_film 93 = .ok (.aload_n 0, 1) := by decide +kernel
theorem dX5_film_94 : decode cX5_film 94 = .ok (.invokevirtual 176, 3) := by decide +kernel
theorem dX5_film_97 : decode cX5_film 97 = .ok (.iload_n 1, 1) := by decide +kernel
theorem dX5_film_98 : decode cX5_film 98 = .ok (.ireturn, 1) := by decide +kernel
theorem dX5_sheet_0 : decode cX5_sheet 0 = .ok (.iload_n 1, 1) := by decide +kernel
theorem dX5_sheet_1 : decode cX5_sheet 1 = .ok (.invokestatic 193, 3) := by decide +kernel
theorem dX5_sheet_4 : decode cX5_sheet 4 = .ok (.ifCond .eq 16, 3) := by decide +kernel
theorem dX5_sheet_7 : decode cX5_sheet 7 = .ok (.iload_n 2, 1) := by decide +kernel
theorem dX5_sheet_8 : decode cX5_sheet 8 = .ok (.invokestatic 196, 3) := by decide +kernel
theorem dX5_sheet_11 : decode cX5_sheet 11 = .ok (.ifCond .eq 9, 3) := by decide +kernel
theorem dX5_sheet_14 : decode cX5_sheet 14 = .ok (.iload_n 3, 1) := by decide +kernel
theorem dX5_sheet_15 : decode cX5_sheet 15 = .ok (.bipush 24, 2) := by decide +kernel
theorem dX5_sheet_17 : decode cX5_sheet 17 = .ok (.if_icmp .le 5, 3) := by decide +kernel
theorem dX5_sheet_20 : decode cX5_sheet 20 = .ok (.iconst (-1), 1) := by decide +kernel
theorem dX5_sheet_21 : decode cX5_sheet 21 = .ok (.ireturn, 1) := by decide +kernel
theorem dX5_sheet_22 : decode cX5_sheet 22 = .ok (.iload_n 3, 1) := by decide +kernel
theorem dX5_sheet_23 : decode cX5_sheet 23 = .ok (.ifCond .ge 6, 3) := by decide +kernel
theorem dX5_sheet_26 : decode cX5_sheet 26 = .ok (.bipush (-14), 2) := by decide +kernel
theorem dX5_sheet_28 : decode cX5_sheet 28 = .ok (.ireturn, 1) := by decide +kernel
theorem dX5_sheet_29 : decode cX5_sheet 29 = .ok (.aload_n 0, 1) := by decide +kernel
theorem dX5_sheet_30 : decode cX5_sheet 30 = .ok (.getfield 28, 3) := by decide +kernel
theorem dX5_sheet_33 : decode cX5_sheet 33 = .ok (.iload_n 1, 1) := by decide +kernel
theorem dX5_sheet_34 : decode cX5_sheet 34 = .ok (.iload_n 2, 1) := by decide +kernel
theorem dX5_sheet_35 : decode cX5_sheet 35 = .ok (.iastore, 1) := by decide +kernel
theorem dX5_sheet_36 : decode cX5_sheet 36 = .ok (.aload_n 0, 1) := by decide +kernel
theorem dX5_sheet_37 : decode cX5_sheet 37 = .ok (.getfield 31, 3) := by decide +kernel
theorem dX5_sheet_40 : decode cX5_sheet 40 = .ok (.iload_n 1, 1) := by decide +kernel
theorem dX5_sheet_41 : decode cX5_sheet 41 = .ok (.iload_n 3, 1) := by decide +kernel
theorem dX5_sheet_42 : decode cX5_sheet 42 = .ok (.iastore, 1) := by decide +kernel
theorem dX5_sheet_43 : decode cX5_sheet 43 = .ok (.iconst 0, 1) := by decide +kernel
theorem dX5_sheet_44 : decode cX5_sheet 44 = .ok (.istore 4, 2) := by decide +kernel
theorem dX5_sheet_46 : decode cX5_sheet 46 = .ok (.iload 4, 2) := by decide +kernel
theorem dX5_sheet_48 : decode cX5_sheet 48 = .ok (.bipush 24, 2) := by decide +kernel
theorem dX5_sheet_50 : decode cX5_sheet 50 = .ok (.if_icmp .ge 22, 3) := by decide +kernel
theorem dX5_sheet_53 : decode cX5_sheet 53 = .ok (.aload_n 0, 1) := by decide +kernel
theorem dX5_sheet_54 : decode cX5_sheet 54 = .ok (.getfield 34, 3) := by decide +kernel
theorem dX5_sheet_57 : decode cX5_sheet 57 = .ok (.bipush 24, 2) := by decide +kernel
theorem dX5_sheet_59 : decode cX5_sheet 59 = .ok (.iload_n 1, 1) := by decide +kernel
theorem dX5_sheet_60 : decode cX5_sheet 60 = .ok (.imul, 1) := by decide +kernel
theorem dX5_sheet_61 : decode cX5_sheet 61 = .ok (.iload 4, 2) := by decide +kernel
theorem dX5_sheet_63 : decode cX5_sheet 63 = .ok (.iadd, 1) := by decide +kernel
theorem dX5_sheet_64 : decode cX5_sheet 64 = .ok (.lconst 0, 1) := by decide +kernel
theorem dX5_sheet_65 : decode cX5_sheet 65 = .ok (.lastore, 1) := by decide +kernel
theorem dX5_sheet_66 : decode cX5_sheet 66 = .ok (.iinc 4 1, 3) := by decide +kernel
theorem dX5_sheet_69 : decode cX5_sheet 69 = .ok (.goto (-23), 3) := by decide +kernel
theorem dX5_sheet_72 : decode cX5_sheet 72 = .ok (.iload_n 3, 1) := by decide +kernel
theorem dX5_sheet_73 : decode cX5_sheet 73 = .ok (.ireturn, 1) := by decide +kernel
theorem dX5_drop_0 : decode cX5_drop 0 = .ok (.iload_n 1, 1) := by decide +kernel
theorem dX5_drop_1 : decode cX5_drop 1 = .ok (.invokestatic 193, 3) := by decide +kernel
theorem dX5_drop_4 : decode cX5_drop 4 = .ok (.ifCond .ne 5, 3) := by decide +kernel
theorem dX5_drop_7 : decode cX5_drop 7 = .ok (.iconst (-1), 1) := by decide +kernel
theorem dX5_drop_8 : decode cX5_drop 8 = .ok (.ireturn, 1) := by decide +kernel
theorem dX5_drop_9 : decode cX5_drop 9 = .ok (.aload_n 0, 1) := by decide +kernel
theorem dX5_drop_10 : decode cX5_drop 10 = .ok (.getfield 28, 3) := by decide +kernel
theorem dX5_drop_13 : decode cX5_drop 13 = .ok (.iload_n 1, 1) := by decide +kernel
theorem dX5_drop_14 : decode cX5_drop 14 = .ok (.iaload, 1) := by decide +kernel
theorem dX5_drop_15 : decode cX5_drop 15 = .ok (.ifCond .ge 6, 3) := by decide +kernel
theorem dX5_drop_18 : decode cX5_drop 18 = .ok (.bipush (-11), 2) := by decide +kernel
theorem dX5_drop_20 : decode cX5_drop 20 = .ok (.ireturn, 1) := by decide +kernel
theorem dX5_drop_21 : decode cX5_drop 21 = .ok (.aload_n 0, 1) := by decide +kernel
theorem dX5_drop_22 : decode cX5_drop 22 = .ok (.getfield 28, 3) := by decide +kernel
theorem dX5_drop_25 : decode cX5_drop 25 = .ok (.iload_n 1, 1) := by decide +kernel
theorem dX5_drop_26 : decode cX5_drop 26 = .ok (.iconst (-1), 1) := by decide +kernel
theorem dX5_drop_27 : decode cX5_drop 27 = .ok (.iastore, 1) := by decide +kernel
theorem dX5_drop_28 : decode cX5_drop 28 = .ok (.aload_n 0, 1) := by decide +kernel
theorem dX5_drop_29 : decode cX5_drop 29 = .ok (.getfield 31, 3) := by decide +kernel
theorem dX5_drop_32 : decode cX5_drop 32 = .ok (.iload_n 1, 1) := by decide +kernel
theorem dX5_drop_33 : decode cX5_drop 33 = .ok (.iaload, 1) := by decide +kernel
theorem dX5_drop_34 : decode cX5_drop 34 = .ok (.ireturn, 1) := by decide +kernel
theorem dX5_item_0 : decode cX5_item 0 = .ok (.iload_n 1, 1) := by decide +kernel
theorem dX5_item_1 : decode cX5_item 1 = .ok (.invokestatic 193, 3) := by decide +kernel
theorem dX5_item_4 : decode cX5_item 4 = .ok (.ifCond .eq 10, 3) := by decide +kernel
theorem dX5_item_7 : decode cX5_item 7 = .ok (.iload_n 2, 1) := by decide +kernel
theorem dX5_item_8 : decode cX5_item 8 = .ok (.invokestatic 196, 3) := by decide +kernel
theorem dX5_item_11 : decode cX5_item 11 = .ok (.ifCond .ne 5, 3) := by decide +kernel
theorem dX5_item_14 : decode cX5_item 14 = .ok (.iconst (-1), 1) := by decide +kernel
theorem dX5_item_15 : decode cX5_item 15 = .ok (.ireturn, 1) := by decide +kernel
theorem dX5_item_16 : decode cX5_item 16 = .ok (.aload_n 0, 1) := by decide +kernel
theorem dX5_item_17 : decode cX5_item 17 = .ok (.iload_n 1, 1) := by decide +kernel
theorem dX5_item_18 : decode cX5_item 18 = .ok (.iload_n 2, 1) := by decide +kernel
theorem dX5_item_19 : decode cX5_item 19 = .ok (.iload_n 3, 1) := by decide +kernel
theorem dX5_item_20 : decode cX5_item 20 = .ok (.iconst 1, 1) := by decide +kernel
theorem dX5_item_21 : decode cX5_item 21 = .ok (.invokevirtual 199, 3) := by decide +kernel
theorem dX5_item_24 : decode cX5_item 24 = .ok (.istore 6, 2) := by decide +kernel
theorem dX5_item_26 : decode cX5_item 26 = .ok (.iload 6, 2) := by decide +kernel
theorem dX5_item_28 : decode cX5_item 28 = .ok (.ifCond .ge 6, 3) := by decide +kernel
theorem dX5_item_31 : decode cX5_item 31 = .ok (.iload 6, 2) := by decide +kernel
theorem dX5_item_33 : decode cX5_item 33 = .ok (.ireturn, 1) := by decide +kernel
theorem dX5_item_34 : decode cX5_item 34 = .ok (.aload_n 0, 1) := by decide +kernel
theorem dX5_item_35 : decode cX5_item 35 = .ok (.getfield 34, 3) := by decide +kernel
theorem dX5_item_38 : decode cX5_item 38 = .ok (.bipush 24, 2) := by decide +kernel
theorem dX5_item_40 : decode cX5_item 40 = .ok (.iload_n 1, 1) := by decide +kernel
theorem dX5_item_41 : decode cX5_item 41 = .ok (.imul, 1) := by decide +kernel
theorem dX5_item_42 : decode cX5_item 42 = .ok (.iload_n 3, 1) := by decide +kernel
theorem dX5_item_43 : decode cX5_item 43 = .ok (.iadd, 1) := by decide +kernel
theorem dX5_item_44 : decode cX5_item 44 = .ok (.iload_n 2, 1) := by decide +kernel
theorem dX5_item_45 : decode cX5_item 45 = .ok (.ifCond .ne 11, 3) := by decide +kernel
theorem dX5_item_48 : decode cX5_item 48 = .ok (.lload 4, 2) := by decide +kernel
theorem dX5_item_50 : decode cX5_item 50 = .ok (.l2i, 1) := by decide +kernel
theorem dX5_item_51 : decode cX5_item 51 = .ok (.i2b, 1) := by decide +kernel
theorem dX5_item_52 : decode cX5_item 52 = .ok (.i2l, 1) := by decide +kernel
theorem dX5_item_53 : decode cX5_item 53 = .ok (.goto 30, 3) := by decide +kernel
theorem dX5_item_56 : decode cX5_item 56 = .ok (.iload_n 2, 1) := by decide +kernel
theorem dX5_item_57 : decode cX5_item 57 = .ok (.iconst 1, 1) := by decide +kernel
theorem dX5_item_58 : decode cX5_item 58 = .ok (.if_icmp .ne 11, 3) := by decide +kernel
theorem dX5_item_61 : decode cX5_item 61 = .ok (.lload 4, 2) := by decide +kernel
theorem dX5_item_63 : decode cX5_item 63 = .ok (.l2i, 1) := by decide +kernel
theorem dX5_item_64 : decode cX5_item 64 = .ok (.i2s, 1) := by decide +kernel
theorem dX5_item_65 : decode cX5_item 65 = .ok (.i2l, 1) := by decide +kernel
theorem dX5_item_66 : decode cX5_item 66 = .ok (.goto 17, 3) := by decide +kernel
theorem dX5_item_69 : decode cX5_item 69 = .ok (.iload_n 2, 1) := by decide +kernel
theorem dX5_item_70 : decode cX5_item 70 = .ok (.iconst 2, 1) := by decide +kernel
theorem dX5_item_71 : decode cX5_item 71 = .ok (.if_icmp .ne 10, 3) := by decide +kernel
theorem dX5_item_74 : decode cX5_item 74 = .ok (.lload 4, 2) := by decide +kernel
theorem dX5_item_76 : decode cX5_item 76 = .ok (.l2i, 1) := by decide +kernel
theorem dX5_item_77 : decode cX5_item 77 = .ok (.i2l, 1) := by decide +kernel
theorem dX5_item_78 : decode cX5_item 78 = .ok (.goto 5, 3) := by decide +kernel
theorem dX5_item_81 : decode cX5_item 81 = .ok (.lload 4, 2) := by decide +kernel
theorem dX5_item_83 : decode cX5_item 83 = .ok (.lastore, 1) := by decide +kernel
theorem dX5_item_84 : decode cX5_item 84 = .ok (.iconst 1, 1) := by decide +kernel
theorem dX5_item_85 : decode cX5_item 85 = .ok (.ireturn, 1) := by decide +kernel
theorem dX5_copy_0 : decode cX5_copy 0 = .ok (.iload_n 1, 1) := by decide +kernel
theorem dX5_copy_1 : decode cX5_copy 1 = .ok (.invokestatic 193, 3) := by decide +kernel
theorem dX5_copy_4 : decode cX5_copy 4 = .ok (.ifCond .eq 10, 3) := by decide +kernel
theorem dX5_copy_7 : decode cX5_copy 7 = .ok (.iload_n 3, 1) := by decide +kernel
theorem dX5_copy_8 : decode cX5_copy 8 = .ok (.invokestatic 193, 3) := by decide +kernel
theorem dX5_copy_11 : decode cX5_copy 11 = .ok (.ifCond .ne 5, 3) := by decide +kernel
theorem dX5_copy_14 : decode cX5_copy 14 = .ok (.iconst (-1), 1) := by decide +kernel
theorem dX5_copy_15 : decode cX5_copy 15 = .ok (.ireturn, 1) := by decide +kernel
theorem dX5_copy_16 : decode cX5_copy 16 = .ok (.aload_n 0, 1) := by decide +kernel
theorem dX5_copy_17 : decode cX5_copy 17 = .ok (.getfield 28, 3) := by decide +kernel
theorem dX5_copy_20 : decode cX5_copy 20 = .ok (.iload_n 1, 1) := by decide +kernel
theorem dX5_copy_21 : decode cX5_copy 21 = .ok (.iaload, 1) := by decide +kernel
theorem dX5_copy_22 : decode cX5_copy 22 = .ok (.ifCond .lt 12, 3) := by decide +kernel
theorem dX5_copy_25 : decode cX5_copy 25 = .ok (.aload_n 0, 1) := by decide +kernel
theorem dX5_copy_26 : decode cX5_copy 26 = .ok (.getfield 28, 3) := by decide +kernel
theorem dX5_copy_29 : decode cX5_copy 29 = .ok (.iload_n 3, 1) := by decide +kernel
theorem dX5_copy_30 : decode cX5_copy 30 = .ok (.iaload, 1) := by decide +kernel
theorem dX5_copy_31 : decode cX5_copy 31 = .ok (.ifCond .ge 6, 3) := by decide +kernel
theorem dX5_copy_34 : decode cX5_copy 34 = .ok (.bipush (-11), 2) := by decide +kernel
theorem dX5_copy_36 : decode cX5_copy 36 = .ok (.ireturn, 1) := by decide +kernel
theorem dX5_copy_37 : decode cX5_copy 37 = .ok (.aload_n 0, 1) := by decide +kernel
theorem dX5_copy_38 : decode cX5_copy 38 = .ok (.iload_n 3, 1) := by decide +kernel
theorem dX5_copy_39 : decode cX5_copy 39 = .ok (.aload_n 0, 1) := by decide +kernel
theorem dX5_copy_40 : decode cX5_copy 40 = .ok (.getfield 28, 3) := by decide +kernel
theorem dX5_copy_43 : decode cX5_copy 43 = .ok (.iload_n 1, 1) := by decide +kernel
theorem dX5_copy_44 : decode cX5_copy 44 = .ok (.iaload, 1) := by decide +kernel
theorem dX5_copy_45 : decode cX5_copy 45 = .ok (.iload 4, 2) := by decide +kernel
theorem dX5_copy_47 : decode cX5_copy 47 = .ok (.iload 5, 2) := by decide +kernel
theorem dX5_copy_49 : decode cX5_copy 49 = .ok (.invokevirtual 199, 3) := by decide +kernel
theorem dX5_copy_52 : decode cX5_copy 52 = .ok (.istore 6, 2) := by decide +kernel
theorem dX5_copy_54 : decode cX5_copy 54 = .ok (.iload 6, 2) := by decide +kernel
theorem dX5_copy_56 : decode cX5_copy 56 = .ok (.ifCond .ne 20, 3) := by decide +kernel
theorem dX5_copy_59 : decode cX5_copy 59 = .ok (.aload_n 0, 1) := by decide +kernel
theorem dX5_copy_60 : decode cX5_copy 60 = .ok (.iload_n 1, 1) := by decide +kernel
theorem dX5_copy_61 : decode cX5_copy 61 = .ok (.aload_n 0, 1) := by decide +kernel
theorem dX5_copy_62 : decode cX5_copy 62 = .ok (.getfield 28, 3) := by decide +kernel
theorem dX5_copy_65 : decode cX5_copy 65 = .ok (.iload_n 1, 1) := by decide +kernel
theorem dX5_copy_66 : decode cX5_copy 66 = .ok (.iaload, 1) := by decide +kernel
theorem dX5_copy_67 : decode cX5_copy 67 = .ok (.iload_n 2, 1) := by decide +kernel
theorem dX5_copy_68 : decode cX5_copy 68 = .ok (.iload 5, 2) := by decide +kernel
theorem dX5_copy_70 : decode cX5_copy 70 = .ok (.invokevirtual 199, 3) := by decide +kernel
theorem dX5_copy_73 : decode cX5_copy 73 = .ok (.goto 5, 3) := by decide +kernel
theorem dX5_copy_76 : decode cX5_copy 76 = .ok (.iload 6, 2) := by decide +kernel
theorem dX5_copy_78 : decode cX5_copy 78 = .ok (.istore 6, 2) := by decide +kernel
theorem dX5_copy_80 : decode cX5_copy 80 = .ok (.iload 6, 2) := by decide +kernel
theorem dX5_copy_82 : decode cX5_copy 82 = .ok (.ifCond .ge 6, 3) := by decide +kernel
theorem dX5_copy_85 : decode cX5_copy 85 = .ok (.iload 6, 2) := by decide +kernel
theorem dX5_copy_87 : decode cX5_copy 87 = .ok (.ireturn, 1) := by decide +kernel
theorem dX5_copy_88 : decode cX5_copy 88 = .ok (.iconst 0, 1) := by decide +kernel
theorem dX5_copy_89 : decode cX5_copy 89 = .ok (.istore 7, 2) := by decide +kernel
theorem dX5_copy_91 : decode cX5_copy 91 = .ok (.iload 7, 2) := by decide +kernel
theorem dX5_copy_93 : decode cX5_copy 93 = .ok (.iload 5, 2) := by decide +kernel
theorem dX5_copy_95 : decode cX5_copy 95 = .ok (.if_icmp .ge 30, 3) := by decide +kernel
theorem dX5_copy_98 : decode cX5_copy 98 = .ok (.aload_n 0, 1) := by decide +kernel
theorem dX5_copy_99 : decode cX5_copy 99 = .ok (.getfield 38, 3) := by decide +kernel
theorem dX5_copy_102 : decode cX5_copy 102 = .ok (.iload 7, 2) := by decide +kernel
theorem dX5_copy_104 : decode cX5_copy 104 = .ok (.aload_n 0, 1) := by decide +kernel
theorem dX5_copy_105 : decode cX5_copy 105 = .ok (.getfield 34, 3) := by decide +kernel
theorem dX5_copy_108 : decode cX5_copy 108 = .ok (.bipush 24, 2) := by decide +kernel
theorem dX5_copy_110 : decode cX5_copy 110 = .ok (.iload_n 1, 1) := by decide +kernel
theorem dX5_copy_111 : decode cX5_copy 111 = .ok (.imul, 1) := by decide +kernel
theorem dX5_copy_112 : decode cX5_copy 112 = .ok (.iload_n 2, 1) := by decide +kernel
theorem dX5_copy_113 : decode cX5_copy 113 = .ok (.iadd, 1) := by decide +kernel
theorem dX5_copy_114 : decode cX5_copy 114 = .ok (.iload 7, 2) := by decide +kernel
theorem dX5_copy_116 : decode cX5_copy 116 = .ok (.iadd, 1) := by decide +kernel
theorem dX5_copy_117 : decode cX5_copy 117 = .ok (.laload, 1) := by decide +kernel
theorem dX5_copy_118 : decode cX5_copy 118 = .ok (.lastore, 1) := by decide +kernel
theorem dX5_copy_119 : decode cX5_copy 119 = .ok (.iinc 7 1, 3) := by decide +kernel
theorem dX5_copy_122 : decode cX5_copy 122 = .ok (.goto (-31), 3) := by decide +kernel
theorem dX5_copy_125 : decode cX5_copy 125 = .ok (.iconst 0, 1) := by decide +kernel
theorem dX5_copy_126 : decode cX5_copy 126 = .ok (.istore 7, 2) := by decide +kernel
theorem dX5_copy_128 : decode cX5_copy 128 = .ok (.iload 7, 2) := by decide +kernel
theorem dX5_copy_130 : decode cX5_copy 130 = .ok (.iload 5, 2) := by decide +kernel
theorem dX5_copy_132 : decode cX5_copy 132 = .ok (.if_icmp .ge 31, 3) := by decide +kernel
theorem dX5_copy_135 : decode cX5_copy 135 = .ok (.aload_n 0, 1) := by decide +kernel
theorem dX5_copy_136 : decode cX5_copy 136 = .ok (.getfield 34, 3) := by decide +kernel
theorem dX5_copy_139 : decode cX5_copy 139 = .ok (.bipush 24, 2) := by decide +kernel
theorem dX5_copy_141 : decode cX5_copy 141 = .ok (.iload_n 3, 1) := by decide +kernel
theorem dX5_copy_142 : decode cX5_copy 142 = .ok (.imul, 1) := by decide +kernel
theorem dX5_copy_143 : decode cX5_copy 143 = .ok (.iload 4, 2) := by decide +kernel
theorem dX5_copy_145 : decode cX5_copy 145 = .ok (.iadd, 1) := by decide +kernel
theorem dX5_copy_146 : decode cX5_copy 146 = .ok (.iload 7, 2) := by decide +kernel
theorem dX5_copy_148 : decode cX5_copy 148 = .ok (.iadd, 1) := by decide +kernel
theorem dX5_copy_149 : decode cX5_copy 149 = .ok (.aload_n 0, 1) := by decide +kernel
theorem dX5_copy_150 : decode cX5_copy 150 = .ok (.getfield 38, 3) := by decide +kernel
theorem dX5_copy_153 : decode cX5_copy 153 = .ok (.iload 7, 2) := by decide +kernel
theorem dX5_copy_155 : decode cX5_copy 155 = .ok (.laload, 1) := by decide +kernel
theorem dX5_copy_156 : decode cX5_copy 156 = .ok (.lastore, 1) := by decide +kernel
theorem dX5_copy_157 : decode cX5_copy 157 = .ok (.iinc 7 1, 3) := by decide +kernel
theorem dX5_copy_160 : decode cX5_copy 160 = .ok (.goto (-32), 3) := by decide +kernel
theorem dX5_copy_163 : decode cX5_copy 163 = .ok (.iload 5, 2) := by decide +kernel
theorem dX5_copy_165 : decode cX5_copy 165 = .ok (.ireturn, 1) := by decide +kernel
theorem dJ6_compare_7cf53_0 : decode cJ6_compare_7cf53 0 = .ok (.iload_n 0, 1) := by decide +kernel
theorem dJ6_compare_7cf53_1 : decode cJ6_compare_7cf53 1 = .ok (.iload_n 1, 1) := by decide +kernel
theorem dJ6_compare_7cf53_2 : decode cJ6_compare_7cf53 2 = .ok (.if_icmp .ge 7, 3) := by decide +kernel
theorem dJ6_compare_7cf53_5 : decode cJ6_compare_7cf53 5 = .ok (.iconst (-1), 1) := by decide +kernel
theorem dJ6_compare_7cf53_6 : decode cJ6_compare_7cf53 6 = .ok (.goto 13, 3) := by decide +kernel
theorem dJ6_compare_7cf53_9 : decode cJ6_compare_7cf53 9 = .ok (.iload_n 0, 1) := by decide +kernel
theorem dJ6_compare_7cf53_10 : decode cJ6_compare_7cf53 10 = .ok (.iload_n 1, 1) := by decide +kernel
theorem dJ6_compare_7cf53_11 : decode cJ6_compare_7cf53 11 = .ok (.if_icmp .ne 7, 3) := by decide +kernel
theorem dJ6_compare_7cf53_14 : decode cJ6_compare_7cf53 14 = .ok (.iconst 0, 1) := by decide +kernel
theorem dJ6_compare_7cf53_15 : decode cJ6_compare_7cf53 15 = .ok (.goto 4, 3) := by decide +kernel
theorem dJ6_compare_7cf53_18 : decode cJ6_compare_7cf53 18 = .ok (.iconst 1, 1) := by decide +kernel
theorem dJ6_compare_7cf53_19 : decode cJ6_compare_7cf53 19 = .ok (.ireturn, 1) := by decide +kernel
theorem dJ6_bitCount_0f7a4_0 : decode cJ6_bitCount_0f7a4 0 = .ok (.iload_n 0, 1) := by decide +kernel
theorem dJ6_bitCount_0f7a4_1 : decode cJ6_bitCount_0f7a4 1 = .ok (.iload_n 0, 1) := by decide +kernel
theorem dJ6_bitCount_0f7a4_2 : decode cJ6_bitCount_0f7a4 2 = .ok (.iconst 1, 1) := by decide +kernel
theorem dJ6_bitCount_0f7a4_3 : decode cJ6_bitCount_0f7a4 3 = .ok (.iushr, 1) := by decide +kernel
theorem dJ6_bitCount_0f7a4_4 : decode cJ6_bitCount_0f7a4 4 = .ok (.ldc_w 265, 3) := by decide +kernel
theorem dJ6_bitCount_0f7a4_7 : decode cJ6_bitCount_0f7a4 7 = .ok (.iand, 1) := by decide +kernel
theorem dJ6_bitCount_0f7a4_8 : decode cJ6_bitCount_0f7a4 8 = .ok (.isub, 1) := by decide +kernel
theorem dJ6_bitCount_0f7a4_9 : decode cJ6_bitCount_0f7a4 9 = .ok (.istore_n 0, 1) := by decide +kernel
theorem dJ6_bitCount_0f7a4_10 : decode cJ6_bitCount_0f7a4 10 = .ok (.iload_n 0, 1) := by decide +kernel
theorem dJ6_bitCount_0f7a4_11 : decode cJ6_bitCount_0f7a4 11 = .ok (.ldc_w 266, 3) := by decide +kernel
theorem dJ6_bitCount_0f7a4_14 : decode cJ6_bitCount_0f7a4 14 = .ok (.iand, 1) := by decide +kernel
theorem dJ6_bitCount_0f7a4_15 : decode cJ6_bitCount_0f7a4 15 = .ok (.iload_n 0, 1) := by decide +kernel
theorem dJ6_bitCount_0f7a4_16 : decode cJ6_bitCount_0f7a4 16 = .ok (.iconst 2, 1) := by decide +kernel
theorem dJ6_bitCount_0f7a4_17 : decode cJ6_bitCount_0f7a4 17 = .ok (.iushr, 1) := by decide +kernel
theorem dJ6_bitCount_0f7a4_18 : decode cJ6_bitCount_0f7a4 18 = .ok (.ldc_w 266, 3) := by decide +kernel
theorem dJ6_bitCount_0f7a4_21 : decode cJ6_bitCount_0f7a4 21 = .ok (.iand, 1) := by decide +kernel
theorem dJ6_bitCount_0f7a4_22 : decode cJ6_bitCount_0f7a4 22 = .ok (.iadd, 1) := by decide +kernel
theorem dJ6_bitCount_0f7a4_23 : decode cJ6_bitCount_0f7a4 23 = .ok (.istore_n 0, 1) := by decide +kernel
theorem dJ6_bitCount_0f7a4_24 : decode cJ6_bitCount_0f7a4 24 = .ok (.iload_n 0, 1) := by decide +kernel
theorem dJ6_bitCount_0f7a4_25 : decode cJ6_bitCount_0f7a4 25 = .ok (.iload_n 0, 1) := by decide +kernel
theorem dJ6_bitCount_0f7a4_26 : decode cJ6_bitCount_0f7a4 26 = .ok (.iconst 4, 1) := by decide +kernel
theorem dJ6_bitCount_0f7a4_27 : decode cJ6_bitCount_0f7a4 27 = .ok (.iushr, 1) := by decide +kernel
theorem dJ6_bitCount_0f7a4_28 : decode cJ6_bitCount_0f7a4 28 = .ok (.iadd, 1) := by decide +kernel
theorem dJ6_bitCount_0f7a4_29 : decode cJ6_bitCount_0f7a4 29 = .ok (.ldc_w 267, 3) := by decide +kernel
theorem dJ6_bitCount_0f7a4_32 : decode cJ6_bitCount_0f7a4 32 = .ok (.iand, 1) := by decide +kernel
theorem dJ6_bitCount_0f7a4_33 : decode cJ6_bitCount_0f7a4 33 = .ok (.istore_n 0, 1) := by decide +kernel
theorem dJ6_bitCount_0f7a4_34 : decode cJ6_bitCount_0f7a4 34 = .ok (.iload_n 0, 1) := by decide +kernel
theorem dJ6_bitCount_0f7a4_35 : decode cJ6_bitCount_0f7a4 35 = .ok (.iload_n 0, 1) := by decide +kernel
theorem dJ6_bitCount_0f7a4_36 : decode cJ6_bitCount_0f7a4 36 = .ok (.bipush 8, 2) := by decide +kernel
theorem dJ6_bitCount_0f7a4_38 : decode cJ6_bitCount_0f7a4 38 = .ok (.iushr, 1) := by decide +kernel
theorem dJ6_bitCount_0f7a4_39 : decode cJ6_bitCount_0f7a4 39 = .ok (.iadd, 1) := by decide +kernel
theorem dJ6_bitCount_0f7a4_40 : decode cJ6_bitCount_0f7a4 40 = .ok (.istore_n 0, 1) := by decide +kernel
theorem dJ6_bitCount_0f7a4_41 : decode cJ6_bitCount_0f7a4 41 = .ok (.iload_n 0, 1) := by decide +kernel
theorem dJ6_bitCount_0f7a4_42 : decode cJ6_bitCount_0f7a4 42 = .ok (.iload_n 0, 1) := by decide +kernel
theorem dJ6_bitCount_0f7a4_43 : decode cJ6_bitCount_0f7a4 43 = .ok (.bipush 16, 2) := by decide +kernel
theorem dJ6_bitCount_0f7a4_45 : decode cJ6_bitCount_0f7a4 45 = .ok (.iushr, 1) := by decide +kernel
theorem dJ6_bitCount_0f7a4_46 : decode cJ6_bitCount_0f7a4 46 = .ok (.iadd, 1) := by decide +kernel
theorem dJ6_bitCount_0f7a4_47 : decode cJ6_bitCount_0f7a4 47 = .ok (.istore_n 0, 1) := by decide +kernel
theorem dJ6_bitCount_0f7a4_48 : decode cJ6_bitCount_0f7a4 48 = .ok (.iload_n 0, 1) := by decide +kernel
theorem dJ6_bitCount_0f7a4_49 : decode cJ6_bitCount_0f7a4 49 = .ok (.bipush 63, 2) := by decide +kernel
theorem dJ6_bitCount_0f7a4_51 : decode cJ6_bitCount_0f7a4 51 = .ok (.iand, 1) := by decide +kernel
theorem dJ6_bitCount_0f7a4_52 : decode cJ6_bitCount_0f7a4 52 = .ok (.ireturn, 1) := by decide +kernel
theorem dJ0_length_8abf5_0 : decode cJ0_length_8abf5 0 = .ok (.aload_n 0, 1) := by decide +kernel
theorem dJ0_length_8abf5_1 : decode cJ0_length_8abf5 1 = .ok (.getfield 9, 3) := by decide +kernel
theorem dJ0_length_8abf5_4 : decode cJ0_length_8abf5 4 = .ok (.arraylength, 1) := by decide +kernel
theorem dJ0_length_8abf5_5 : decode cJ0_length_8abf5 5 = .ok (.aload_n 0, 1) := by decide +kernel
theorem dJ0_length_8abf5_6 : decode cJ0_length_8abf5 6 = .ok (.invokevirtual 335, 3) := by decide +kernel
theorem dJ0_length_8abf5_9 : decode cJ0_length_8abf5 9 = .ok (.ishr, 1) := by decide +kernel
theorem dJ0_length_8abf5_10 : decode cJ0_length_8abf5 10 = .ok (.ireturn, 1) := by decide +kernel
theorem dJ0_indexOf_0f7a4_0 : decode cJ0_indexOf_0f7a4 0 = .ok (.aload_n 0, 1) := by decide +kernel
theorem dJ0_indexOf_0f7a4_1 : decode cJ0_indexOf_0f7a4 1 = .ok (.iload_n 1, 1) := by decide +kernel
theorem dJ0_indexOf_0f7a4_2 : decode cJ0_indexOf_0f7a4 2 = .ok (.iconst 0, 1) := by decide +kernel
theorem dJ0_indexOf_0f7a4_3 : decode cJ0_indexOf_0f7a4 3 = .ok (.invokevirtual 633, 3) := by decide +kernel
theorem dJ0_indexOf_0f7a4_6 : decode cJ0_indexOf_0f7a4 6 = .ok (.ireturn, 1) := by decide +kernel
theorem dJ0_indexOf_7cf53_0 : decode cJ0_indexOf_7cf53 0 = .ok (.aload_n 0, 1) := by decide +kernel
theorem dJ0_indexOf_7cf53_1 : decode cJ0_indexOf_7cf53 1 = .ok (.invokevirtual 492, 3) := by decide +kernel
theorem dJ0_indexOf_7cf53_4 : decode cJ0_indexOf_7cf53 4 = .ok (.ifCond .eq 19, 3) := by decide +kernel
theorem dJ0_indexOf_7cf53_7 : decode cJ0_indexOf_7cf53 7 = .ok (.aload_n 0, 1) := by decide +kernel
theorem dJ0_indexOf_7cf53_8 : decode cJ0_indexOf_7cf53 8 = .ok (.getfield 9, 3) := by decide +kernel
theorem dJ0_indexOf_7cf53_11 : decode cJ0_indexOf_7cf53 11 = .ok (.iload_n 1, 1) := by decide +kernel
theorem dJ0_indexOf_7cf53_12 : decode cJ0_indexOf_7cf53 12 = .ok (.iload_n 2, 1) := by decide +kernel
theorem dJ0_indexOf_7cf53_13 : decode cJ0_indexOf_7cf53 13 = .ok (.aload_n 0, 1) := by decide +kernel
theorem dJ0_indexOf_7cf53_14 : decode cJ0_indexOf_7cf53 14 = .ok (.invokevirtual 505, 3) := by decide +kernel
theorem dJ0_indexOf_7cf53_17 : decode cJ0_indexOf_7cf53 17 = .ok (.invokestatic 637, 3) := by decide +kernel
theorem dJ0_indexOf_7cf53_20 : decode cJ0_indexOf_7cf53 20 = .ok (.goto 16, 3) := by decide +kernel
theorem dJ0_indexOf_7cf53_23 : decode cJ0_indexOf_7cf53 23 = .ok (.aload_n 0, 1) := by decide +kernel
theorem dJ0_indexOf_7cf53_24 : decode cJ0_indexOf_7cf53 24 = .ok (.getfield 9, 3) := by decide +kernel
theorem dJ0_indexOf_7cf53_27 : decode cJ0_indexOf_7cf53 27 = .ok (.iload_n 1, 1) := by decide +kernel
theorem dJ0_indexOf_7cf53_28 : decode cJ0_indexOf_7cf53 28 = .ok (.iload_n 2, 1) := by decide +kernel
theorem dJ0_indexOf_7cf53_29 : decode cJ0_indexOf_7cf53 29 = .ok (.aload_n 0, 1) := by decide +kernel
theorem dJ0_indexOf_7cf53_30 : decode cJ0_indexOf_7cf53 30 = .ok (.invokevirtual 505, 3) := by decide +kernel
theorem dJ0_indexOf_7cf53_33 : decode cJ0_indexOf_7cf53 33 = .ok (.invokestatic 640, 3) := by decide +kernel
theorem dJ0_indexOf_7cf53_36 : decode cJ0_indexOf_7cf53 36 = .ok (.ireturn, 1) := by decide +kernel
theorem dJ0_coder_7d493_0 : decode cJ0_coder_7d493 0 = .ok (.getstatic 38, 3) := by decide +kernel
theorem dJ0_coder_7d493_3 : decode cJ0_coder_7d493 3 = .ok (.ifCond .eq 10, 3) := by decide +kernel
theorem dJ0_coder_7d493_6 : decode cJ0_coder_7d493 6 = .ok (.aload_n 0, 1) := by decide +kernel
theorem dJ0_coder_7d493_7 : decode cJ0_coder_7d493 7 = .ok (.getfield 15, 3) := by decide +kernel
theorem dJ0_coder_7d493_10 : decode cJ0_coder_7d493 10 = .ok (.goto 4, 3) := by decide +kernel
theorem dJ0_coder_7d493_13 : decode cJ0_coder_7d493 13 = .ok (.iconst 1, 1) := by decide +kernel
theorem dJ0_coder_7d493_14 : decode cJ0_coder_7d493 14 = .ok (.ireturn, 1) := by decide +kernel
theorem dJ0_isLatin1_aae02_0 : decode cJ0_isLatin1_aae02 0 = .ok (.getstatic 38, 3) := by decide +kernel
theorem dJ0_isLatin1_aae02_3 : decode cJ0_isLatin1_aae02 3 = .ok (.ifCond .eq 14, 3) := by decide +kernel
theorem dJ0_isLatin1_aae02_6 : decode cJ0_isLatin1_aae02 6 = .ok (.aload_n 0, 1) := by decide +kernel
theorem dJ0_isLatin1_aae02_7 : decode cJ0_isLatin1_aae02 7 = .ok (.getfield 15, 3) := by decide +kernel
theorem dJ0_isLatin1_aae02_10 : decode cJ0_isLatin1_aae02 10 = .ok (.ifCond .ne 7, 3) := by decide +kernel
theorem dJ0_isLatin1_aae02_13 : decode cJ0_isLatin1_aae02 13 = .ok (.iconst 1, 1) := by decide +kernel
theorem dJ0_isLatin1_aae02_14 : decode cJ0_isLatin1_aae02 14 = .ok (.goto 4, 3) := by decide +kernel
theorem dJ0_isLatin1_aae02_17 : decode cJ0_isLatin1_aae02 17 = .ok (.iconst 0, 1) := by decide +kernel
theorem dJ0_isLatin1_aae02_18 : decode cJ0_isLatin1_aae02 18 = .ok (.ireturn, 1) := by decide +kernel
theorem dJ0_checkBoundsBeginEnd_23922_0 : decode cJ0_checkBoundsBeginEnd_23922 0 = .ok (.iload_n 0, 1) := by decide +kernel
theorem dJ0_checkBoundsBeginEnd_23922_1 : decode cJ0_checkBoundsBeginEnd_23922 1 = .ok (.iload_n 1, 1) := by decide +kernel
theorem dJ0_checkBoundsBeginEnd_23922_2 : decode cJ0_checkBoundsBeginEnd_23922 2 = .ok (.iload_n 2, 1) := by decide +kernel
theorem dJ0_checkBoundsBeginEnd_23922_3 : decode cJ0_checkBoundsBeginEnd_23922 3 = .ok (.getstatic 1053, 3) := by decide +kernel
theorem dJ0_checkBoundsBeginEnd_23922_6 : decode cJ0_checkBoundsBeginEnd_23922 6 = .ok (.invokestatic 1062, 3) := by decide +kernel
theorem dJ0_checkBoundsBeginEnd_23922_9 : decode cJ0_checkBoundsBeginEnd_23922 9 = .ok (.pop, 1) := by decide +kernel
theorem dJ0_checkBoundsBeginEnd_23922_10 : decode cJ0_checkBoundsBeginEnd_23922 10 = .ok (.return_, 1) := by decide +kernel
theorem dJ1_canEncode_9a6ad_0 : decode cJ1_canEncode_9a6ad 0 = .ok (.iload_n 0, 1) := by decide +kernel
theorem dJ1_canEncode_9a6ad_1 : decode cJ1_canEncode_9a6ad 1 = .ok (.ifCond .lt 14, 3) := by decide +kernel
theorem dJ1_canEncode_9a6ad_4 : decode cJ1_canEncode_9a6ad 4 = .ok (.iload_n 0, 1) := by decide +kernel
theorem dJ1_canEncode_9a6ad_5 : decode cJ1_canEncode_9a6ad 5 = .ok (.sipush 255, 3) := by decide +kernel
theorem dJ1_canEncode_9a6ad_8 : decode cJ1_canEncode_9a6ad 8 = .ok (.if_icmp .gt 7, 3) := by decide +kernel
theorem dJ1_canEncode_9a6ad_11 : decode cJ1_canEncode_9a6ad 11 = .ok (.iconst 1, 1) := by decide +kernel
theorem dJ1_canEncode_9a6ad_12 : decode cJ1_canEncode_9a6ad 12 = .ok (.goto 4, 3) := by decide +kernel
theorem dJ1_canEncode_9a6ad_15 : decode cJ1_canEncode_9a6ad 15 = .ok (.iconst 0, 1) := by decide +kernel
theorem dJ1_canEncode_9a6ad_16 : decode cJ1_canEncode_9a6ad 16 = .ok (.ireturn, 1) := by decide +kernel
theorem dJ1_indexOf_4cfef_0 : decode cJ1_indexOf_4cfef 0 = .ok (.iload_n 1, 1) := by decide +kernel
theorem dJ1_indexOf_4cfef_1 : decode cJ1_indexOf_4cfef 1 = .ok (.invokestatic 88, 3) := by decide +kernel
theorem dJ1_indexOf_4cfef_4 : decode cJ1_indexOf_4cfef 4 = .ok (.ifCond .ne 5, 3) := by decide +kernel
theorem dJ1_indexOf_4cfef_7 : decode cJ1_indexOf_4cfef 7 = .ok (.iconst (-1), 1) := by decide +kernel
theorem dJ1_indexOf_4cfef_8 : decode cJ1_indexOf_4cfef 8 = .ok (.ireturn, 1) := by decide +kernel
theorem dJ1_indexOf_4cfef_9 : decode cJ1_indexOf_4cfef 9 = .ok (.iload_n 2, 1) := by decide +kernel
theorem dJ1_indexOf_4cfef_10 : decode cJ1_indexOf_4cfef 10 = .ok (.iconst 0, 1) := by decide +kernel
theorem dJ1_indexOf_4cfef_11 : decode cJ1_indexOf_4cfef 11 = .ok (.invokestatic 92, 3) := by decide +kernel
theorem dJ1_indexOf_4cfef_14 : decode cJ1_indexOf_4cfef 14 = .ok (.istore_n 2, 1) := by decide +kernel
theorem dJ1_indexOf_4cfef_15 : decode cJ1_indexOf_4cfef 15 = .ok (.iload_n 3, 1) := by decide +kernel
theorem dJ1_indexOf_4cfef_16 : decode cJ1_indexOf_4cfef 16 = .ok (.aload_n 0, 1) := by decide +kernel
theorem dJ1_indexOf_4cfef_17 : decode cJ1_indexOf_4cfef 17 = .ok (.arraylength, 1) := by decide +kernel
theorem dJ1_indexOf_4cfef_18 : decode cJ1_indexOf_4cfef 18 = .ok (.invokestatic 38, 3) := by decide +kernel
theorem dJ1_indexOf_4cfef_21 : decode cJ1_indexOf_4cfef 21 = .ok (.istore_n 3, 1) := by decide +kernel
theorem dJ1_indexOf_4cfef_22 : decode cJ1_indexOf_4cfef 22 = .ok (.iload_n 2, 1) := by decide +kernel
theorem dJ1_indexOf_4cfef_23 : decode cJ1_indexOf_4cfef 23 = .ok (.iload_n 3, 1) := by decide +kernel
theorem dJ1_indexOf_4cfef_24 : decode cJ1_indexOf_4cfef 24 = .ok (.if_icmp .lt 5, 3) := by decide +kernel
theorem dJ1_indexOf_4cfef_27 : decode cJ1_indexOf_4cfef 27 = .ok (.iconst (-1), 1) := by decide +kernel
theorem dJ1_indexOf_4cfef_28 : decode cJ1_indexOf_4cfef 28 = .ok (.ireturn, 1) := by decide +kernel
theorem dJ1_indexOf_4cfef_29 : decode cJ1_indexOf_4cfef 29 = .ok (.aload_n 0, 1) := by decide +kernel
theorem dJ1_indexOf_4cfef_30 : decode cJ1_indexOf_4cfef 30 = .ok (.iload_n 1, 1) := by decide +kernel
theorem dJ1_indexOf_4cfef_31 : decode cJ1_indexOf_4cfef 31 = .ok (.iload_n 2, 1) := by decide +kernel
theorem dJ1_indexOf_4cfef_32 : decode cJ1_indexOf_4cfef 32 = .ok (.iload_n 3, 1) := by decide +kernel
theorem dJ1_indexOf_4cfef_33 : decode cJ1_indexOf_4cfef 33 = .ok (.invokestatic 95, 3) := by decide +kernel
theorem dJ1_indexOf_4cfef_36 : decode cJ1_indexOf_4cfef 36 = .ok (.ireturn, 1) := by decide +kernel
theorem dJ1_indexOfChar_4cfef_0 : decode cJ1_indexOfChar_4cfef 0 = .ok (.iload_n 1, 1) := by decide +kernel
theorem dJ1_indexOfChar_4cfef_1 : decode cJ1_indexOfChar_4cfef 1 = .ok (.i2b, 1) := by decide +kernel
theorem dJ1_indexOfChar_4cfef_2 : decode cJ1_indexOfChar_4cfef 2 = .ok (.istore 4, 2) := by decide +kernel
theorem dJ1_indexOfChar_4cfef_4 : decode cJ1_indexOfChar_4cfef 4 = .ok (.iload_n 2, 1) := by decide +kernel
theorem dJ1_indexOfChar_4cfef_5 : decode cJ1_indexOfChar_4cfef 5 = .ok (.istore 5, 2) := by decide +kernel
theorem dJ1_indexOfChar_4cfef_7 : decode cJ1_indexOfChar_4cfef 7 = .ok (.iload 5, 2) := by decide +kernel
theorem dJ1_indexOfChar_4cfef_9 : decode cJ1_indexOfChar_4cfef 9 = .ok (.iload_n 3, 1) := by decide +kernel
theorem dJ1_indexOfChar_4cfef_10 : decode cJ1_indexOfChar_4cfef 10 = .ok (.if_icmp .ge 21, 3) := by decide +kernel
theorem dJ1_indexOfChar_4cfef_13 : decode cJ1_indexOfChar_4cfef 13 = .ok (.aload_n 0, 1) := by decide +kernel
theorem dJ1_indexOfChar_4cfef_14 : decode cJ1_indexOfChar_4cfef 14 = .ok (.iload 5, 2) := by decide +kernel
theorem dJ1_indexOfChar_4cfef_16 : decode cJ1_indexOfChar_4cfef 16 = .ok (.baload, 1) := by decide +kernel
theorem dJ1_indexOfChar_4cfef_17 : decode cJ1_indexOfChar_4cfef 17 = .ok (.iload 4, 2) := by decide +kernel
theorem dJ1_indexOfChar_4cfef_19 : decode cJ1_indexOfChar_4cfef 19 = .ok (.if_icmp .ne 6, 3) := by decide +kernel
theorem dJ1_indexOfChar_4cfef_22 : decode cJ1_indexOfChar_4cfef 22 = .ok (.iload 5, 2) := by decide +kernel
theorem dJ1_indexOfChar_4cfef_24 : decode cJ1_indexOfChar_4cfef 24 = .ok (.ireturn, 1) := by decide +kernel
theorem dJ1_indexOfChar_4cfef_25 : decode cJ1_indexOfChar_4cfef 25 = .ok (.iinc 5 1, 3) := by decide +kernel
theorem dJ1_indexOfChar_4cfef_28 : decode cJ1_indexOfChar_4cfef 28 = .ok (.goto (-21), 3) := by decide +kernel
theorem dJ1_indexOfChar_4cfef_31 : decode cJ1_indexOfChar_4cfef 31 = .ok (.iconst (-1), 1) := by decide +kernel
theorem dJ1_indexOfChar_4cfef_32 : decode cJ1_indexOfChar_4cfef 32 = .ok (.ireturn, 1) := by decide +kernel
theorem dL_law_0 : decode cL_law 0 = .ok (.new 7, 3) := by decide +kernel
theorem dL_law_3 : decode cL_law 3 = .ok (.dup, 1) := by decide +kernel
theorem dL_law_4 : decode cL_law 4 = .ok (.invokespecial 9, 3) := by decide +kernel
theorem dL_law_7 : decode cL_law 7 = .ok (.astore_n 1, 1) := by decide +kernel
theorem dL_law_8 : decode cL_law 8 = .ok (.new 10, 3) := by decide +kernel
theorem dL_law_11 : decode cL_law 11 = .ok (.dup, 1) := by decide +kernel
theorem dL_law_12 : decode cL_law 12 = .ok (.invokespecial 12, 3) := by decide +kernel
theorem dL_law_15 : decode cL_law 15 = .ok (.astore_n 2, 1) := by decide +kernel
theorem dL_law_16 : decode cL_law 16 = .ok (.iconst 0, 1) := by decide +kernel
theorem dL_law_17 : decode cL_law 17 = .ok (.istore_n 3, 1) := by decide +kernel
theorem dL_law_18 : decode cL_law 18 = .ok (.iload_n 3, 1) := by decide +kernel
theorem dL_law_19 : decode cL_law 19 = .ok (.aload_n 0, 1) := by decide +kernel
theorem dL_law_20 : decode cL_law 20 = .ok (.arraylength, 1) := by decide +kernel
theorem dL_law_21 : decode cL_law 21 = .ok (.bipush 6, 2) := by decide +kernel
theorem dL_law_23 : decode cL_law 23 = .ok (.isub, 1) := by decide +kernel
theorem dL_law_24 : decode cL_law 24 = .ok (.if_icmp .gt 1123, 3) := by decide +kernel
theorem dL_law_27 : decode cL_law 27 = .ok (.aload_n 0, 1) := by decide +kernel
theorem dL_law_28 : decode cL_law 28 = .ok (.iload_n 3, 1) := by decide +kernel
theorem dL_law_29 : decode cL_law 29 = .ok (.iaload, 1) := by decide +kernel
theorem dL_law_30 : decode cL_law 30 = .ok (.bipush 31, 2) := by decide +kernel
theorem dL_law_32 : decode cL_law 32 = .ok (.iand, 1) := by decide +kernel
theorem dL_law_33 : decode cL_law 33 = .ok (.tableswitch 1108 0 28 #[131, 164, 217, 250, 293, 316, 329, 352, 375, 408, 431, 454, 467, 490, 523, 546, 579, 612, 645, 678, 711, 754, 767, 780, 843, 896, 939, 962, 1045], 131) := by decide +kernel
theorem dL_law_164 : decode cL_law 164 = .ok (.aload_n 1, 1) := by decide +kernel
theorem dL_law_165 : decode cL_law 165 = .ok (.aload_n 0, 1) := by decide +kernel
theorem dL_law_166 : decode cL_law 166 = .ok (.iload_n 3, 1) := by decide +kernel
theorem dL_law_167 : decode cL_law 167 = .ok (.iconst 1, 1) := by decide +kernel
theorem dL_law_168 : decode cL_law 168 = .ok (.iadd, 1) := by decide +kernel
theorem dL_law_169 : decode cL_law 169 = .ok (.iaload, 1) := by decide +kernel
theorem dL_law_170 : decode cL_law 170 = .ok (.aload_n 0, 1) := by decide +kernel
theorem dL_law_171 : decode cL_law 171 = .ok (.iload_n 3, 1) := by decide +kernel
theorem dL_law_172 : decode cL_law 172 = .ok (.iconst 2, 1) := by decide +kernel
theorem dL_law_173 : decode cL_law 173 = .ok (.iadd, 1) := by decide +kernel
theorem dL_law_174 : decode cL_law 174 = .ok (.iaload, 1) := by decide +kernel
theorem dL_law_175 : decode cL_law 175 = .ok (.invokevirtual 13, 3) := by decide +kernel
theorem dL_law_178 : decode cL_law 178 = .ok (.aload_n 2, 1) := by decide +kernel
theorem dL_law_179 : decode cL_law 179 = .ok (.aload_n 0, 1) := by decide +kernel
theorem dL_law_180 : decode cL_law 180 = .ok (.iload_n 3, 1) := by decide +kernel
theorem dL_law_181 : decode cL_law 181 = .ok (.iconst 1, 1) := by decide +kernel
theorem dL_law_182 : decode cL_law 182 = .ok (.iadd, 1) := by decide +kernel
theorem dL_law_183 : decode cL_law 183 = .ok (.iaload, 1) := by decide +kernel
theorem dL_law_184 : decode cL_law 184 = .ok (.aload_n 0, 1) := by decide +kernel
theorem dL_law_185 : decode cL_law 185 = .ok (.iload_n 3, 1) := by decide +kernel
theorem dL_law_186 : decode cL_law 186 = .ok (.iconst 2, 1) := by decide +kernel
theorem dL_law_187 : decode cL_law 187 = .ok (.iadd, 1) := by decide +kernel
theorem dL_law_188 : decode cL_law 188 = .ok (.iaload, 1) := by decide +kernel
theorem dL_law_189 : decode cL_law 189 = .ok (.invokevirtual 17, 3) := by decide +kernel
theorem dL_law_192 : decode cL_law 192 = .ok (.if_icmp .eq 949, 3) := by decide +kernel
theorem dL_law_195 : decode cL_law 195 = .ok (.iconst 0, 1) := by decide +kernel
theorem dL_law_196 : decode cL_law 196 = .ok (.ireturn, 1) := by decide +kernel
theorem dL_law_197 : decode cL_law 197 = .ok (.aload_n 1, 1) := by decide +kernel
theorem dL_law_198 : decode cL_law 198 = .ok (.aload_n 0, 1) := by decide +kernel
theorem dL_law_199 : decode cL_law 199 = .ok (.iload_n 3, 1) := by decide +kernel
theorem dL_law_200 : decode cL_law 200 = .ok (.iconst 1, 1) := by decide +kernel
theorem dL_law_201 : decode cL_law 201 = .ok (.iadd, 1) := by decide +kernel
theorem dL_law_202 : decode cL_law 202 = .ok (.iaload, 1) := by decide +kernel
theorem dL_law_203 : decode cL_law 203 = .ok (.aload_n 0, 1) := by decide +kernel
theorem dL_law_204 : decode cL_law 204 = .ok (.iload_n 3, 1) := by decide +kernel
theorem dL_law_205 : decode cL_law 205 = .ok (.iconst 2, 1) := by decide +kernel
theorem dL_law_206 : decode cL_law 206 = .ok (.iadd, 1) := by decide +kernel
theorem dL_law_207 : decode cL_law 207 = .ok (.iaload, 1) := by decide +kernel
theorem dL_law_208 : decode cL_law 208 = .ok (.aload_n 0, 1) := by decide +kernel
theorem dL_law_209 : decode cL_law 209 = .ok (.iload_n 3, 1) := by decide +kernel
theorem dL_law_210 : decode cL_law 210 = .ok (.iconst 3, 1) := by decide +kernel
theorem dL_law_211 : decode cL_law 211 = .ok (.iadd, 1) := by decide +kernel
theorem dL_law_212 : decode cL_law 212 = .ok (.iaload, 1) := by decide +kernel
theorem dL_law_213 : decode cL_law 213 = .ok (.aload_n 0, 1) := by decide +kernel
theorem dL_law_214 : decode cL_law 214 = .ok (.iload_n 3, 1) := by decide +kernel
theorem dL_law_215 : decode cL_law 215 = .ok (.iconst 4, 1) := by decide +kernel
theorem dL_law_216 : decode cL_law 216 = .ok (.iadd, 1) := by decide +kernel
theorem dL_law_217 : decode cL_law 217 = .ok (.iaload, 1) := by decide +kernel
theorem dL_law_218 : decode cL_law 218 = .ok (.invokevirtual 18, 3) := by decide +kernel
theorem dL_law_221 : decode cL_law 221 = .ok (.aload_n 2, 1) := by decide +kernel
theorem dL_law_222 : decode cL_law 222 = .ok (.aload_n 0, 1) := by decide +kernel
theorem dL_law_223 : decode cL_law 223 = .ok (.iload_n 3, 1) := by decide +kernel
theorem dL_law_224 : decode cL_law 224 = .ok (.iconst 1, 1) := by decide +kernel
theorem dL_law_225 : decode cL_law 225 = .ok (.iadd, 1) := by decide +kernel
theorem dL_law_226 : decode cL_law 226 = .ok (.iaload, 1) := by decide +kernel
theorem dL_law_227 : decode cL_law 227 = .ok (.aload_n 0, 1) := by decide +kernel
theorem dL_law_228 : decode cL_law 228 = .ok (.iload_n 3, 1) := by decide +kernel
theorem dL_law_229 : decode cL_law 229 = .ok (.iconst 2, 1) := by decide +kernel
theorem dL_law_230 : decode cL_law 230 = .ok (.iadd, 1) := by decide +kernel
theorem dL_law_231 : decode cL_law 231 = .ok (.iaload, 1) := by decide +kernel
theorem dL_law_232 : decode cL_law 232 = .ok (.aload_n 0, 1) := by decide +kernel
theorem dL_law_233 : decode cL_law 233 = .ok (.iload_n 3, 1) := by decide +kernel
theorem dL_law_234 : decode cL_law 234 = .ok (.iconst 3, 1) := by decide +kernel
theorem dL_law_235 : decode cL_law 235 = .ok (.iadd, 1) := by decide +kernel
theorem dL_law_236 : decode cL_law 236 = .ok (.iaload, 1) := by decide +kernel
theorem dL_law_237 : decode cL_law 237 = .ok (.aload_n 0, 1) := by decide +kernel
theorem dL_law_238 : decode cL_law 238 = .ok (.iload_n 3, 1) := by decide +kernel
theorem dL_law_239 : decode cL_law 239 = .ok (.iconst 4, 1) := by decide +kernel
theorem dL_law_240 : decode cL_law 240 = .ok (.iadd, 1) := by decide +kernel
theorem dL_law_241 : decode cL_law 241 = .ok (.iaload, 1) := by decide +kernel
theorem dL_law_242 : decode cL_law 242 = .ok (.invokevirtual 22, 3) := by decide +kernel
theorem dL_law_245 : decode cL_law 245 = .ok (.if_icmp .eq 896, 3) := by decide +kernel
theorem dL_law_248 : decode cL_law 248 = .ok (.iconst 0, 1) := by decide +kernel
theorem dL_law_249 : decode cL_law 249 = .ok (.ireturn, 1) := by decide +kernel
theorem dL_law_250 : decode cL_law 250 = .ok (.aload_n 1, 1) := by decide +kernel
theorem dL_law_251 : decode cL_law 251 = .ok (.aload_n 0, 1) := by decide +kernel
theorem dL_law_252 : decode cL_law 252 = .ok (.iload_n 3, 1) := by decide +kernel
theorem dL_law_253 : decode cL_law 253 = .ok (.iconst 1, 1) := by decide +kernel
theorem dL_law_254 : decode cL_law 254 = .ok (.iadd, 1) := by decide +kernel
theorem dL_law_255 : decode cL_law 255 = .ok (.iaload, 1) := by decide +kernel
theorem dL_law_256 : decode cL_law 256 = .ok (.aload_n 0, 1) := by decide +kernel
theorem dL_law_257 : decode cL_law 257 = .ok (.iload_n 3, 1) := by decide +kernel
theorem dL_law_258 : decode cL_law 258 = .ok (.iconst 2, 1) := by decide +kernel
theorem dL_law_259 : decode cL_law 259 = .ok (.iadd, 1) := by decide +kernel
theorem dL_law_260 : decode cL_law 260 = .ok (.iaload, 1) := by decide +kernel
theorem dL_law_261 : decode cL_law 261 = .ok (.invokevirtual 23, 3) := by decide +kernel
theorem dL_law_264 : decode cL_law 264 = .ok (.aload_n 2, 1) := by decide +kernel
theorem dL_law_265 : decode cL_law 265 = .ok (.aload_n 0, 1) := by decide +kernel
theorem dL_law_266 : decode cL_law 266 = .ok (.iload_n 3, 1) := by decide +kernel
theorem dL_law_267 : decode cL_law 267 = .ok (.iconst 1, 1) := by decide +kernel
theorem dL_law_268 : decode cL_law 268 = .ok (.iadd, 1) := by decide +kernel
theorem dL_law_269 : decode cL_law 269 = .ok (.iaload, 1) := by decide +kernel
theorem dL_law_270 : decode cL_law 270 = .ok (.aload_n 0, 1) := by decide +kernel
theorem dL_law_271 : decode cL_law 271 = .ok (.iload_n 3, 1) := by decide +kernel
theorem dL_law_272 : decode cL_law 272 = .ok (.iconst 2, 1) := by decide +kernel
theorem dL_law_273 : decode cL_law 273 = .ok (.iadd, 1) := by decide +kernel
theorem dL_law_274 : decode cL_law 274 = .ok (.iaload, 1) := by decide +kernel
theorem dL_law_275 : decode cL_law 275 = .ok (.invokevirtual 26, 3) := by decide +kernel
theorem dL_law_278 : decode cL_law 278 = .ok (.if_icmp .eq 863, 3) := by decide +kernel
theorem dL_law_281 : decode cL_law 281 = .ok (.iconst 0, 1) := by decide +kernel
theorem dL_law_282 : decode cL_law 282 = .ok (.ireturn, 1) := by decide +kernel
theorem dL_law_283 : decode cL_law 283 = .ok (.aload_n 1, 1) := by decide +kernel
theorem dL_law_284 : decode cL_law 284 = .ok (.aload_n 0, 1) := by decide +kernel
theorem dL_law_285 : decode cL_law 285 = .ok (.iload_n 3, 1) := by decide +kernel
theorem dL_law_286 : decode cL_law 286 = .ok (.iconst 1, 1) := by decide +kernel
theorem dL_law_287 : decode cL_law 287 = .ok (.iadd, 1) := by decide +kernel
theorem dL_law_288 : decode cL_law 288 = .ok (.iaload, 1) := by decide +kernel
theorem dL_law_289 : decode cL_law 289 = .ok (.aload_n 0, 1) := by decide +kernel
theorem dL_law_290 : decode cL_law 290 = .ok (.iload_n 3, 1) := by decide +kernel
theorem dL_law_291 : decode cL_law 291 = .ok (.iconst 2, 1) := by decide +kernel
theorem dL_law_292 : decode cL_law 292 = .ok (.iadd, 1) := by decide +kernel
theorem dL_law_293 : decode cL_law 293 = .ok (.iaload, 1) := by decide +kernel
theorem dL_law_294 : decode cL_law 294 = .ok (.aload_n 0, 1) := by decide +kernel
theorem dL_law_295 : decode cL_law 295 = .ok (.iload_n 3, 1) := by decide +kernel
theorem dL_law_296 : decode cL_law 296 = .ok (.iconst 3, 1) := by decide +kernel
theorem dL_law_297 : decode cL_law 297 = .ok (.iadd, 1) := by decide +kernel
theorem dL_law_298 : decode cL_law 298 = .ok (.iaload, 1) := by decide +kernel
theorem dL_law_299 : decode cL_law 299 = .ok (.invokevirtual 27, 3) := by decide +kernel
theorem dL_law_302 : decode cL_law 302 = .ok (.aload_n 2, 1) := by decide +kernel
theorem dL_law_303 : decode cL_law 303 = .ok (.aload_n 0, 1) := by decide +kernel
theorem dL_law_304 : decode cL_law 304 = .ok (.iload_n 3, 1) := by decide +kernel
theorem dL_law_305 : decode cL_law 305 = .ok (.iconst 1, 1) := by decide +kernel
theorem dL_law_306 : decode cL_law 306 = .ok (.iadd, 1) := by decide +kernel
theorem dL_law_307 : decode cL_law 307 = .ok (.iaload, 1) := by decide +kernel
theorem dL_law_308 : decode cL_law 308 = .ok (.aload_n 0, 1) := by decide +kernel
theorem dL_law_309 : decode cL_law 309 = .ok (.iload_n 3, 1) := by decide +kernel
theorem dL_law_310 : decode cL_law 310 = .ok (.iconst 2, 1) := by decide +kernel
theorem dL_law_311 : decode cL_law 311 = .ok (.iadd, 1) := by decide +kernel
theorem dL_law_312 : decode cL_law 312 = .ok (.iaload, 1) := by decide +kernel
theorem dL_law_313 : decode cL_law 313 = .ok (.aload_n 0, 1) := by decide +kernel
theorem dL_law_314 : decode cL_law 314 = .ok (.iload_n 3, 1) := by decide +kernel
theorem dL_law_315 : decode cL_law 315 = .ok (.iconst 3, 1) := by decide +kernel
theorem dL_law_316 : decode cL_law 316 = .ok (.iadd, 1) := by decide +kernel
theorem dL_law_317 : decode cL_law 317 = .ok (.iaload, 1) := by decide +kernel
theorem dL_law_318 : decode cL_law 318 = .ok (.invokevirtual 31, 3) := by decide +kernel
theorem dL_law_321 : decode cL_law 321 = .ok (.if_icmp .eq 820, 3) := by decide +kernel
theorem dL_law_324 : decode cL_law 324 = .ok (.iconst 0, 1) := by decide +kernel
theorem dL_law_325 : decode cL_law 325 = .ok (.ireturn, 1) := by decide +kernel
theorem dL_law_326 : decode cL_law 326 = .ok (.aload_n 1, 1) := by decide +kernel
theorem dL_law_327 : decode cL_law 327 = .ok (.aload_n 0, 1) := by decide +kernel
theorem dL_law_328 : decode cL_law 328 = .ok (.iload_n 3, 1) := by decide +kernel
theorem dL_law_329 : decode cL_law 329 = .ok (.iconst 1, 1) := by decide +kernel
theorem dL_law_330 : decode cL_law 330 = .ok (.iadd, 1) := by decide +kernel
theorem dL_law_331 : decode cL_law 331 = .ok (.iaload, 1) := by decide +kernel
theorem dL_law_332 : decode cL_law 332 = .ok (.invokevirtual 32, 3) := by decide +kernel
theorem dL_law_335 : decode cL_law 335 = .ok (.aload_n 2, 1) := by decide +kernel
theorem dL_law_336 : decode cL_law 336 = .ok (.aload_n 0, 1) := by decide +kernel
theorem dL_law_337 : decode cL_law 337 = .ok (.iload_n 3, 1) := by decide +kernel
theorem dL_law_338 : decode cL_law 338 = .ok (.iconst 1, 1) := by decide +kernel
theorem dL_law_339 : decode cL_law 339 = .ok (.iadd, 1) := by decide +kernel
theorem dL_law_340 : decode cL_law 340 = .ok (.iaload, 1) := by decide +kernel
theorem dL_law_341 : decode cL_law 341 = .ok (.invokevirtual 36, 3) := by decide +kernel
theorem dL_law_344 : decode cL_law 344 = .ok (.if_icmp .eq 797, 3) := by decide +kernel
theorem dL_law_347 : decode cL_law 347 = .ok (.iconst 0, 1) := by decide +kernel
theorem dL_law_348 : decode cL_law 348 = .ok (.ireturn, 1) := by decide +kernel
theorem dL_law_349 : decode cL_law 349 = .ok (.aload_n 1, 1) := by decide +kernel
theorem dL_law_350 : decode cL_law 350 = .ok (.invokevirtual 37, 3) := by decide +kernel
theorem dL_law_353 : decode cL_law 353 = .ok (.aload_n 2, 1) := by decide +kernel
theorem dL_law_354 : decode cL_law 354 = .ok (.invokevirtual 41, 3) := by decide +kernel
theorem dL_law_357 : decode cL_law 357 = .ok (.if_icmp .eq 784, 3) := by decide +kernel
theorem dL_law_360 : decode cL_law 360 = .ok (.iconst 0, 1) := by decide +kernel
theorem dL_law_361 : decode cL_law 361 = .ok (.ireturn, 1) := by decide +kernel
theorem dL_law_362 : decode cL_law 362 = .ok (.aload_n 1, 1) := by decide +kernel
theorem dL_law_363 : decode cL_law 363 = .ok (.aload_n 0, 1) := by decide +kernel
theorem dL_law_364 : decode cL_law 364 = .ok (.iload_n 3, 1) := by decide +kernel
theorem dL_law_365 : decode cL_law 365 = .ok (.iconst 1, 1) := by decide +kernel
theorem dL_law_366 : decode cL_law 366 = .ok (.iadd, 1) := by decide +kernel
theorem dL_law_367 : decode cL_law 367 = .ok (.iaload, 1) := by decide +kernel
theorem dL_law_368 : decode cL_law 368 = .ok (.invokevirtual 42, 3) := by decide +kernel
theorem dL_law_371 : decode cL_law 371 = .ok (.aload_n 2, 1) := by decide +kernel
theorem dL_law_372 : decode cL_law 372 = .ok (.aload_n 0, 1) := by decide +kernel
theorem dL_law_373 : decode cL_law 373 = .ok (.iload_n 3, 1) := by decide +kernel
theorem dL_law_374 : decode cL_law 374 = .ok (.iconst 1, 1) := by decide +kernel
theorem dL_law_375 : decode cL_law 375 = .ok (.iadd, 1) := by decide +kernel
theorem dL_law_376 : decode cL_law 376 = .ok (.iaload, 1) := by decide +kernel
theorem dL_law_377 : decode cL_law 377 = .ok (.invokevirtual 45, 3) := by decide +kernel
theorem dL_law_380 : decode cL_law 380 = .ok (.if_icmp .eq 761, 3) := by decide +kernel
theorem dL_law_383 : decode cL_law 383 = .ok (.iconst 0, 1) := by decide +kernel
theorem dL_law_384 : decode cL_law 384 = .ok (.ireturn, 1) := by decide +kernel
theorem dL_law_385 : decode cL_law 385 = .ok (.aload_n 1, 1) := by decide +kernel
theorem dL_law_386 : decode cL_law 386 = .ok (.aload_n 0, 1) := by decide +kernel
theorem dL_law_387 : decode cL_law 387 = .ok (.iload_n 3, 1) := by decide +kernel
theorem dL_law_388 : decode cL_law 388 = .ok (.iconst 1, 1) := by decide +kernel
theorem dL_law_389 : decode cL_law 389 = .ok (.iadd, 1) := by decide +kernel
theorem dL_law_390 : decode cL_law 390 = .ok (.iaload, 1) := by decide +kernel
theorem dL_law_391 : decode cL_law 391 = .ok (.invokevirtual 46, 3) := by decide +kernel
theorem dL_law_394 : decode cL_law 394 = .ok (.aload_n 2, 1) := by decide +kernel
theorem dL_law_395 : decode cL_law 395 = .ok (.aload_n 0, 1) := by decide +kernel
theorem dL_law_396 : decode cL_law 396 = .ok (.iload_n 3, 1) := by decide +kernel
theorem dL_law_397 : decode cL_law 397 = .ok (.iconst 1, 1) := by decide +kernel
theorem dL_law_398 : decode cL_law 398 = .ok (.iadd, 1) := by decide +kernel
theorem dL_law_399 : decode cL_law 399 = .ok (.iaload, 1) := by decide +kernel
theorem dL_law_400 : decode cL_law 400 = .ok (.invokevirtual 49, 3) := by decide +kernel
theorem dL_law_403 : decode cL_law 403 = .ok (.if_icmp .eq 738, 3) := by decide +kernel
theorem dL_law_406 : decode cL_law 406 = .ok (.iconst 0, 1) := by decide +kernel
theorem dL_law_407 : decode cL_law 407 = .ok (.ireturn, 1) := by decide +kernel
theorem dL_law_408 : decode cL_law 408 = .ok (.aload_n 1, 1) := by decide +kernel
theorem dL_law_409 : decode cL_law 409 = .ok (.aload_n 0, 1) := by decide +kernel
theorem dL_law_410 : decode cL_law 410 = .ok (.iload_n 3, 1) := by decide +kernel
theorem dL_law_411 : decode cL_law 411 = .ok (.iconst 1, 1) := by decide +kernel
theorem dL_law_412 : decode cL_law 412 = .ok (.iadd, 1) := by decide +kernel
theorem dL_law_413 : decode cL_law 413 = .ok (.iaload, 1) := by decide +kernel
theorem dL_law_414 : decode cL_law 414 = .ok (.aload_n 0, 1) := by decide +kernel
theorem dL_law_415 : decode cL_law 415 = .ok (.iload_n 3, 1) := by decide +kernel
theorem dL_law_416 : decode cL_law 416 = .ok (.iconst 2, 1) := by decide +kernel
theorem dL_law_417 : decode cL_law 417 = .ok (.iadd, 1) := by decide +kernel
theorem dL_law_418 : decode cL_law 418 = .ok (.iaload, 1) := by decide +kernel
theorem dL_law_419 : decode cL_law 419 = .ok (.invokevirtual 50, 3) := by decide +kernel
theorem dL_law_422 : decode cL_law 422 = .ok (.aload_n 2, 1) := by decide +kernel
theorem dL_law_423 : decode cL_law 423 = .ok (.aload_n 0, 1) := by decide +kernel
theorem dL_law_424 : decode cL_law 424 = .ok (.iload_n 3, 1) := by decide +kernel
theorem dL_law_425 : decode cL_law 425 = .ok (.iconst 1, 1) := by decide +kernel
theorem dL_law_426 : decode cL_law 426 = .ok (.iadd, 1) := by decide +kernel
theorem dL_law_427 : decode cL_law 427 = .ok (.iaload, 1) := by decide +kernel
theorem dL_law_428 : decode cL_law 428 = .ok (.aload_n 0, 1) := by decide +kernel
theorem dL_law_429 : decode cL_law 429 = .ok (.iload_n 3, 1) := by decide +kernel
theorem dL_law_430 : decode cL_law 430 = .ok (.iconst 2, 1) := by decide +kernel
theorem dL_law_431 : decode cL_law 431 = .ok (.iadd, 1) := by decide +kernel
theorem dL_law_432 : decode cL_law 432 = .ok (.iaload, 1) := by decide +kernel
theorem dL_law_433 : decode cL_law 433 = .ok (.invokevirtual 53, 3) := by decide +kernel
theorem dL_law_436 : decode cL_law 436 = .ok (.if_icmp .eq 705, 3) := by decide +kernel
theorem dL_law_439 : decode cL_law 439 = .ok (.iconst 0, 1) := by decide +kernel
theorem dL_law_440 : decode cL_law 440 = .ok (.ireturn, 1) := by decide +kernel
theorem dL_law_441 : decode cL_law 441 = .ok (.aload_n 1, 1) := by decide +kernel
theorem dL_law_442 : decode cL_law 442 = .ok (.aload_n 0, 1) := by decide +kernel
theorem dL_law_443 : decode cL_law 443 = .ok (.iload_n 3, 1) := by decide +kernel
theorem dL_law_444 : decode cL_law 444 = .ok (.iconst 1, 1) := by decide +kernel
theorem dL_law_445 : decode cL_law 445 = .ok (.iadd, 1) := by decide +kernel
theorem dL_law_446 : decode cL_law 446 = .ok (.iaload, 1) := by decide +kernel
theorem dL_law_447 : decode cL_law 447 = .ok (.invokevirtual 54, 3) := by decide +kernel
theorem dL_law_450 : decode cL_law 450 = .ok (.aload_n 2, 1) := by decide +kernel
theorem dL_law_451 : decode cL_law 451 = .ok (.aload_n 0, 1) := by decide +kernel
theorem dL_law_452 : decode cL_law 452 = .ok (.iload_n 3, 1) := by decide +kernel
theorem dL_law_453 : decode cL_law 453 = .ok (.iconst 1, 1) := by decide +kernel
theorem dL_law_454 : decode cL_law 454 = .ok (.iadd, 1) := by decide +kernel
theorem dL_law_455 : decode cL_law 455 = .ok (.iaload, 1) := by decide +kernel
theorem dL_law_456 : decode cL_law 456 = .ok (.invokevirtual 57, 3) := by decide +kernel
theorem dL_law_459 : decode cL_law 459 = .ok (.if_icmp .eq 682, 3) := by decide +kernel
theorem dL_law_462 : decode cL_law 462 = .ok (.iconst 0, 1) := by decide +kernel
theorem dL_law_463 : decode cL_law 463 = .ok (.ireturn, 1) := by decide +kernel
theorem dL_law_464 : decode cL_law 464 = .ok (.aload_n 1, 1) := by decide +kernel
theorem dL_law_465 : decode cL_law 465 = .ok (.aload_n 0, 1) := by decide +kernel
theorem dL_law_466 : decode cL_law 466 = .ok (.iload_n 3, 1) := by decide +kernel
theorem dL_law_467 : decode cL_law 467 = .ok (.iconst 1, 1) := by decide +kernel
theorem dL_law_468 : decode cL_law 468 = .ok (.iadd, 1) := by decide +kernel
theorem dL_law_469 : decode cL_law 469 = .ok (.iaload, 1) := by decide +kernel
theorem dL_law_470 : decode cL_law 470 = .ok (.invokevirtual 58, 3) := by decide +kernel
theorem dL_law_473 : decode cL_law 473 = .ok (.aload_n 2, 1) := by decide +kernel
theorem dL_law_474 : decode cL_law 474 = .ok (.aload_n 0, 1) := by decide +kernel
theorem dL_law_475 : decode cL_law 475 = .ok (.iload_n 3, 1) := by decide +kernel
theorem dL_law_476 : decode cL_law 476 = .ok (.iconst 1, 1) := by decide +kernel
theorem dL_law_477 : decode cL_law 477 = .ok (.iadd, 1) := by decide +kernel
theorem dL_law_478 : decode cL_law 478 = .ok (.iaload, 1) := by decide +kernel
theorem dL_law_479 : decode cL_law 479 = .ok (.invokevirtual 61, 3) := by decide +kernel
theorem dL_law_482 : decode cL_law 482 = .ok (.if_icmp .eq 659, 3) := by decide +kernel
theorem dL_law_485 : decode cL_law 485 = .ok (.iconst 0, 1) := by decide +kernel
theorem dL_law_486 : decode cL_law 486 = .ok (.ireturn, 1) := by decide +kernel
theorem dL_law_487 : decode cL_law 487 = .ok (.aload_n 1, 1) := by decide +kernel
theorem dL_law_488 : decode cL_law 488 = .ok (.invokevirtual 62, 3) := by decide +kernel
theorem dL_law_491 : decode cL_law 491 = .ok (.aload_n 2, 1) := by decide +kernel
theorem dL_law_492 : decode cL_law 492 = .ok (.invokevirtual 65, 3) := by decide +kernel
theorem dL_law_495 : decode cL_law 495 = .ok (.if_icmp .eq 646, 3) := by decide +kernel
theorem dL_law_498 : decode cL_law 498 = .ok (.iconst 0, 1) := by decide +kernel
theorem dL_law_499 : decode cL_law 499 = .ok (.ireturn, 1) := by decide +kernel
theorem dL_law_500 : decode cL_law 500 = .ok (.aload_n 1, 1) := by decide +kernel
theorem dL_law_501 : decode cL_law 501 = .ok (.aload_n 0, 1) := by decide +kernel
theorem dL_law_502 : decode cL_law 502 = .ok (.iload_n 3, 1) := by decide +kernel
theorem dL_law_503 : decode cL_law 503 = .ok (.iconst 1, 1) := by decide +kernel
theorem dL_law_504 : decode cL_law 504 = .ok (.iadd, 1) := by decide +kernel
theorem dL_law_505 : decode cL_law 505 = .ok (.iaload, 1) := by decide +kernel
theorem dL_law_506 : decode cL_law 506 = .ok (.invokevirtual 66, 3) := by decide +kernel
theorem dL_law_509 : decode cL_law 509 = .ok (.aload_n 2, 1) := by decide +kernel
theorem dL_law_510 : decode cL_law 510 = .ok (.aload_n 0, 1) := by decide +kernel
theorem dL_law_511 : decode cL_law 511 = .ok (.iload_n 3, 1) := by decide +kernel
theorem dL_law_512 : decode cL_law 512 = .ok (.iconst 1, 1) := by decide +kernel
theorem dL_law_513 : decode cL_law 513 = .ok (.iadd, 1) := by decide +kernel
theorem dL_law_514 : decode cL_law 514 = .ok (.iaload, 1) := by decide +kernel
theorem dL_law_515 : decode cL_law 515 = .ok (.invokevirtual 69, 3) := by decide +kernel
theorem dL_law_518 : decode cL_law 518 = .ok (.if_icmp .eq 623, 3) := by decide +kernel
theorem dL_law_521 : decode cL_law 521 = .ok (.iconst 0, 1) := by decide +kernel
theorem dL_law_522 : decode cL_law 522 = .ok (.ireturn, 1) := by decide +kernel
theorem dL_law_523 : decode cL_law 523 = .ok (.aload_n 1, 1) := by decide +kernel
theorem dL_law_524 : decode cL_law 524 = .ok (.aload_n 0, 1) := by decide +kernel
theorem dL_law_525 : decode cL_law 525 = .ok (.iload_n 3, 1) := by decide +kernel
theorem dL_law_526 : decode cL_law 526 = .ok (.iconst 1, 1) := by decide +kernel
theorem dL_law_527 : decode cL_law 527 = .ok (.iadd, 1) := by decide +kernel
theorem dL_law_528 : decode cL_law 528 = .ok (.iaload, 1) := by decide +kernel
theorem dL_law_529 : decode cL_law 529 = .ok (.aload_n 0, 1) := by decide +kernel
theorem dL_law_530 : decode cL_law 530 = .ok (.iload_n 3, 1) := by decide +kernel
theorem dL_law_531 : decode cL_law 531 = .ok (.iconst 2, 1) := by decide +kernel
theorem dL_law_532 : decode cL_law 532 = .ok (.iadd, 1) := by decide +kernel
theorem dL_law_533 : decode cL_law 533 = .ok (.iaload, 1) := by decide +kernel
theorem dL_law_534 : decode cL_law 534 = .ok (.invokevirtual 70, 3) := by decide +kernel
theorem dL_law_537 : decode cL_law 537 = .ok (.aload_n 2, 1) := by decide +kernel
theorem dL_law_538 : decode cL_law 538 = .ok (.aload_n 0, 1) := by decide +kernel
theorem dL_law_539 : decode cL_law 539 = .ok (.iload_n 3, 1) := by decide +kernel
theorem dL_law_540 : decode cL_law 540 = .ok (.iconst 1, 1) := by decide +kernel
theorem dL_law_541 : decode cL_law 541 = .ok (.iadd, 1) := by decide +kernel
theorem dL_law_542 : decode cL_law 542 = .ok (.iaload, 1) := by decide +kernel
theorem dL_law_543 : decode cL_law 543 = .ok (.aload_n 0, 1) := by decide +kernel
theorem dL_law_544 : decode cL_law 544 = .ok (.iload_n 3, 1) := by decide +kernel
theorem dL_law_545 : decode cL_law 545 = .ok (.iconst 2, 1) := by decide +kernel
theorem dL_law_546 : decode cL_law 546 = .ok (.iadd, 1) := by decide +kernel
theorem dL_law_547 : decode cL_law 547 = .ok (.iaload, 1) := by decide +kernel
theorem dL_law_548 : decode cL_law 548 = .ok (.invokevirtual 73, 3) := by decide +kernel
theorem dL_law_551 : decode cL_law 551 = .ok (.if_icmp .eq 590, 3) := by decide +kernel
theorem dL_law_554 : decode cL_law 554 = .ok (.iconst 0, 1) := by decide +kernel
theorem dL_law_555 : decode cL_law 555 = .ok (.ireturn, 1) := by decide +kernel
theorem dL_law_556 : decode cL_law 556 = .ok (.aload_n 1, 1) := by decide +kernel
theorem dL_law_557 : decode cL_law 557 = .ok (.aload_n 0, 1) := by decide +kernel
theorem dL_law_558 : decode cL_law 558 = .ok (.iload_n 3, 1) := by decide +kernel
theorem dL_law_559 : decode cL_law 559 = .ok (.iconst 1, 1) := by decide +kernel
theorem dL_law_560 : decode cL_law 560 = .ok (.iadd, 1) := by decide +kernel
theorem dL_law_561 : decode cL_law 561 = .ok (.iaload, 1) := by decide +kernel
theorem dL_law_562 : decode cL_law 562 = .ok (.invokevirtual 74, 3) := by decide +kernel
theorem dL_law_565 : decode cL_law 565 = .ok (.aload_n 2, 1) := by decide +kernel
theorem dL_law_566 : decode cL_law 566 = .ok (.aload_n 0, 1) := by decide +kernel
theorem dL_law_567 : decode cL_law 567 = .ok (.iload_n 3, 1) := by decide +kernel
theorem dL_law_568 : decode cL_law 568 = .ok (.iconst 1, 1) := by decide +kernel
theorem dL_law_569 : decode cL_law 569 = .ok (.iadd, 1) := by decide +kernel
theorem dL_law_570 : decode cL_law 570 = .ok (.iaload, 1) := by decide +kernel
theorem dL_law_571 : decode cL_law 571 = .ok (.invokevirtual 77, 3) := by decide +kernel
theorem dL_law_574 : decode cL_law 574 = .ok (.if_icmp .eq 567, 3) := by decide +kernel
theorem dL_law_577 : decode cL_law 577 = .ok (.iconst 0, 1) := by decide +kernel
theorem dL_law_578 : decode cL_law 578 = .ok (.ireturn, 1) := by decide +kernel
theorem dL_law_579 : decode cL_law 579 = .ok (.aload_n 1, 1) := by decide +kernel
theorem dL_law_580 : decode cL_law 580 = .ok (.aload_n 0, 1) := by decide +kernel
theorem dL_law_581 : decode cL_law 581 = .ok (.iload_n 3, 1) := by decide +kernel
theorem dL_law_582 : decode cL_law 582 = .ok (.iconst 1, 1) := by decide +kernel
theorem dL_law_583 : decode cL_law 583 = .ok (.iadd, 1) := by decide +kernel
theorem dL_law_584 : decode cL_law 584 = .ok (.iaload, 1) := by decide +kernel
theorem dL_law_585 : decode cL_law 585 = .ok (.aload_n 0, 1) := by decide +kernel
theorem dL_law_586 : decode cL_law 586 = .ok (.iload_n 3, 1) := by decide +kernel
theorem dL_law_587 : decode cL_law 587 = .ok (.iconst 2, 1) := by decide +kernel
theorem dL_law_588 : decode cL_law 588 = .ok (.iadd, 1) := by decide +kernel
theorem dL_law_589 : decode cL_law 589 = .ok (.iaload, 1) := by decide +kernel
theorem dL_law_590 : decode cL_law 590 = .ok (.invokevirtual 78, 3) := by decide +kernel
theorem dL_law_593 : decode cL_law 593 = .ok (.aload_n 2, 1) := by decide +kernel
theorem dL_law_594 : decode cL_law 594 = .ok (.aload_n 0, 1) := by decide +kernel
theorem dL_law_595 : decode cL_law 595 = .ok (.iload_n 3, 1) := by decide +kernel
theorem dL_law_596 : decode cL_law 596 = .ok (.iconst 1, 1) := by decide +kernel
theorem dL_law_597 : decode cL_law 597 = .ok (.iadd, 1) := by decide +kernel
theorem dL_law_598 : decode cL_law 598 = .ok (.iaload, 1) := by decide +kernel
theorem dL_law_599 : decode cL_law 599 = .ok (.aload_n 0, 1) := by decide +kernel
theorem dL_law_600 : decode cL_law 600 = .ok (.iload_n 3, 1) := by decide +kernel
theorem dL_law_601 : decode cL_law 601 = .ok (.iconst 2, 1) := by decide +kernel
theorem dL_law_602 : decode cL_law 602 = .ok (.iadd, 1) := by decide +kernel
theorem dL_law_603 : decode cL_law 603 = .ok (.iaload, 1) := by decide +kernel
theorem dL_law_604 : decode cL_law 604 = .ok (.invokevirtual 81, 3) := by decide +kernel
theorem dL_law_607 : decode cL_law 607 = .ok (.if_icmp .eq 534, 3) := by decide +kernel
theorem dL_law_610 : decode cL_law 610 = .ok (.iconst 0, 1) := by decide +kernel
theorem dL_law_611 : decode cL_law 611 = .ok (.ireturn, 1) := by decide +kernel
theorem dL_law_612 : decode cL_law 612 = .ok (.aload_n 1, 1) := by decide +kernel
theorem dL_law_613 : decode cL_law 613 = .ok (.aload_n 0, 1) := by decide +kernel
theorem dL_law_614 : decode cL_law 614 = .ok (.iload_n 3, 1) := by decide +kernel
theorem dL_law_615 : decode cL_law 615 = .ok (.iconst 1, 1) := by decide +kernel
theorem dL_law_616 : decode cL_law 616 = .ok (.iadd, 1) := by decide +kernel
theorem dL_law_617 : decode cL_law 617 = .ok (.iaload, 1) := by decide +kernel
theorem dL_law_618 : decode cL_law 618 = .ok (.aload_n 0, 1) := by decide +kernel
theorem dL_law_619 : decode cL_law 619 = .ok (.iload_n 3, 1) := by decide +kernel
theorem dL_law_620 : decode cL_law 620 = .ok (.iconst 2, 1) := by decide +kernel
theorem dL_law_621 : decode cL_law 621 = .ok (.iadd, 1) := by decide +kernel
theorem dL_law_622 : decode cL_law 622 = .ok (.iaload, 1) := by decide +kernel
theorem dL_law_623 : decode cL_law 623 = .ok (.invokevirtual 82, 3) := by decide +kernel
theorem dL_law_626 : decode cL_law 626 = .ok (.aload_n 2, 1) := by decide +kernel
theorem dL_law_627 : decode cL_law 627 = .ok (.aload_n 0, 1) := by decide +kernel
theorem dL_law_628 : decode cL_law 628 = .ok (.iload_n 3, 1) := by decide +kernel
theorem dL_law_629 : decode cL_law 629 = .ok (.iconst 1, 1) := by decide +kernel
theorem dL_law_630 : decode cL_law 630 = .ok (.iadd, 1) := by decide +kernel
theorem dL_law_631 : decode cL_law 631 = .ok (.iaload, 1) := by decide +kernel
theorem dL_law_632 : decode cL_law 632 = .ok (.aload_n 0, 1) := by decide +kernel
theorem dL_law_633 : decode cL_law 633 = .ok (.iload_n 3, 1) := by decide +kernel
theorem dL_law_634 : decode cL_law 634 = .ok (.iconst 2, 1) := by decide +kernel
theorem dL_law_635 : decode cL_law 635 = .ok (.iadd, 1) := by decide +kernel
theorem dL_law_636 : decode cL_law 636 = .ok (.iaload, 1) := by decide +kernel
theorem dL_law_637 : decode cL_law 637 = .ok (.invokevirtual 85, 3) := by decide +kernel
theorem dL_law_640 : decode cL_law 640 = .ok (.if_icmp .eq 501, 3) := by decide +kernel
theorem dL_law_643 : decode cL_law 643 = .ok (.iconst 0, 1) := by decide +kernel
theorem dL_law_644 : decode cL_law 644 = .ok (.ireturn, 1) := by decide +kernel
theorem dL_law_645 : decode cL_law 645 = .ok (.aload_n 1, 1) := by decide +kernel
theorem dL_law_646 : decode cL_law 646 = .ok (.aload_n 0, 1) := by decide +kernel
theorem dL_law_647 : decode cL_law 647 = .ok (.iload_n 3, 1) := by decide +kernel
theorem dL_law_648 : decode cL_law 648 = .ok (.iconst 1, 1) := by decide +kernel
theorem dL_law_649 : decode cL_law 649 = .ok (.iadd, 1) := by decide +kernel
theorem dL_law_650 : decode cL_law 650 = .ok (.iaload, 1) := by decide +kernel
theorem dL_law_651 : decode cL_law 651 = .ok (.aload_n 0, 1) := by decide +kernel
theorem dL_law_652 : decode cL_law 652 = .ok (.iload_n 3, 1) := by decide +kernel
theorem dL_law_653 : decode cL_law 653 = .ok (.iconst 2, 1) := by decide +kernel
theorem dL_law_654 : decode cL_law 654 = .ok (.iadd, 1) := by decide +kernel
theorem dL_law_655 : decode cL_law 655 = .ok (.iaload, 1) := by decide +kernel
theorem dL_law_656 : decode cL_law 656 = .ok (.invokevirtual 86, 3) := by decide +kernel
theorem dL_law_659 : decode cL_law 659 = .ok (.aload_n 2, 1) := by decide +kernel
theorem dL_law_660 : decode cL_law 660 = .ok (.aload_n 0, 1) := by decide +kernel
theorem dL_law_661 : decode cL_law 661 = .ok (.iload_n 3, 1) := by decide +kernel
theorem dL_law_662 : decode cL_law 662 = .ok (.iconst 1, 1) := by decide +kernel
theorem dL_law_663 : decode cL_law 663 = .ok (.iadd, 1) := by decide +kernel
theorem dL_law_664 : decode cL_law 664 = .ok (.iaload, 1) := by decide +kernel
theorem dL_law_665 : decode cL_law 665 = .ok (.aload_n 0, 1) := by decide +kernel
theorem dL_law_666 : decode cL_law 666 = .ok (.iload_n 3, 1) := by decide +kernel
theorem dL_law_667 : decode cL_law 667 = .ok (.iconst 2, 1) := by decide +kernel
theorem dL_law_668 : decode cL_law 668 = .ok (.iadd, 1) := by decide +kernel
theorem dL_law_669 : decode cL_law 669 = .ok (.iaload, 1) := by decide +kernel
theorem dL_law_670 : decode cL_law 670 = .ok (.invokevirtual 89, 3) := by decide +kernel
theorem dL_law_673 : decode cL_law 673 = .ok (.if_icmp .eq 468, 3) := by decide +kernel
theorem dL_law_676 : decode cL_law 676 = .ok (.iconst 0, 1) := by decide +kernel
theorem dL_law_677 : decode cL_law 677 = .ok (.ireturn, 1) := by decide +kernel
theorem dL_law_678 : decode cL_law 678 = .ok (.aload_n 1, 1) := by decide +kernel
theorem dL_law_679 : decode cL_law 679 = .ok (.aload_n 0, 1) := by decide +kernel
theorem dL_law_680 : decode cL_law 680 = .ok (.iload_n 3, 1) := by decide +kernel
theorem dL_law_681 : decode cL_law 681 = .ok (.iconst 1, 1) := by decide +kernel
theorem dL_law_682 : decode cL_law 682 = .ok (.iadd, 1) := by decide +kernel
theorem dL_law_683 : decode cL_law 683 = .ok (.iaload, 1) := by decide +kernel
theorem dL_law_684 : decode cL_law 684 = .ok (.aload_n 0, 1) := by decide +kernel
theorem dL_law_685 : decode cL_law 685 = .ok (.iload_n 3, 1) := by decide +kernel
theorem dL_law_686 : decode cL_law 686 = .ok (.iconst 2, 1) := by decide +kernel
theorem dL_law_687 : decode cL_law 687 = .ok (.iadd, 1) := by decide +kernel
theorem dL_law_688 : decode cL_law 688 = .ok (.iaload, 1) := by decide +kernel
theorem dL_law_689 : decode cL_law 689 = .ok (.invokevirtual 90, 3) := by decide +kernel
theorem dL_law_692 : decode cL_law 692 = .ok (.aload_n 2, 1) := by decide +kernel
theorem dL_law_693 : decode cL_law 693 = .ok (.aload_n 0, 1) := by decide +kernel
theorem dL_law_694 : decode cL_law 694 = .ok (.iload_n 3, 1) := by decide +kernel
theorem dL_law_695 : decode cL_law 695 = .ok (.iconst 1, 1) := by decide +kernel
theorem dL_law_696 : decode cL_law 696 = .ok (.iadd, 1) := by decide +kernel
theorem dL_law_697 : decode cL_law 697 = .ok (.iaload, 1) := by decide +kernel
theorem dL_law_698 : decode cL_law 698 = .ok (.aload_n 0, 1) := by decide +kernel
theorem dL_law_699 : decode cL_law 699 = .ok (.iload_n 3, 1) := by decide +kernel
theorem dL_law_700 : decode cL_law 700 = .ok (.iconst 2, 1) := by decide +kernel
theorem dL_law_701 : decode cL_law 701 = .ok (.iadd, 1) := by decide +kernel
theorem dL_law_702 : decode cL_law 702 = .ok (.iaload, 1) := by decide +kernel
theorem dL_law_703 : decode cL_law 703 = .ok (.invokevirtual 93, 3) := by decide +kernel
theorem dL_law_706 : decode cL_law 706 = .ok (.if_icmp .eq 435, 3) := by decide +kernel
theorem dL_law_709 : decode cL_law 709 = .ok (.iconst 0, 1) := by decide +kernel
theorem dL_law_710 : decode cL_law 710 = .ok (.ireturn, 1) := by decide +kernel
theorem dL_law_711 : decode cL_law 711 = .ok (.aload_n 1, 1) := by decide +kernel
theorem dL_law_712 : decode cL_law 712 = .ok (.aload_n 0, 1) := by decide +kernel
theorem dL_law_713 : decode cL_law 713 = .ok (.iload_n 3, 1) := by decide +kernel
theorem dL_law_714 : decode cL_law 714 = .ok (.iconst 1, 1) := by decide +kernel
theorem dL_law_715 : decode cL_law 715 = .ok (.iadd, 1) := by decide +kernel
theorem dL_law_716 : decode cL_law 716 = .ok (.iaload, 1) := by decide +kernel
theorem dL_law_717 : decode cL_law 717 = .ok (.aload_n 0, 1) := by decide +kernel
theorem dL_law_718 : decode cL_law 718 = .ok (.iload_n 3, 1) := by decide +kernel
theorem dL_law_719 : decode cL_law 719 = .ok (.iconst 2, 1) := by decide +kernel
theorem dL_law_720 : decode cL_law 720 = .ok (.iadd, 1) := by decide +kernel
theorem dL_law_721 : decode cL_law 721 = .ok (.iaload, 1) := by decide +kernel
theorem dL_law_722 : decode cL_law 722 = .ok (.invokevirtual 94, 3) := by decide +kernel
theorem dL_law_725 : decode cL_law 725 = .ok (.aload_n 2, 1) := by decide +kernel
theorem dL_law_726 : decode cL_law 726 = .ok (.aload_n 0, 1) := by decide +kernel
theorem dL_law_727 : decode cL_law 727 = .ok (.iload_n 3, 1) := by decide +kernel
theorem dL_law_728 : decode cL_law 728 = .ok (.iconst 1, 1) := by decide +kernel
theorem dL_law_729 : decode cL_law 729 = .ok (.iadd, 1) := by decide +kernel
theorem dL_law_730 : decode cL_law 730 = .ok (.iaload, 1) := by decide +kernel
theorem dL_law_731 : decode cL_law 731 = .ok (.aload_n 0, 1) := by decide +kernel
theorem dL_law_732 : decode cL_law 732 = .ok (.iload_n 3, 1) := by decide +kernel
theorem dL_law_733 : decode cL_law 733 = .ok (.iconst 2, 1) := by decide +kernel
theorem dL_law_734 : decode cL_law 734 = .ok (.iadd, 1) := by decide +kernel
theorem dL_law_735 : decode cL_law 735 = .ok (.iaload, 1) := by decide +kernel
theorem dL_law_736 : decode cL_law 736 = .ok (.invokevirtual 97, 3) := by decide +kernel
theorem dL_law_739 : decode cL_law 739 = .ok (.if_icmp .eq 402, 3) := by decide +kernel
theorem dL_law_742 : decode cL_law 742 = .ok (.iconst 0, 1) := by decide +kernel
theorem dL_law_743 : decode cL_law 743 = .ok (.ireturn, 1) := by decide +kernel
theorem dL_law_744 : decode cL_law 744 = .ok (.aload_n 1, 1) := by decide +kernel
theorem dL_law_745 : decode cL_law 745 = .ok (.aload_n 0, 1) := by decide +kernel
theorem dL_law_746 : decode cL_law 746 = .ok (.iload_n 3, 1) := by decide +kernel
theorem dL_law_747 : decode cL_law 747 = .ok (.iconst 1, 1) := by decide +kernel
theorem dL_law_748 : decode cL_law 748 = .ok (.iadd, 1) := by decide +kernel
theorem dL_law_749 : decode cL_law 749 = .ok (.iaload, 1) := by decide +kernel
theorem dL_law_750 : decode cL_law 750 = .ok (.aload_n 0, 1) := by decide +kernel
theorem dL_law_751 : decode cL_law 751 = .ok (.iload_n 3, 1) := by decide +kernel
theorem dL_law_752 : decode cL_law 752 = .ok (.iconst 2, 1) := by decide +kernel
theorem dL_law_753 : decode cL_law 753 = .ok (.iadd, 1) := by decide +kernel
theorem dL_law_754 : decode cL_law 754 = .ok (.iaload, 1) := by decide +kernel
theorem dL_law_755 : decode cL_law 755 = .ok (.aload_n 0, 1) := by decide +kernel
theorem dL_law_756 : decode cL_law 756 = .ok (.iload_n 3, 1) := by decide +kernel
theorem dL_law_757 : decode cL_law 757 = .ok (.iconst 3, 1) := by decide +kernel
theorem dL_law_758 : decode cL_law 758 = .ok (.iadd, 1) := by decide +kernel
theorem dL_law_759 : decode cL_law 759 = .ok (.iaload, 1) := by decide +kernel
theorem dL_law_760 : decode cL_law 760 = .ok (.invokevirtual 98, 3) := by decide +kernel
theorem dL_law_763 : decode cL_law 763 = .ok (.aload_n 2, 1) := by decide +kernel
theorem dL_law_764 : decode cL_law 764 = .ok (.aload_n 0, 1) := by decide +kernel
theorem dL_law_765 : decode cL_law 765 = .ok (.iload_n 3, 1) := by decide +kernel
theorem dL_law_766 : decode cL_law 766 = .ok (.iconst 1, 1) := by decide +kernel
theorem dL_law_767 : decode cL_law 767 = .ok (.iadd, 1) := by decide +kernel
theorem dL_law_768 : decode cL_law 768 = .ok (.iaload, 1) := by decide +kernel
theorem dL_law_769 : decode cL_law 769 = .ok (.aload_n 0, 1) := by decide +kernel
theorem dL_law_770 : decode cL_law 770 = .ok (.iload_n 3, 1) := by decide +kernel
theorem dL_law_771 : decode cL_law 771 = .ok (.iconst 2, 1) := by decide +kernel
theorem dL_law_772 : decode cL_law 772 = .ok (.iadd, 1) := by decide +kernel
theorem dL_law_773 : decode cL_law 773 = .ok (.iaload, 1) := by decide +kernel
theorem dL_law_774 : decode cL_law 774 = .ok (.aload_n 0, 1) := by decide +kernel
theorem dL_law_775 : decode cL_law 775 = .ok (.iload_n 3, 1) := by decide +kernel
theorem dL_law_776 : decode cL_law 776 = .ok (.iconst 3, 1) := by decide +kernel
theorem dL_law_777 : decode cL_law 777 = .ok (.iadd, 1) := by decide +kernel
theorem dL_law_778 : decode cL_law 778 = .ok (.iaload, 1) := by decide +kernel
theorem dL_law_779 : decode cL_law 779 = .ok (.invokevirtual 101, 3) := by decide +kernel
theorem dL_law_782 : decode cL_law 782 = .ok (.if_icmp .eq 359, 3) := by decide +kernel
theorem dL_law_785 : decode cL_law 785 = .ok (.iconst 0, 1) := by decide +kernel
theorem dL_law_786 : decode cL_law 786 = .ok (.ireturn, 1) := by decide +kernel
theorem dL_law_787 : decode cL_law 787 = .ok (.aload_n 1, 1) := by decide +kernel
theorem dL_law_788 : decode cL_law 788 = .ok (.invokevirtual 102, 3) := by decide +kernel
theorem dL_law_791 : decode cL_law 791 = .ok (.aload_n 2, 1) := by decide +kernel
theorem dL_law_792 : decode cL_law 792 = .ok (.invokevirtual 105, 3) := by decide +kernel
theorem dL_law_795 : decode cL_law 795 = .ok (.if_icmp .eq 346, 3) := by decide +kernel
theorem dL_law_798 : decode cL_law 798 = .ok (.iconst 0, 1) := by decide +kernel
theorem dL_law_799 : decode cL_law 799 = .ok (.ireturn, 1) := by decide +kernel
theorem dL_law_800 : decode cL_law 800 = .ok (.aload_n 1, 1) := by decide +kernel
theorem dL_law_801 : decode cL_law 801 = .ok (.invokevirtual 106, 3) := by decide +kernel
theorem dL_law_804 : decode cL_law 804 = .ok (.aload_n 2, 1) := by decide +kernel
theorem dL_law_805 : decode cL_law 805 = .ok (.invokevirtual 109, 3) := by decide +kernel
theorem dL_law_808 : decode cL_law 808 = .ok (.if_icmp .eq 333, 3) := by decide +kernel
theorem dL_law_811 : decode cL_law 811 = .ok (.iconst 0, 1) := by decide +kernel
theorem dL_law_812 : decode cL_law 812 = .ok (.ireturn, 1) := by decide +kernel
theorem dL_law_813 : decode cL_law 813 = .ok (.aload_n 1, 1) := by decide +kernel
theorem dL_law_814 : decode cL_law 814 = .ok (.aload_n 0, 1) := by decide +kernel
theorem dL_law_815 : decode cL_law 815 = .ok (.iload_n 3, 1) := by decide +kernel
theorem dL_law_816 : decode cL_law 816 = .ok (.iconst 1, 1) := by decide +kernel
theorem dL_law_817 : decode cL_law 817 = .ok (.iadd, 1) := by decide +kernel
theorem dL_law_818 : decode cL_law 818 = .ok (.iaload, 1) := by decide +kernel
theorem dL_law_819 : decode cL_law 819 = .ok (.aload_n 0, 1) := by decide +kernel
theorem dL_law_820 : decode cL_law 820 = .ok (.iload_n 3, 1) := by decide +kernel
theorem dL_law_821 : decode cL_law 821 = .ok (.iconst 2, 1) := by decide +kernel
theorem dL_law_822 : decode cL_law 822 = .ok (.iadd, 1) := by decide +kernel
theorem dL_law_823 : decode cL_law 823 = .ok (.iaload, 1) := by decide +kernel
theorem dL_law_824 : decode cL_law 824 = .ok (.aload_n 0, 1) := by decide +kernel
theorem dL_law_825 : decode cL_law 825 = .ok (.iload_n 3, 1) := by decide +kernel
theorem dL_law_826 : decode cL_law 826 = .ok (.iconst 3, 1) := by decide +kernel
theorem dL_law_827 : decode cL_law 827 = .ok (.iadd, 1) := by decide +kernel
theorem dL_law_828 : decode cL_law 828 = .ok (.iaload, 1) := by decide +kernel
theorem dL_law_829 : decode cL_law 829 = .ok (.aload_n 0, 1) := by decide +kernel
theorem dL_law_830 : decode cL_law 830 = .ok (.iload_n 3, 1) := by decide +kernel
theorem dL_law_831 : decode cL_law 831 = .ok (.iconst 4, 1) := by decide +kernel
theorem dL_law_832 : decode cL_law 832 = .ok (.iadd, 1) := by decide +kernel
theorem dL_law_833 : decode cL_law 833 = .ok (.iaload, 1) := by decide +kernel
theorem dL_law_834 : decode cL_law 834 = .ok (.aload_n 0, 1) := by decide +kernel
theorem dL_law_835 : decode cL_law 835 = .ok (.iload_n 3, 1) := by decide +kernel
theorem dL_law_836 : decode cL_law 836 = .ok (.iconst 5, 1) := by decide +kernel
theorem dL_law_837 : decode cL_law 837 = .ok (.iadd, 1) := by decide +kernel
theorem dL_law_838 : decode cL_law 838 = .ok (.iaload, 1) := by decide +kernel
theorem dL_law_839 : decode cL_law 839 = .ok (.invokevirtual 110, 3) := by decide +kernel
theorem dL_law_842 : decode cL_law 842 = .ok (.aload_n 2, 1) := by decide +kernel
theorem dL_law_843 : decode cL_law 843 = .ok (.aload_n 0, 1) := by decide +kernel
theorem dL_law_844 : decode cL_law 844 = .ok (.iload_n 3, 1) := by decide +kernel
theorem dL_law_845 : decode cL_law 845 = .ok (.iconst 1, 1) := by decide +kernel
theorem dL_law_846 : decode cL_law 846 = .ok (.iadd, 1) := by decide +kernel
theorem dL_law_847 : decode cL_law 847 = .ok (.iaload, 1) := by decide +kernel
theorem dL_law_848 : decode cL_law 848 = .ok (.aload_n 0, 1) := by decide +kernel
theorem dL_law_849 : decode cL_law 849 = .ok (.iload_n 3, 1) := by decide +kernel
theorem dL_law_850 : decode cL_law 850 = .ok (.iconst 2, 1) := by decide +kernel
theorem dL_law_851 : decode cL_law 851 = .ok (.iadd, 1) := by decide +kernel
theorem dL_law_852 : decode cL_law 852 = .ok (.iaload, 1) := by decide +kernel
theorem dL_law_853 : decode cL_law 853 = .ok (.aload_n 0, 1) := by decide +kernel
theorem dL_law_854 : decode cL_law 854 = .ok (.iload_n 3, 1) := by decide +kernel
theorem dL_law_855 : decode cL_law 855 = .ok (.iconst 3, 1) := by decide +kernel
theorem dL_law_856 : decode cL_law 856 = .ok (.iadd, 1) := by decide +kernel
theorem dL_law_857 : decode cL_law 857 = .ok (.iaload, 1) := by decide +kernel
theorem dL_law_858 : decode cL_law 858 = .ok (.aload_n 0, 1) := by decide +kernel
theorem dL_law_859 : decode cL_law 859 = .ok (.iload_n 3, 1) := by decide +kernel
theorem dL_law_860 : decode cL_law 860 = .ok (.iconst 4, 1) := by decide +kernel
theorem dL_law_861 : decode cL_law 861 = .ok (.iadd, 1) := by decide +kernel
theorem dL_law_862 : decode cL_law 862 = .ok (.iaload, 1) := by decide +kernel
theorem dL_law_863 : decode cL_law 863 = .ok (.aload_n 0, 1) := by decide +kernel
theorem dL_law_864 : decode cL_law 864 = .ok (.iload_n 3, 1) := by decide +kernel
theorem dL_law_865 : decode cL_law 865 = .ok (.iconst 5, 1) := by decide +kernel
theorem dL_law_866 : decode cL_law 866 = .ok (.iadd, 1) := by decide +kernel
theorem dL_law_867 : decode cL_law 867 = .ok (.iaload, 1) := by decide +kernel
theorem dL_law_868 : decode cL_law 868 = .ok (.invokevirtual 114, 3) := by decide +kernel
theorem dL_law_871 : decode cL_law 871 = .ok (.if_icmp .eq 270, 3) := by decide +kernel
theorem dL_law_874 : decode cL_law 874 = .ok (.iconst 0, 1) := by decide +kernel
theorem dL_law_875 : decode cL_law 875 = .ok (.ireturn, 1) := by decide +kernel
theorem dL_law_876 : decode cL_law 876 = .ok (.aload_n 1, 1) := by decide +kernel
theorem dL_law_877 : decode cL_law 877 = .ok (.aload_n 0, 1) := by decide +kernel
theorem dL_law_878 : decode cL_law 878 = .ok (.iload_n 3, 1) := by decide +kernel
theorem dL_law_879 : decode cL_law 879 = .ok (.iconst 1, 1) := by decide +kernel
theorem dL_law_880 : decode cL_law 880 = .ok (.iadd, 1) := by decide +kernel
theorem dL_law_881 : decode cL_law 881 = .ok (.iaload, 1) := by decide +kernel
theorem dL_law_882 : decode cL_law 882 = .ok (.aload_n 0, 1) := by decide +kernel
theorem dL_law_883 : decode cL_law 883 = .ok (.iload_n 3, 1) := by decide +kernel
theorem dL_law_884 : decode cL_law 884 = .ok (.iconst 2, 1) := by decide +kernel
theorem dL_law_885 : decode cL_law 885 = .ok (.iadd, 1) := by decide +kernel
theorem dL_law_886 : decode cL_law 886 = .ok (.iaload, 1) := by decide +kernel
theorem dL_law_887 : decode cL_law 887 = .ok (.aload_n 0, 1) := by decide +kernel
theorem dL_law_888 : decode cL_law 888 = .ok (.iload_n 3, 1) := by decide +kernel
theorem dL_law_889 : decode cL_law 889 = .ok (.iconst 3, 1) := by decide +kernel
theorem dL_law_890 : decode cL_law 890 = .ok (.iadd, 1) := by decide +kernel
theorem dL_law_891 : decode cL_law 891 = .ok (.iaload, 1) := by decide +kernel
theorem dL_law_892 : decode cL_law 892 = .ok (.aload_n 0, 1) := by decide +kernel
theorem dL_law_893 : decode cL_law 893 = .ok (.iload_n 3, 1) := by decide +kernel
theorem dL_law_894 : decode cL_law 894 = .ok (.iconst 4, 1) := by decide +kernel
theorem dL_law_895 : decode cL_law 895 = .ok (.iadd, 1) := by decide +kernel
theorem dL_law_896 : decode cL_law 896 = .ok (.iaload, 1) := by decide +kernel
theorem dL_law_897 : decode cL_law 897 = .ok (.invokevirtual 115, 3) := by decide +kernel
theorem dL_law_900 : decode cL_law 900 = .ok (.aload_n 2, 1) := by decide +kernel
theorem dL_law_901 : decode cL_law 901 = .ok (.aload_n 0, 1) := by decide +kernel
theorem dL_law_902 : decode cL_law 902 = .ok (.iload_n 3, 1) := by decide +kernel
theorem dL_law_903 : decode cL_law 903 = .ok (.iconst 1, 1) := by decide +kernel
theorem dL_law_904 : decode cL_law 904 = .ok (.iadd, 1) := by decide +kernel
theorem dL_law_905 : decode cL_law 905 = .ok (.iaload, 1) := by decide +kernel
theorem dL_law_906 : decode cL_law 906 = .ok (.aload_n 0, 1) := by decide +kernel
theorem dL_law_907 : decode cL_law 907 = .ok (.iload_n 3, 1) := by decide +kernel
theorem dL_law_908 : decode cL_law 908 = .ok (.iconst 2, 1) := by decide +kernel
theorem dL_law_909 : decode cL_law 909 = .ok (.iadd, 1) := by decide +kernel
theorem dL_law_910 : decode cL_law 910 = .ok (.iaload, 1) := by decide +kernel
theorem dL_law_911 : decode cL_law 911 = .ok (.aload_n 0, 1) := by decide +kernel
theorem dL_law_912 : decode cL_law 912 = .ok (.iload_n 3, 1) := by decide +kernel
theorem dL_law_913 : decode cL_law 913 = .ok (.iconst 3, 1) := by decide +kernel
theorem dL_law_914 : decode cL_law 914 = .ok (.iadd, 1) := by decide +kernel
theorem dL_law_915 : decode cL_law 915 = .ok (.iaload, 1) := by decide +kernel
theorem dL_law_916 : decode cL_law 916 = .ok (.aload_n 0, 1) := by decide +kernel
theorem dL_law_917 : decode cL_law 917 = .ok (.iload_n 3, 1) := by decide +kernel
theorem dL_law_918 : decode cL_law 918 = .ok (.iconst 4, 1) := by decide +kernel
theorem dL_law_919 : decode cL_law 919 = .ok (.iadd, 1) := by decide +kernel
theorem dL_law_920 : decode cL_law 920 = .ok (.iaload, 1) := by decide +kernel
theorem dL_law_921 : decode cL_law 921 = .ok (.invokevirtual 118, 3) := by decide +kernel
theorem dL_law_924 : decode cL_law 924 = .ok (.if_icmp .eq 217, 3) := by decide +kernel
theorem dL_law_927 : decode cL_law 927 = .ok (.iconst 0, 1) := by decide +kernel
theorem dL_law_928 : decode cL_law 928 = .ok (.ireturn, 1) := by decide +kernel
theorem dL_law_929 : decode cL_law 929 = .ok (.aload_n 1, 1) := by decide +kernel
theorem dL_law_930 : decode cL_law 930 = .ok (.aload_n 0, 1) := by decide +kernel
theorem dL_law_931 : decode cL_law 931 = .ok (.iload_n 3, 1) := by decide +kernel
theorem dL_law_932 : decode cL_law 932 = .ok (.iconst 1, 1) := by decide +kernel
theorem dL_law_933 : decode cL_law 933 = .ok (.iadd, 1) := by decide +kernel
theorem dL_law_934 : decode cL_law 934 = .ok (.iaload, 1) := by decide +kernel
theorem dL_law_935 : decode cL_law 935 = .ok (.aload_n 0, 1) := by decide +kernel
theorem dL_law_936 : decode cL_law 936 = .ok (.iload_n 3, 1) := by decide +kernel
theorem dL_law_937 : decode cL_law 937 = .ok (.iconst 2, 1) := by decide +kernel
theorem dL_law_938 : decode cL_law 938 = .ok (.iadd, 1) := by decide +kernel
theorem dL_law_939 : decode cL_law 939 = .ok (.iaload, 1) := by decide +kernel
theorem dL_law_940 : decode cL_law 940 = .ok (.aload_n 0, 1) := by decide +kernel
theorem dL_law_941 : decode cL_law 941 = .ok (.iload_n 3, 1) := by decide +kernel
theorem dL_law_942 : decode cL_law 942 = .ok (.iconst 3, 1) := by decide +kernel
theorem dL_law_943 : decode cL_law 943 = .ok (.iadd, 1) := by decide +kernel
theorem dL_law_944 : decode cL_law 944 = .ok (.iaload, 1) := by decide +kernel
theorem dL_law_945 : decode cL_law 945 = .ok (.invokevirtual 119, 3) := by decide +kernel
theorem dL_law_948 : decode cL_law 948 = .ok (.aload_n 2, 1) := by decide +kernel
theorem dL_law_949 : decode cL_law 949 = .ok (.aload_n 0, 1) := by decide +kernel
theorem dL_law_950 : decode cL_law 950 = .ok (.iload_n 3, 1) := by decide +kernel
theorem dL_law_951 : decode cL_law 951 = .ok (.iconst 1, 1) := by decide +kernel
theorem dL_law_952 : decode cL_law 952 = .ok (.iadd, 1) := by decide +kernel
theorem dL_law_953 : decode cL_law 953 = .ok (.iaload, 1) := by decide +kernel
theorem dL_law_954 : decode cL_law 954 = .ok (.aload_n 0, 1) := by decide +kernel
theorem dL_law_955 : decode cL_law 955 = .ok (.iload_n 3, 1) := by decide +kernel
theorem dL_law_956 : decode cL_law 956 = .ok (.iconst 2, 1) := by decide +kernel
theorem dL_law_957 : decode cL_law 957 = .ok (.iadd, 1) := by decide +kernel
theorem dL_law_958 : decode cL_law 958 = .ok (.iaload, 1) := by decide +kernel
theorem dL_law_959 : decode cL_law 959 = .ok (.aload_n 0, 1) := by decide +kernel
theorem dL_law_960 : decode cL_law 960 = .ok (.iload_n 3, 1) := by decide +kernel
theorem dL_law_961 : decode cL_law 961 = .ok (.iconst 3, 1) := by decide +kernel
theorem dL_law_962 : decode cL_law 962 = .ok (.iadd, 1) := by decide +kernel
theorem dL_law_963 : decode cL_law 963 = .ok (.iaload, 1) := by decide +kernel
theorem dL_law_964 : decode cL_law 964 = .ok (.invokevirtual 122, 3) := by decide +kernel
theorem dL_law_967 : decode cL_law 967 = .ok (.if_icmp .eq 174, 3) := by decide +kernel
theorem dL_law_970 : decode cL_law 970 = .ok (.iconst 0, 1) := by decide +kernel
theorem dL_law_971 : decode cL_law 971 = .ok (.ireturn, 1) := by decide +kernel
theorem dL_law_972 : decode cL_law 972 = .ok (.aload_n 1, 1) := by decide +kernel
theorem dL_law_973 : decode cL_law 973 = .ok (.aload_n 0, 1) := by decide +kernel
theorem dL_law_974 : decode cL_law 974 = .ok (.iload_n 3, 1) := by decide +kernel
theorem dL_law_975 : decode cL_law 975 = .ok (.iconst 1, 1) := by decide +kernel
theorem dL_law_976 : decode cL_law 976 = .ok (.iadd, 1) := by decide +kernel
theorem dL_law_977 : decode cL_law 977 = .ok (.iaload, 1) := by decide +kernel
theorem dL_law_978 : decode cL_law 978 = .ok (.invokevirtual 123, 3) := by decide +kernel
theorem dL_law_981 : decode cL_law 981 = .ok (.aload_n 2, 1) := by decide +kernel
theorem dL_law_982 : decode cL_law 982 = .ok (.aload_n 0, 1) := by decide +kernel
theorem dL_law_983 : decode cL_law 983 = .ok (.iload_n 3, 1) := by decide +kernel
theorem dL_law_984 : decode cL_law 984 = .ok (.iconst 1, 1) := by decide +kernel
theorem dL_law_985 : decode cL_law 985 = .ok (.iadd, 1) := by decide +kernel
theorem dL_law_986 : decode cL_law 986 = .ok (.iaload, 1) := by decide +kernel
theorem dL_law_987 : decode cL_law 987 = .ok (.invokevirtual 126, 3) := by decide +kernel
theorem dL_law_990 : decode cL_law 990 = .ok (.if_icmp .eq 151, 3) := by decide +kernel
theorem dL_law_993 : decode cL_law 993 = .ok (.iconst 0, 1) := by decide +kernel
theorem dL_law_994 : decode cL_law 994 = .ok (.ireturn, 1) := by decide +kernel
theorem dL_law_995 : decode cL_law 995 = .ok (.aload_n 1, 1) := by decide +kernel
theorem dL_law_996 : decode cL_law 996 = .ok (.aload_n 0, 1) := by decide +kernel
theorem dL_law_997 : decode cL_law 997 = .ok (.iload_n 3, 1) := by decide +kernel
theorem dL_law_998 : decode cL_law 998 = .ok (.iconst 1, 1) := by decide +kernel
theorem dL_law_999 : decode cL_law 999 = .ok (.iadd, 1) := by decide +kernel
theorem dL_law_1000 : decode cL_law 1000 = .ok (.iaload, 1) := by decide +kernel
theorem dL_law_1001 : decode cL_law 1001 = .ok (.aload_n 0, 1) := by decide +kernel
theorem dL_law_1002 : decode cL_law 1002 = .ok (.iload_n 3, 1) := by decide +kernel
theorem dL_law_1003 : decode cL_law 1003 = .ok (.iconst 2, 1) := by decide +kernel
theorem dL_law_1004 : decode cL_law 1004 = .ok (.iadd, 1) := by decide +kernel
theorem dL_law_1005 : decode cL_law 1005 = .ok (.iaload, 1) := by decide +kernel
theorem dL_law_1006 : decode cL_law 1006 = .ok (.aload_n 0, 1) := by decide +kernel
theorem dL_law_1007 : decode cL_law 1007 = .ok (.iload_n 3, 1) := by decide +kernel
theorem dL_law_1008 : decode cL_law 1008 = .ok (.iconst 3, 1) := by decide +kernel
theorem dL_law_1009 : decode cL_law 1009 = .ok (.iadd, 1) := by decide +kernel
theorem dL_law_1010 : decode cL_law 1010 = .ok (.iaload, 1) := by decide +kernel
theorem dL_law_1011 : decode cL_law 1011 = .ok (.aload_n 0, 1) := by decide +kernel
theorem dL_law_1012 : decode cL_law 1012 = .ok (.iload_n 3, 1) := by decide +kernel
theorem dL_law_1013 : decode cL_law 1013 = .ok (.iconst 4, 1) := by decide +kernel
theorem dL_law_1014 : decode cL_law 1014 = .ok (.iadd, 1) := by decide +kernel
theorem dL_law_1015 : decode cL_law 1015 = .ok (.iaload, 1) := by decide +kernel
theorem dL_law_1016 : decode cL_law 1016 = .ok (.i2l, 1) := by decide +kernel
theorem dL_law_1017 : decode cL_law 1017 = .ok (.bipush 32, 2) := by decide +kernel
theorem dL_law_1019 : decode cL_law 1019 = .ok (.lshl, 1) := by decide +kernel
theorem dL_law_1020 : decode cL_law 1020 = .ok (.aload_n 0, 1) := by decide +kernel
theorem dL_law_1021 : decode cL_law 1021 = .ok (.iload_n 3, 1) := by decide +kernel
theorem dL_law_1022 : decode cL_law 1022 = .ok (.iconst 5, 1) := by decide +kernel
theorem dL_law_1023 : decode cL_law 1023 = .ok (.iadd, 1) := by decide +kernel
theorem dL_law_1024 : decode cL_law 1024 = .ok (.iaload, 1) := by decide +kernel
theorem dL_law_1025 : decode cL_law 1025 = .ok (.i2l, 1) := by decide +kernel
theorem dL_law_1026 : decode cL_law 1026 = .ok (.ldc2_w 127, 3) := by decide +kernel
theorem dL_law_1029 : decode cL_law 1029 = .ok (.land, 1) := by decide +kernel
theorem dL_law_1030 : decode cL_law 1030 = .ok (.lor, 1) := by decide +kernel
theorem dL_law_1031 : decode cL_law 1031 = .ok (.invokevirtual 129, 3) := by decide +kernel
theorem dL_law_1034 : decode cL_law 1034 = .ok (.aload_n 2, 1) := by decide +kernel
theorem dL_law_1035 : decode cL_law 1035 = .ok (.aload_n 0, 1) := by decide +kernel
theorem dL_law_1036 : decode cL_law 1036 = .ok (.iload_n 3, 1) := by decide +kernel
theorem dL_law_1037 : decode cL_law 1037 = .ok (.iconst 1, 1) := by decide +kernel
theorem dL_law_1038 : decode cL_law 1038 = .ok (.iadd, 1) := by decide +kernel
theorem dL_law_1039 : decode cL_law 1039 = .ok (.iaload, 1) := by decide +kernel
theorem dL_law_1040 : decode cL_law 1040 = .ok (.aload_n 0, 1) := by decide +kernel
theorem dL_law_1041 : decode cL_law 1041 = .ok (.iload_n 3, 1) := by decide +kernel
theorem dL_law_1042 : decode cL_law 1042 = .ok (.iconst 2, 1) := by decide +kernel
theorem dL_law_1043 : decode cL_law 1043 = .ok (.iadd, 1) := by decide +kernel
theorem dL_law_1044 : decode cL_law 1044 = .ok (.iaload, 1) := by decide +kernel
theorem dL_law_1045 : decode cL_law 1045 = .ok (.aload_n 0, 1) := by decide +kernel
theorem dL_law_1046 : decode cL_law 1046 = .ok (.iload_n 3, 1) := by decide +kernel
theorem dL_law_1047 : decode cL_law 1047 = .ok (.iconst 3, 1) := by decide +kernel
theorem dL_law_1048 : decode cL_law 1048 = .ok (.iadd, 1) := by decide +kernel
theorem dL_law_1049 : decode cL_law 1049 = .ok (.iaload, 1) := by decide +kernel
theorem dL_law_1050 : decode cL_law 1050 = .ok (.aload_n 0, 1) := by decide +kernel
theorem dL_law_1051 : decode cL_law 1051 = .ok (.iload_n 3, 1) := by decide +kernel
theorem dL_law_1052 : decode cL_law 1052 = .ok (.iconst 4, 1) := by decide +kernel
theorem dL_law_1053 : decode cL_law 1053 = .ok (.iadd, 1) := by decide +kernel
theorem dL_law_1054 : decode cL_law 1054 = .ok (.iaload, 1) := by decide +kernel
theorem dL_law_1055 : decode cL_law 1055 = .ok (.i2l, 1) := by decide +kernel
theorem dL_law_1056 : decode cL_law 1056 = .ok (.bipush 32, 2) := by decide +kernel
theorem dL_law_1058 : decode cL_law 1058 = .ok (.lshl, 1) := by decide +kernel
theorem dL_law_1059 : decode cL_law 1059 = .ok (.aload_n 0, 1) := by decide +kernel
theorem dL_law_1060 : decode cL_law 1060 = .ok (.iload_n 3, 1) := by decide +kernel
theorem dL_law_1061 : decode cL_law 1061 = .ok (.iconst 5, 1) := by decide +kernel
theorem dL_law_1062 : decode cL_law 1062 = .ok (.iadd, 1) := by decide +kernel
theorem dL_law_1063 : decode cL_law 1063 = .ok (.iaload, 1) := by decide +kernel
theorem dL_law_1064 : decode cL_law 1064 = .ok (.i2l, 1) := by decide +kernel
theorem dL_law_1065 : decode cL_law 1065 = .ok (.ldc2_w 127, 3) := by decide +kernel
theorem dL_law_1068 : decode cL_law 1068 = .ok (.land, 1) := by decide +kernel
theorem dL_law_1069 : decode cL_law 1069 = .ok (.lor, 1) := by decide +kernel
theorem dL_law_1070 : decode cL_law 1070 = .ok (.invokevirtual 133, 3) := by decide +kernel
theorem dL_law_1073 : decode cL_law 1073 = .ok (.if_icmp .eq 68, 3) := by decide +kernel
theorem dL_law_1076 : decode cL_law 1076 = .ok (.iconst 0, 1) := by decide +kernel
theorem dL_law_1077 : decode cL_law 1077 = .ok (.ireturn, 1) := by decide +kernel
theorem dL_law_1078 : decode cL_law 1078 = .ok (.aload_n 1, 1) := by decide +kernel
theorem dL_law_1079 : decode cL_law 1079 = .ok (.aload_n 0, 1) := by decide +kernel
theorem dL_law_1080 : decode cL_law 1080 = .ok (.iload_n 3, 1) := by decide +kernel
theorem dL_law_1081 : decode cL_law 1081 = .ok (.iconst 1, 1) := by decide +kernel
theorem dL_law_1082 : decode cL_law 1082 = .ok (.iadd, 1) := by decide +kernel
theorem dL_law_1083 : decode cL_law 1083 = .ok (.iaload, 1) := by decide +kernel
theorem dL_law_1084 : decode cL_law 1084 = .ok (.aload_n 0, 1) := by decide +kernel
theorem dL_law_1085 : decode cL_law 1085 = .ok (.iload_n 3, 1) := by decide +kernel
theorem dL_law_1086 : decode cL_law 1086 = .ok (.iconst 2, 1) := by decide +kernel
theorem dL_law_1087 : decode cL_law 1087 = .ok (.iadd, 1) := by decide +kernel
theorem dL_law_1088 : decode cL_law 1088 = .ok (.iaload, 1) := by decide +kernel
theorem dL_law_1089 : decode cL_law 1089 = .ok (.aload_n 0, 1) := by decide +kernel
theorem dL_law_1090 : decode cL_law 1090 = .ok (.iload_n 3, 1) := by decide +kernel
theorem dL_law_1091 : decode cL_law 1091 = .ok (.iconst 3, 1) := by decide +kernel
theorem dL_law_1092 : decode cL_law 1092 = .ok (.iadd, 1) := by decide +kernel
theorem dL_law_1093 : decode cL_law 1093 = .ok (.iaload, 1) := by decide +kernel
theorem dL_law_1094 : decode cL_law 1094 = .ok (.aload_n 0, 1) := by decide +kernel
theorem dL_law_1095 : decode cL_law 1095 = .ok (.iload_n 3, 1) := by decide +kernel
theorem dL_law_1096 : decode cL_law 1096 = .ok (.iconst 4, 1) := by decide +kernel
theorem dL_law_1097 : decode cL_law 1097 = .ok (.iadd, 1) := by decide +kernel
theorem dL_law_1098 : decode cL_law 1098 = .ok (.iaload, 1) := by decide +kernel
theorem dL_law_1099 : decode cL_law 1099 = .ok (.aload_n 0, 1) := by decide +kernel
theorem dL_law_1100 : decode cL_law 1100 = .ok (.iload_n 3, 1) := by decide +kernel
theorem dL_law_1101 : decode cL_law 1101 = .ok (.iconst 5, 1) := by decide +kernel
theorem dL_law_1102 : decode cL_law 1102 = .ok (.iadd, 1) := by decide +kernel
theorem dL_law_1103 : decode cL_law 1103 = .ok (.iaload, 1) := by decide +kernel
theorem dL_law_1104 : decode cL_law 1104 = .ok (.invokevirtual 134, 3) := by decide +kernel
theorem dL_law_1107 : decode cL_law 1107 = .ok (.aload_n 2, 1) := by decide +kernel
theorem dL_law_1108 : decode cL_law 1108 = .ok (.aload_n 0, 1) := by decide +kernel
theorem dL_law_1109 : decode cL_law 1109 = .ok (.iload_n 3, 1) := by decide +kernel
theorem dL_law_1110 : decode cL_law 1110 = .ok (.iconst 1, 1) := by decide +kernel
theorem dL_law_1111 : decode cL_law 1111 = .ok (.iadd, 1) := by decide +kernel
theorem dL_law_1112 : decode cL_law 1112 = .ok (.iaload, 1) := by decide +kernel
theorem dL_law_1113 : decode cL_law 1113 = .ok (.aload_n 0, 1) := by decide +kernel
theorem dL_law_1114 : decode cL_law 1114 = .ok (.iload_n 3, 1) := by decide +kernel
theorem dL_law_1115 : decode cL_law 1115 = .ok (.iconst 2, 1) := by decide +kernel
theorem dL_law_1116 : decode cL_law 1116 = .ok (.iadd, 1) := by decide +kernel
theorem dL_law_1117 : decode cL_law 1117 = .ok (.iaload, 1) := by decide +kernel
theorem dL_law_1118 : decode cL_law 1118 = .ok (.aload_n 0, 1) := by decide +kernel
theorem dL_law_1119 : decode cL_law 1119 = .ok (.iload_n 3, 1) := by decide +kernel
theorem dL_law_1120 : decode cL_law 1120 = .ok (.iconst 3, 1) := by decide +kernel
theorem dL_law_1121 : decode cL_law 1121 = .ok (.iadd, 1) := by decide +kernel
theorem dL_law_1122 : decode cL_law 1122 = .ok (.iaload, 1) := by decide +kernel
theorem dL_law_1123 : decode cL_law 1123 = .ok (.aload_n 0, 1) := by decide +kernel
theorem dL_law_1124 : decode cL_law 1124 = .ok (.iload_n 3, 1) := by decide +kernel
theorem dL_law_1125 : decode cL_law 1125 = .ok (.iconst 4, 1) := by decide +kernel
theorem dL_law_1126 : decode cL_law 1126 = .ok (.iadd, 1) := by decide +kernel
theorem dL_law_1127 : decode cL_law 1127 = .ok (.iaload, 1) := by decide +kernel
theorem dL_law_1128 : decode cL_law 1128 = .ok (.aload_n 0, 1) := by decide +kernel
theorem dL_law_1129 : decode cL_law 1129 = .ok (.iload_n 3, 1) := by decide +kernel
theorem dL_law_1130 : decode cL_law 1130 = .ok (.iconst 5, 1) := by decide +kernel
theorem dL_law_1131 : decode cL_law 1131 = .ok (.iadd, 1) := by decide +kernel
theorem dL_law_1132 : decode cL_law 1132 = .ok (.iaload, 1) := by decide +kernel
theorem dL_law_1133 : decode cL_law 1133 = .ok (.invokevirtual 137, 3) := by decide +kernel
theorem dL_law_1136 : decode cL_law 1136 = .ok (.if_icmp .eq 5, 3) := by decide +kernel
theorem dL_law_1139 : decode cL_law 1139 = .ok (.iconst 0, 1) := by decide +kernel
theorem dL_law_1140 : decode cL_law 1140 = .ok (.ireturn, 1) := by decide +kernel
theorem dL_law_1141 : decode cL_law 1141 = .ok (.iinc 3 6, 3) := by decide +kernel
theorem dL_law_1144 : decode cL_law 1144 = .ok (.goto (-1126), 3) := by decide +kernel
theorem dL_law_1147 : decode cL_law 1147 = .ok (.iconst 1, 1) := by decide +kernel
theorem dL_law_1148 : decode cL_law 1148 = .ok (.ireturn, 1) := by decide +kernel
