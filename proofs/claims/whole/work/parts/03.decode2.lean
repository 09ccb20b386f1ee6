theorem dX4_luck_86 : decode cX4_luck 86 = .ok (.iload 6, 2) := by decide +kernel
theorem dX4_luck_88 : decode cX4_luck 88 = .ok (.iload_n 1, 1) := by decide +kernel
theorem dX4_luck_89 : decode cX4_luck 89 = .ok (.invokevirtual 179, 3) := by decide +kernel
theorem dX4_luck_92 : decode cX4_luck 92 = .ok (.ifCond .eq 16, 3) := by decide +kernel
theorem dX4_luck_95 : decode cX4_luck 95 = .ok (.iload 4, 2) := by decide +kernel
theorem dX4_luck_97 : decode cX4_luck 97 = .ok (.iload_n 2, 1) := by decide +kernel
theorem dX4_luck_98 : decode cX4_luck 98 = .ok (.imul, 1) := by decide +kernel
theorem dX4_luck_99 : decode cX4_luck 99 = .ok (.istore 4, 2) := by decide +kernel
theorem dX4_luck_101 : decode cX4_luck 101 = .ok (.iload 5, 2) := by decide +kernel
theorem dX4_luck_103 : decode cX4_luck 103 = .ok (.bipush 10, 2) := by decide +kernel
theorem dX4_luck_105 : decode cX4_luck 105 = .ok (.imul, 1) := by decide +kernel
theorem dX4_luck_106 : decode cX4_luck 106 = .ok (.istore 5, 2) := by decide +kernel
theorem dX4_luck_108 : decode cX4_luck 108 = .ok (.iinc 6 1, 3) := by decide +kernel
theorem dX4_luck_111 : decode cX4_luck 111 = .ok (.goto (-41), 3) := by decide +kernel
theorem dX4_luck_114 : decode cX4_luck 114 = .ok (.iload 4, 2) := by decide +kernel
theorem dX4_luck_116 : decode cX4_luck 116 = .ok (.iload 5, 2) := by decide +kernel
theorem dX4_luck_118 : decode cX4_luck 118 = .ok (.invokestatic 183, 3) := by decide +kernel
theorem dX4_luck_121 : decode cX4_luck 121 = .ok (.istore 6, 2) := by decide +kernel
theorem dX4_luck_123 : decode cX4_luck 123 = .ok (.iload 6, 2) := by decide +kernel
theorem dX4_luck_125 : decode cX4_luck 125 = .ok (.ifCond .ne 5, 3) := by decide +kernel
theorem dX4_luck_128 : decode cX4_luck 128 = .ok (.iconst (-1), 1) := by decide +kernel
theorem dX4_luck_129 : decode cX4_luck 129 = .ok (.ireturn, 1) := by decide +kernel
theorem dX4_luck_130 : decode cX4_luck 130 = .ok (.iload_n 3, 1) := by decide +kernel
theorem dX4_luck_131 : decode cX4_luck 131 = .ok (.ifCond .ne 8, 3) := by decide +kernel
theorem dX4_luck_134 : decode cX4_luck 134 = .ok (.iload 4, 2) := by decide +kernel
theorem dX4_luck_136 : decode cX4_luck 136 = .ok (.goto 5, 3) := by decide +kernel
theorem dX4_luck_139 : decode cX4_luck 139 = .ok (.iload 5, 2) := by decide +kernel
theorem dX4_luck_141 : decode cX4_luck 141 = .ok (.iload 6, 2) := by decide +kernel
theorem dX4_luck_143 : decode cX4_luck 143 = .ok (.idiv, 1) := by decide +kernel
theorem dX4_luck_144 : decode cX4_luck 144 = .ok (.ireturn, 1) := by decide +kernel
theorem dX4_image_0 : decode cX4_image 0 = .ok (.aload_n 0, 1) := by decide +kernel
theorem dX4_image_1 : decode cX4_image 1 = .ok (.getfield 26, 3) := by decide +kernel
theorem dX4_image_4 : decode cX4_image 4 = .ok (.aload_n 0, 1) := by decide +kernel
theorem dX4_image_5 : decode cX4_image 5 = .ok (.getfield 10, 3) := by decide +kernel
theorem dX4_image_8 : decode cX4_image 8 = .ok (.invokevirtual 111, 3) := by decide +kernel
theorem dX4_image_11 : decode cX4_image 11 = .ok (.aload_n 0, 1) := by decide +kernel
theorem dX4_image_12 : decode cX4_image 12 = .ok (.getfield 29, 3) := by decide +kernel
theorem dX4_image_15 : decode cX4_image 15 = .ok (.aload_n 0, 1) := by decide +kernel
theorem dX4_image_16 : decode cX4_image 16 = .ok (.getfield 19, 3) := by decide +kernel
theorem dX4_image_19 : decode cX4_image 19 = .ok (.invokevirtual 186, 3) := by decide +kernel
theorem dX4_image_22 : decode cX4_image 22 = .ok (.aload_n 0, 1) := by decide +kernel
theorem dX4_image_23 : decode cX4_image 23 = .ok (.iconst 1, 1) := by decide +kernel
theorem dX4_image_24 : decode cX4_image 24 = .ok (.putfield 190, 3) := by decide +kernel
theorem dX4_image_27 : decode cX4_image 27 = .ok (.iconst 1, 1) := by decide +kernel
theorem dX4_image_28 : decode cX4_image 28 = .ok (.ireturn, 1) := by decide +kernel
theorem dX4_restore_0 : decode cX4_restore 0 = .ok (.aload_n 0, 1) := by decide +kernel
theorem dX4_restore_1 : decode cX4_restore 1 = .ok (.getfield 190, 3) := by decide +kernel
theorem dX4_restore_4 : decode cX4_restore 4 = .ok (.ifCond .ne 6, 3) := by decide +kernel
theorem dX4_restore_7 : decode cX4_restore 7 = .ok (.bipush (-4), 2) := by decide +kernel
theorem dX4_restore_9 : decode cX4_restore 9 = .ok (.ireturn, 1) := by decide +kernel
theorem dX4_restore_10 : decode cX4_restore 10 = .ok (.aload_n 0, 1) := by decide +kernel
theorem dX4_restore_11 : decode cX4_restore 11 = .ok (.getfield 10, 3) := by decide +kernel
theorem dX4_restore_14 : decode cX4_restore 14 = .ok (.aload_n 0, 1) := by decide +kernel
theorem dX4_restore_15 : decode cX4_restore 15 = .ok (.getfield 26, 3) := by decide +kernel
theorem dX4_restore_18 : decode cX4_restore 18 = .ok (.invokevirtual 111, 3) := by decide +kernel
theorem dX4_restore_21 : decode cX4_restore 21 = .ok (.aload_n 0, 1) := by decide +kernel
theorem dX4_restore_22 : decode cX4_restore 22 = .ok (.getfield 19, 3) := by decide +kernel
theorem dX4_restore_25 : decode cX4_restore 25 = .ok (.aload_n 0, 1) := by decide +kernel
theorem dX4_restore_26 : decode cX4_restore 26 = .ok (.getfield 29, 3) := by decide +kernel
theorem dX4_restore_29 : decode cX4_restore 29 = .ok (.invokevirtual 186, 3) := by decide +kernel
theorem dX4_restore_32 : decode cX4_restore 32 = .ok (.iconst 1, 1) := by decide +kernel
theorem dX4_restore_33 : decode cX4_restore 33 = .ok (.ireturn, 1) := by decide +kernel
theorem dX4_seen_0 : decode cX4_seen 0 = .ok (.iload_n 1, 1) := by decide +kernel
theorem dX4_seen_1 : decode cX4_seen 1 = .ok (.invokestatic 194, 3) := by decide +kernel
theorem dX4_seen_4 : decode cX4_seen 4 = .ok (.ifCond .ne 33, 3) := by decide +kernel
theorem dX4_seen_7 : decode cX4_seen 7 = .ok (.iload_n 2, 1) := by decide +kernel
theorem dX4_seen_8 : decode cX4_seen 8 = .ok (.iconst 0, 1) := by decide +kernel
theorem dX4_seen_9 : decode cX4_seen 9 = .ok (.iconst 3, 1) := by decide +kernel
theorem dX4_seen_10 : decode cX4_seen 10 = .ok (.invokestatic 46, 3) := by decide +kernel
theorem dX4_seen_13 : decode cX4_seen 13 = .ok (.ifCond .ne 24, 3) := by decide +kernel
theorem dX4_seen_16 : decode cX4_seen 16 = .ok (.iload 4, 2) := by decide +kernel
theorem dX4_seen_18 : decode cX4_seen 18 = .ok (.iconst 1, 1) := by decide +kernel
theorem dX4_seen_19 : decode cX4_seen 19 = .ok (.bipush 8, 2) := by decide +kernel
theorem dX4_seen_21 : decode cX4_seen 21 = .ok (.invokestatic 46, 3) := by decide +kernel
theorem dX4_seen_24 : decode cX4_seen 24 = .ok (.ifCond .ne 13, 3) := by decide +kernel
theorem dX4_seen_27 : decode cX4_seen 27 = .ok (.iload 5, 2) := by decide +kernel
theorem dX4_seen_29 : decode cX4_seen 29 = .ok (.iconst 0, 1) := by decide +kernel
theorem dX4_seen_30 : decode cX4_seen 30 = .ok (.iconst 1, 1) := by decide +kernel
theorem dX4_seen_31 : decode cX4_seen 31 = .ok (.invokestatic 46, 3) := by decide +kernel
theorem dX4_seen_34 : decode cX4_seen 34 = .ok (.ifCond .eq 5, 3) := by decide +kernel
theorem dX4_seen_37 : decode cX4_seen 37 = .ok (.iconst (-1), 1) := by decide +kernel
theorem dX4_seen_38 : decode cX4_seen 38 = .ok (.ireturn, 1) := by decide +kernel
theorem dX4_seen_39 : decode cX4_seen 39 = .ok (.aload_n 0, 1) := by decide +kernel
theorem dX4_seen_40 : decode cX4_seen 40 = .ok (.getfield 41, 3) := by decide +kernel
theorem dX4_seen_43 : decode cX4_seen 43 = .ok (.iload_n 1, 1) := by decide +kernel
theorem dX4_seen_44 : decode cX4_seen 44 = .ok (.aaload, 1) := by decide +kernel
theorem dX4_seen_45 : decode cX4_seen 45 = .ok (.astore 6, 2) := by decide +kernel
theorem dX4_seen_47 : decode cX4_seen 47 = .ok (.aload 6, 2) := by decide +kernel
theorem dX4_seen_49 : decode cX4_seen 49 = .ok (.iload_n 2, 1) := by decide +kernel
theorem dX4_seen_50 : decode cX4_seen 50 = .ok (.iload_n 3, 1) := by decide +kernel
theorem dX4_seen_51 : decode cX4_seen 51 = .ok (.iload 4, 2) := by decide +kernel
theorem dX4_seen_53 : decode cX4_seen 53 = .ok (.invokevirtual 197, 3) := by decide +kernel
theorem dX4_seen_56 : decode cX4_seen 56 = .ok (.istore 7, 2) := by decide +kernel
theorem dX4_seen_58 : decode cX4_seen 58 = .ok (.iload 7, 2) := by decide +kernel
theorem dX4_seen_60 : decode cX4_seen 60 = .ok (.ifCond .ge 6, 3) := by decide +kernel
theorem dX4_seen_63 : decode cX4_seen 63 = .ok (.iload 7, 2) := by decide +kernel
theorem dX4_seen_65 : decode cX4_seen 65 = .ok (.ireturn, 1) := by decide +kernel
theorem dX4_seen_66 : decode cX4_seen 66 = .ok (.iconst 0, 1) := by decide +kernel
theorem dX4_seen_67 : decode cX4_seen 67 = .ok (.istore 8, 2) := by decide +kernel
theorem dX4_seen_69 : decode cX4_seen 69 = .ok (.bipush (-4), 2) := by decide +kernel
theorem dX4_seen_71 : decode cX4_seen 71 = .ok (.istore 9, 2) := by decide +kernel
theorem dX4_seen_73 : decode cX4_seen 73 = .ok (.iconst 0, 1) := by decide +kernel
theorem dX4_seen_74 : decode cX4_seen 74 = .ok (.istore 10, 2) := by decide +kernel
theorem dX4_seen_76 : decode cX4_seen 76 = .ok (.iload 10, 2) := by decide +kernel
theorem dX4_seen_78 : decode cX4_seen 78 = .ok (.aload_n 0, 1) := by decide +kernel
theorem dX4_seen_79 : decode cX4_seen 79 = .ok (.getfield 10, 3) := by decide +kernel
theorem dX4_seen_82 : decode cX4_seen 82 = .ok (.invokevirtual 57, 3) := by decide +kernel
theorem dX4_seen_85 : decode cX4_seen 85 = .ok (.if_icmp .ge 61, 3) := by decide +kernel
theorem dX4_seen_88 : decode cX4_seen 88 = .ok (.aload_n 0, 1) := by decide +kernel
theorem dX4_seen_89 : decode cX4_seen 89 = .ok (.getfield 23, 3) := by decide +kernel
theorem dX4_seen_92 : decode cX4_seen 92 = .ok (.aload_n 0, 1) := by decide +kernel
theorem dX4_seen_93 : decode cX4_seen 93 = .ok (.getfield 10, 3) := by decide +kernel
theorem dX4_seen_96 : decode cX4_seen 96 = .ok (.invokevirtual 111, 3) := by decide +kernel
theorem dX4_seen_99 : decode cX4_seen 99 = .ok (.aload_n 0, 1) := by decide +kernel
theorem dX4_seen_100 : decode cX4_seen 100 = .ok (.getfield 23, 3) := by decide +kernel
theorem dX4_seen_103 : decode cX4_seen 103 = .ok (.iload 10, 2) := by decide +kernel
theorem dX4_seen_105 : decode cX4_seen 105 = .ok (.putfield 128, 3) := by decide +kernel
theorem dX4_seen_108 : decode cX4_seen 108 = .ok (.aload 6, 2) := by decide +kernel
theorem dX4_seen_110 : decode cX4_seen 110 = .ok (.aload_n 0, 1) := by decide +kernel
theorem dX4_seen_111 : decode cX4_seen 111 = .ok (.getfield 23, 3) := by decide +kernel
theorem dX4_seen_114 : decode cX4_seen 114 = .ok (.iload_n 3, 1) := by decide +kernel
theorem dX4_seen_115 : decode cX4_seen 115 = .ok (.iload 4, 2) := by decide +kernel
theorem dX4_seen_117 : decode cX4_seen 117 = .ok (.invokevirtual 201, 3) := by decide +kernel
theorem dX4_seen_120 : decode cX4_seen 120 = .ok (.ifCond .eq 20, 3) := by decide +kernel
theorem dX4_seen_123 : decode cX4_seen 123 = .ok (.iload 8, 2) := by decide +kernel
theorem dX4_seen_125 : decode cX4_seen 125 = .ok (.ifCond .ne 8, 3) := by decide +kernel
theorem dX4_seen_128 : decode cX4_seen 128 = .ok (.iload 10, 2) := by decide +kernel
theorem dX4_seen_130 : decode cX4_seen 130 = .ok (.goto 5, 3) := by decide +kernel
theorem dX4_seen_133 : decode cX4_seen 133 = .ok (.iload 9, 2) := by decide +kernel
theorem dX4_seen_135 : decode cX4_seen 135 = .ok (.istore 9, 2) := by decide +kernel
theorem dX4_seen_137 : decode cX4_seen 137 = .ok (.iinc 8 1, 3) := by decide +kernel
theorem dX4_seen_140 : decode cX4_seen 140 = .ok (.iinc 10 1, 3) := by decide +kernel
theorem dX4_seen_143 : decode cX4_seen 143 = .ok (.goto (-67), 3) := by decide +kernel
theorem dX4_seen_146 : decode cX4_seen 146 = .ok (.iload 5, 2) := by decide +kernel
theorem dX4_seen_148 : decode cX4_seen 148 = .ok (.ifCond .ne 8, 3) := by decide +kernel
theorem dX4_seen_151 : decode cX4_seen 151 = .ok (.iload 8, 2) := by decide +kernel
theorem dX4_seen_153 : decode cX4_seen 153 = .ok (.goto 5, 3) := by decide +kernel
theorem dX4_seen_156 : decode cX4_seen 156 = .ok (.iload 9, 2) := by decide +kernel
theorem dX4_seen_158 : decode cX4_seen 158 = .ok (.ireturn, 1) := by decide +kernel
theorem dX4_film_0 : decode cX4_film 0 = .ok (.iload_n 1, 1) := by decide +kernel
theorem dX4_film_1 : decode cX4_film 1 = .ok (.iconst 1, 1) := by decide +kernel
theorem dX4_film_2 : decode cX4_film 2 = .ok (.bipush 24, 2) := by decide +kernel
theorem dX4_film_4 : decode cX4_film 4 = .ok (.invokestatic 46, 3) := by decide +kernel
theorem dX4_film_7 : decode cX4_film 7 = .ok (.ifCond .ne 19, 3) := by decide +kernel
theorem dX4_film_10 : decode cX4_film 10 = .ok (.iload_n 2, 1) := by decide +kernel
theorem dX4_film_11 : decode cX4_film 11 = .ok (.invokestatic 194, 3) := by decide +kernel
theorem dX4_film_14 : decode cX4_film 14 = .ok (.ifCond .ne 12, 3) := by decide +kernel
theorem dX4_film_17 : decode cX4_film 17 = .ok (.iload_n 3, 1) := by decide +kernel
theorem dX4_film_18 : decode cX4_film 18 = .ok (.iconst 0, 1) := by decide +kernel
theorem dX4_film_19 : decode cX4_film 19 = .ok (.iconst 3, 1) := by decide +kernel
theorem dX4_film_20 : decode cX4_film 20 = .ok (.invokestatic 46, 3) := by decide +kernel
theorem dX4_film_23 : decode cX4_film 23 = .ok (.ifCond .eq 5, 3) := by decide +kernel
theorem dX4_film_26 : decode cX4_film 26 = .ok (.iconst (-1), 1) := by decide +kernel
theorem dX4_film_27 : decode cX4_film 27 = .ok (.ireturn, 1) := by decide +kernel
theorem dX4_film_28 : decode cX4_film 28 = .ok (.aload_n 0, 1) := by decide +kernel
theorem dX4_film_29 : decode cX4_film 29 = .ok (.getfield 41, 3) := by decide +kernel
theorem dX4_film_32 : decode cX4_film 32 = .ok (.iload_n 2, 1) := by decide +kernel
theorem dX4_film_33 : decode cX4_film 33 = .ok (.aaload, 1) := by decide +kernel
theorem dX4_film_34 : decode cX4_film 34 = .ok (.astore 5, 2) := by decide +kernel
theorem dX4_film_36 : decode cX4_film 36 = .ok (.aload 5, 2) := by decide +kernel
theorem dX4_film_38 : decode cX4_film 38 = .ok (.iload_n 3, 1) := by decide +kernel
theorem dX4_film_39 : decode cX4_film 39 = .ok (.iload 4, 2) := by decide +kernel
theorem dX4_film_41 : decode cX4_film 41 = .ok (.iload_n 1, 1) := by decide +kernel
theorem dX4_film_42 : decode cX4_film 42 = .ok (.invokevirtual 197, 3) := by decide +kernel
theorem dX4_film_45 : decode cX4_film 45 = .ok (.istore 6, 2) := by decide +kernel
theorem dX4_film_47 : decode cX4_film 47 = .ok (.iload 6, 2) := by decide +kernel
theorem dX4_film_49 : decode cX4_film 49 = .ok (.ifCond .ge 6, 3) := by decide +kernel
theorem dX4_film_52 : decode cX4_film 52 = .ok (.iload 6, 2) := by decide +kernel
theorem dX4_film_54 : decode cX4_film 54 = .ok (.ireturn, 1) := by decide +kernel
theorem dX4_film_55 : decode cX4_film 55 = .ok (.aload_n 0, 1) := by decide +kernel
theorem dX4_film_56 : decode cX4_film 56 = .ok (.getfield 23, 3) := by decide +kernel
theorem dX4_film_59 : decode cX4_film 59 = .ok (.aload_n 0, 1) := by decide +kernel
theorem dX4_film_60 : decode cX4_film 60 = .ok (.getfield 10, 3) := by decide +kernel
theorem dX4_film_63 : decode cX4_film 63 = .ok (.invokevirtual 111, 3) := by decide +kernel
theorem dX4_film_66 : decode cX4_film 66 = .ok (.iconst 0, 1) := by decide +kernel
theorem dX4_film_67 : decode cX4_film 67 = .ok (.istore 7, 2) := by decide +kernel
theorem dX4_film_69 : decode cX4_film 69 = .ok (.iload 7, 2) := by decide +kernel
theorem dX4_film_71 : decode cX4_film 71 = .ok (.iload_n 1, 1) := by decide +kernel
theorem dX4_film_72 : decode cX4_film 72 = .ok (.if_icmp .ge 35, 3) := by decide +kernel
theorem dX4_film_75 : decode cX4_film 75 = .ok (.aload_n 0, 1) := by decide +kernel
theorem dX4_film_76 : decode cX4_film 76 = .ok (.getfield 23, 3) := by decide +kernel
theorem dX4_film_79 : decode cX4_film 79 = .ok (.invokevirtual 152, 3) := by decide +kernel
theorem dX4_film_82 : decode cX4_film 82 = .ok (.pop, 1) := by decide +kernel
theorem dX4_film_83 : decode cX4_film 83 = .ok (.aload 5, 2) := by decide +kernel
theorem dX4_film_85 : decode cX4_film 85 = .ok (.iload 4, 2) := by decide +kernel
theorem dX4_film_87 : decode cX4_film 87 = .ok (.iload 7, 2) := by decide +kernel
theorem dX4_film_89 : decode cX4_film 89 = .ok (.iadd, 1) := by decide +kernel
theorem dX4_film_90 : decode cX4_film 90 = .ok (.aload_n 0, 1) := by decide +kernel
theorem dX4_film_91 : decode cX4_film 91 = .ok (.getfield 23, 3) := by decide +kernel
theorem dX4_film_94 : decode cX4_film 94 = .ok (.getfield 128, 3) := by decide +kernel
theorem dX4_film_97 : decode cX4_film 97 = .ok (.i2l, 1) := by decide +kernel
theorem dX4_film_98 : decode cX4_film 98 = .ok (.invokevirtual 205, 3) := by decide +kernel
theorem dX4_film_101 : decode cX4_film 101 = .ok (.iinc 7 1, 3) := by decide +kernel
theorem dX4_film_104 : decode cX4_film 104 = .ok (.goto (-35), 3) := by decide +kernel
theorem dX4_film_107 : decode cX4_film 107 = .ok (.iload_n 1, 1) := by decide +kernel
theorem dX4_film_108 : decode cX4_film 108 = .ok (.ireturn, 1) := by decide +kernel
theorem dX4_sheet_0 : decode cX4_sheet 0 = .ok (.iload_n 1, 1) := by decide +kernel
theorem dX4_sheet_1 : decode cX4_sheet 1 = .ok (.invokestatic 194, 3) := by decide +kernel
theorem dX4_sheet_4 : decode cX4_sheet 4 = .ok (.ifCond .ne 18, 3) := by decide +kernel
theorem dX4_sheet_7 : decode cX4_sheet 7 = .ok (.iload_n 2, 1) := by decide +kernel
theorem dX4_sheet_8 : decode cX4_sheet 8 = .ok (.iconst 0, 1) := by decide +kernel
theorem dX4_sheet_9 : decode cX4_sheet 9 = .ok (.iconst 3, 1) := by decide +kernel
theorem dX4_sheet_10 : decode cX4_sheet 10 = .ok (.invokestatic 46, 3) := by decide +kernel
theorem dX4_sheet_13 : decode cX4_sheet 13 = .ok (.ifCond .ne 9, 3) := by decide +kernel
theorem dX4_sheet_16 : decode cX4_sheet 16 = .ok (.iload_n 3, 1) := by decide +kernel
theorem dX4_sheet_17 : decode cX4_sheet 17 = .ok (.bipush 24, 2) := by decide +kernel
theorem dX4_sheet_19 : decode cX4_sheet 19 = .ok (.if_icmp .le 5, 3) := by decide +kernel
theorem dX4_sheet_22 : decode cX4_sheet 22 = .ok (.iconst (-1), 1) := by decide +kernel
theorem dX4_sheet_23 : decode cX4_sheet 23 = .ok (.ireturn, 1) := by decide +kernel
theorem dX4_sheet_24 : decode cX4_sheet 24 = .ok (.iload_n 3, 1) := by decide +kernel
theorem dX4_sheet_25 : decode cX4_sheet 25 = .ok (.ifCond .ge 6, 3) := by decide +kernel
theorem dX4_sheet_28 : decode cX4_sheet 28 = .ok (.bipush (-14), 2) := by decide +kernel
theorem dX4_sheet_30 : decode cX4_sheet 30 = .ok (.ireturn, 1) := by decide +kernel
theorem dX4_sheet_31 : decode cX4_sheet 31 = .ok (.aload_n 0, 1) := by decide +kernel
theorem dX4_sheet_32 : decode cX4_sheet 32 = .ok (.getfield 41, 3) := by decide +kernel
theorem dX4_sheet_35 : decode cX4_sheet 35 = .ok (.iload_n 1, 1) := by decide +kernel
theorem dX4_sheet_36 : decode cX4_sheet 36 = .ok (.aaload, 1) := by decide +kernel
theorem dX4_sheet_37 : decode cX4_sheet 37 = .ok (.iload_n 2, 1) := by decide +kernel
theorem dX4_sheet_38 : decode cX4_sheet 38 = .ok (.iload_n 3, 1) := by decide +kernel
theorem dX4_sheet_39 : decode cX4_sheet 39 = .ok (.invokevirtual 209, 3) := by decide +kernel
theorem dX4_sheet_42 : decode cX4_sheet 42 = .ok (.iload_n 3, 1) := by decide +kernel
theorem dX4_sheet_43 : decode cX4_sheet 43 = .ok (.ireturn, 1) := by decide +kernel
theorem dX4_drop_0 : decode cX4_drop 0 = .ok (.iload_n 1, 1) := by decide +kernel
theorem dX4_drop_1 : decode cX4_drop 1 = .ok (.invokestatic 194, 3) := by decide +kernel
theorem dX4_drop_4 : decode cX4_drop 4 = .ok (.ifCond .eq 5, 3) := by decide +kernel
theorem dX4_drop_7 : decode cX4_drop 7 = .ok (.iconst (-1), 1) := by decide +kernel
theorem dX4_drop_8 : decode cX4_drop 8 = .ok (.ireturn, 1) := by decide +kernel
theorem dX4_drop_9 : decode cX4_drop 9 = .ok (.aload_n 0, 1) := by decide +kernel
theorem dX4_drop_10 : decode cX4_drop 10 = .ok (.getfield 41, 3) := by decide +kernel
theorem dX4_drop_13 : decode cX4_drop 13 = .ok (.iload_n 1, 1) := by decide +kernel
theorem dX4_drop_14 : decode cX4_drop 14 = .ok (.aaload, 1) := by decide +kernel
theorem dX4_drop_15 : decode cX4_drop 15 = .ok (.astore_n 2, 1) := by decide +kernel
theorem dX4_drop_16 : decode cX4_drop 16 = .ok (.aload_n 2, 1) := by decide +kernel
theorem dX4_drop_17 : decode cX4_drop 17 = .ok (.invokevirtual 212, 3) := by decide +kernel
theorem dX4_drop_20 : decode cX4_drop 20 = .ok (.ifCond .eq 6, 3) := by decide +kernel
theorem dX4_drop_23 : decode cX4_drop 23 = .ok (.bipush (-11), 2) := by decide +kernel
theorem dX4_drop_25 : decode cX4_drop 25 = .ok (.ireturn, 1) := by decide +kernel
theorem dX4_drop_26 : decode cX4_drop 26 = .ok (.aload_n 2, 1) := by decide +kernel
theorem dX4_drop_27 : decode cX4_drop 27 = .ok (.getfield 216, 3) := by decide +kernel
theorem dX4_drop_30 : decode cX4_drop 30 = .ok (.istore_n 3, 1) := by decide +kernel
theorem dX4_drop_31 : decode cX4_drop 31 = .ok (.aload_n 2, 1) := by decide +kernel
theorem dX4_drop_32 : decode cX4_drop 32 = .ok (.invokevirtual 217, 3) := by decide +kernel
theorem dX4_drop_35 : decode cX4_drop 35 = .ok (.iload_n 3, 1) := by decide +kernel
theorem dX4_drop_36 : decode cX4_drop 36 = .ok (.ireturn, 1) := by decide +kernel
theorem dX4_item_0 : decode cX4_item 0 = .ok (.iload_n 1, 1) := by decide +kernel
theorem dX4_item_1 : decode cX4_item 1 = .ok (.invokestatic 194, 3) := by decide +kernel
theorem dX4_item_4 : decode cX4_item 4 = .ok (.ifCond .ne 12, 3) := by decide +kernel
theorem dX4_item_7 : decode cX4_item 7 = .ok (.iload_n 2, 1) := by decide +kernel
theorem dX4_item_8 : decode cX4_item 8 = .ok (.iconst 0, 1) := by decide +kernel
theorem dX4_item_9 : decode cX4_item 9 = .ok (.iconst 3, 1) := by decide +kernel
theorem dX4_item_10 : decode cX4_item 10 = .ok (.invokestatic 46, 3) := by decide +kernel
theorem dX4_item_13 : decode cX4_item 13 = .ok (.ifCond .eq 5, 3) := by decide +kernel
theorem dX4_item_16 : decode cX4_item 16 = .ok (.iconst (-1), 1) := by decide +kernel
theorem dX4_item_17 : decode cX4_item 17 = .ok (.ireturn, 1) := by decide +kernel
theorem dX4_item_18 : decode cX4_item 18 = .ok (.aload_n 0, 1) := by decide +kernel
theorem dX4_item_19 : decode cX4_item 19 = .ok (.getfield 41, 3) := by decide +kernel
theorem dX4_item_22 : decode cX4_item 22 = .ok (.iload_n 1, 1) := by decide +kernel
theorem dX4_item_23 : decode cX4_item 23 = .ok (.aaload, 1) := by decide +kernel
theorem dX4_item_24 : decode cX4_item 24 = .ok (.iload_n 2, 1) := by decide +kernel
theorem dX4_item_25 : decode cX4_item 25 = .ok (.iload_n 3, 1) := by decide +kernel
theorem dX4_item_26 : decode cX4_item 26 = .ok (.iconst 1, 1) := by decide +kernel
theorem dX4_item_27 : decode cX4_item 27 = .ok (.invokevirtual 197, 3) := by decide +kernel
theorem dX4_item_30 : decode cX4_item 30 = .ok (.istore 6, 2) := by decide +kernel
theorem dX4_item_32 : decode cX4_item 32 = .ok (.iload 6, 2) := by decide +kernel
theorem dX4_item_34 : decode cX4_item 34 = .ok (.ifCond .ge 6, 3) := by decide +kernel
theorem dX4_item_37 : decode cX4_item 37 = .ok (.iload 6, 2) := by decide +kernel
theorem dX4_item_39 : decode cX4_item 39 = .ok (.ireturn, 1) := by decide +kernel
theorem dX4_item_40 : decode cX4_item 40 = .ok (.aload_n 0, 1) := by decide +kernel
theorem dX4_item_41 : decode cX4_item 41 = .ok (.getfield 41, 3) := by decide +kernel
theorem dX4_item_44 : decode cX4_item 44 = .ok (.iload_n 1, 1) := by decide +kernel
theorem dX4_item_45 : decode cX4_item 45 = .ok (.aaload, 1) := by decide +kernel
theorem dX4_item_46 : decode cX4_item 46 = .ok (.iload_n 3, 1) := by decide +kernel
theorem dX4_item_47 : decode cX4_item 47 = .ok (.lload 4, 2) := by decide +kernel
theorem dX4_item_49 : decode cX4_item 49 = .ok (.invokevirtual 205, 3) := by decide +kernel
theorem dX4_item_52 : decode cX4_item 52 = .ok (.iconst 1, 1) := by decide +kernel
theorem dX4_item_53 : decode cX4_item 53 = .ok (.ireturn, 1) := by decide +kernel
theorem dX4_copy_0 : decode cX4_copy 0 = .ok (.iload_n 1, 1) := by decide +kernel
theorem dX4_copy_1 : decode cX4_copy 1 = .ok (.invokestatic 194, 3) := by decide +kernel
theorem dX4_copy_4 : decode cX4_copy 4 = .ok (.ifCond .ne 10, 3) := by decide +kernel
theorem dX4_copy_7 : decode cX4_copy 7 = .ok (.iload_n 3, 1) := by decide +kernel
theorem dX4_copy_8 : decode cX4_copy 8 = .ok (.invokestatic 194, 3) := by decide +kernel
theorem dX4_copy_11 : decode cX4_copy 11 = .ok (.ifCond .eq 5, 3) := by decide +kernel
theorem dX4_copy_14 : decode cX4_copy 14 = .ok (.iconst (-1), 1) := by decide +kernel
theorem dX4_copy_15 : decode cX4_copy 15 = .ok (.ireturn, 1) := by decide +kernel
theorem dX4_copy_16 : decode cX4_copy 16 = .ok (.aload_n 0, 1) := by decide +kernel
theorem dX4_copy_17 : decode cX4_copy 17 = .ok (.getfield 41, 3) := by decide +kernel
theorem dX4_copy_20 : decode cX4_copy 20 = .ok (.iload_n 1, 1) := by decide +kernel
theorem dX4_copy_21 : decode cX4_copy 21 = .ok (.aaload, 1) := by decide +kernel
theorem dX4_copy_22 : decode cX4_copy 22 = .ok (.astore 6, 2) := by decide +kernel
theorem dX4_copy_24 : decode cX4_copy 24 = .ok (.aload_n 0, 1) := by decide +kernel
theorem dX4_copy_25 : decode cX4_copy 25 = .ok (.getfield 41, 3) := by decide +kernel
theorem dX4_copy_28 : decode cX4_copy 28 = .ok (.iload_n 3, 1) := by decide +kernel
theorem dX4_copy_29 : decode cX4_copy 29 = .ok (.aaload, 1) := by decide +kernel
theorem dX4_copy_30 : decode cX4_copy 30 = .ok (.astore 7, 2) := by decide +kernel
theorem dX4_copy_32 : decode cX4_copy 32 = .ok (.aload 6, 2) := by decide +kernel
theorem dX4_copy_34 : decode cX4_copy 34 = .ok (.invokevirtual 212, 3) := by decide +kernel
theorem dX4_copy_37 : decode cX4_copy 37 = .ok (.ifCond .ne 11, 3) := by decide +kernel
theorem dX4_copy_40 : decode cX4_copy 40 = .ok (.aload 7, 2) := by decide +kernel
theorem dX4_copy_42 : decode cX4_copy 42 = .ok (.invokevirtual 212, 3) := by decide +kernel
theorem dX4_copy_45 : decode cX4_copy 45 = .ok (.ifCond .eq 6, 3) := by decide +kernel
theorem dX4_copy_48 : decode cX4_copy 48 = .ok (.bipush (-11), 2) := by decide +kernel
theorem dX4_copy_50 : decode cX4_copy 50 = .ok (.ireturn, 1) := by decide +kernel
theorem dX4_copy_51 : decode cX4_copy 51 = .ok (.aload 6, 2) := by decide +kernel
theorem dX4_copy_53 : decode cX4_copy 53 = .ok (.getfield 220, 3) := by decide +kernel
theorem dX4_copy_56 : decode cX4_copy 56 = .ok (.aload 7, 2) := by decide +kernel
theorem dX4_copy_58 : decode cX4_copy 58 = .ok (.getfield 220, 3) := by decide +kernel
theorem dX4_copy_61 : decode cX4_copy 61 = .ok (.if_icmp .eq 6, 3) := by decide +kernel
theorem dX4_copy_64 : decode cX4_copy 64 = .ok (.bipush (-12), 2) := by decide +kernel
theorem dX4_copy_66 : decode cX4_copy 66 = .ok (.ireturn, 1) := by decide +kernel
theorem dX4_copy_67 : decode cX4_copy 67 = .ok (.aload 6, 2) := by decide +kernel
theorem dX4_copy_69 : decode cX4_copy 69 = .ok (.iload_n 2, 1) := by decide +kernel
theorem dX4_copy_70 : decode cX4_copy 70 = .ok (.iload 5, 2) := by decide +kernel
theorem dX4_copy_72 : decode cX4_copy 72 = .ok (.invokevirtual 223, 3) := by decide +kernel
theorem dX4_copy_75 : decode cX4_copy 75 = .ok (.ifCond .eq 15, 3) := by decide +kernel
theorem dX4_copy_78 : decode cX4_copy 78 = .ok (.aload 7, 2) := by decide +kernel
theorem dX4_copy_80 : decode cX4_copy 80 = .ok (.iload 4, 2) := by decide +kernel
theorem dX4_copy_82 : decode cX4_copy 82 = .ok (.iload 5, 2) := by decide +kernel
theorem dX4_copy_84 : decode cX4_copy 84 = .ok (.invokevirtual 223, 3) := by decide +kernel
theorem dX4_copy_87 : decode cX4_copy 87 = .ok (.ifCond .ne 6, 3) := by decide +kernel
theorem dX4_copy_90 : decode cX4_copy 90 = .ok (.bipush (-13), 2) := by decide +kernel
theorem dX4_copy_92 : decode cX4_copy 92 = .ok (.ireturn, 1) := by decide +kernel
theorem dX4_copy_93 : decode cX4_copy 93 = .ok (.aload 6, 2) := by decide +kernel
theorem dX4_copy_95 : decode cX4_copy 95 = .ok (.getfield 226, 3) := by decide +kernel
theorem dX4_copy_98 : decode cX4_copy 98 = .ok (.iload_n 2, 1) := by decide +kernel
theorem dX4_copy_99 : decode cX4_copy 99 = .ok (.aload 7, 2) := by decide +kernel
theorem dX4_copy_101 : decode cX4_copy 101 = .ok (.getfield 226, 3) := by decide +kernel
theorem dX4_copy_104 : decode cX4_copy 104 = .ok (.iload 4, 2) := by decide +kernel
theorem dX4_copy_106 : decode cX4_copy 106 = .ok (.iload 5, 2) := by decide +kernel
theorem dX4_copy_108 : decode cX4_copy 108 = .ok (.invokestatic 230, 3) := by decide +kernel
theorem dX4_copy_111 : decode cX4_copy 111 = .ok (.iload 5, 2) := by decide +kernel
theorem dX4_copy_113 : decode cX4_copy 113 = .ok (.ireturn, 1) := by decide +kernel
theorem dX4_isNobody_0 : decode cX4_isNobody 0 = .ok (.iload_n 1, 1) := by decide +kernel
theorem dX4_isNobody_1 : decode cX4_isNobody 1 = .ok (.ifCond .lt 14, 3) := by decide +kernel
theorem dX4_isNobody_4 : decode cX4_isNobody 4 = .ok (.iload_n 1, 1) := by decide +kernel
theorem dX4_isNobody_5 : decode cX4_isNobody 5 = .ok (.aload_n 0, 1) := by decide +kernel
theorem dX4_isNobody_6 : decode cX4_isNobody 6 = .ok (.getfield 10, 3) := by decide +kernel
theorem dX4_isNobody_9 : decode cX4_isNobody 9 = .ok (.getfield 61, 3) := by decide +kernel
theorem dX4_isNobody_12 : decode cX4_isNobody 12 = .ok (.if_icmp .lt 7, 3) := by decide +kernel
theorem dX4_isNobody_15 : decode cX4_isNobody 15 = .ok (.iconst 1, 1) := by decide +kernel
theorem dX4_isNobody_16 : decode cX4_isNobody 16 = .ok (.goto 4, 3) := by decide +kernel
theorem dX4_isNobody_19 : decode cX4_isNobody 19 = .ok (.iconst 0, 1) := by decide +kernel
theorem dX4_isNobody_20 : decode cX4_isNobody 20 = .ok (.ireturn, 1) := by decide +kernel
theorem dX4_isNoSheet_0 : decode cX4_isNoSheet 0 = .ok (.iload_n 0, 1) := by decide +kernel
theorem dX4_isNoSheet_1 : decode cX4_isNoSheet 1 = .ok (.iconst 0, 1) := by decide +kernel
theorem dX4_isNoSheet_2 : decode cX4_isNoSheet 2 = .ok (.iconst 3, 1) := by decide +kernel
theorem dX4_isNoSheet_3 : decode cX4_isNoSheet 3 = .ok (.invokestatic 46, 3) := by decide +kernel
theorem dX4_isNoSheet_6 : decode cX4_isNoSheet 6 = .ok (.ireturn, 1) := by decide +kernel
theorem dX4_outside_0 : decode cX4_outside 0 = .ok (.iload_n 0, 1) := by decide +kernel
theorem dX4_outside_1 : decode cX4_outside 1 = .ok (.iload_n 1, 1) := by decide +kernel
theorem dX4_outside_2 : decode cX4_outside 2 = .ok (.if_icmp .lt 8, 3) := by decide +kernel
theorem dX4_outside_5 : decode cX4_outside 5 = .ok (.iload_n 0, 1) := by decide +kernel
theorem dX4_outside_6 : decode cX4_outside 6 = .ok (.iload_n 2, 1) := by decide +kernel
theorem dX4_outside_7 : decode cX4_outside 7 = .ok (.if_icmp .le 7, 3) := by decide +kernel
theorem dX4_outside_10 : decode cX4_outside 10 = .ok (.iconst 1, 1) := by decide +kernel
theorem dX4_outside_11 : decode cX4_outside 11 = .ok (.goto 4, 3) := by decide +kernel
theorem dX4_outside_14 : decode cX4_outside 14 = .ok (.iconst 0, 1) := by decide +kernel
theorem dX4_outside_15 : decode cX4_outside 15 = .ok (.ireturn, 1) := by decide +kernel
theorem dX4_commonDivisor_0 : decode cX4_commonDivisor 0 = .ok (.iload_n 0, 1) := by decide +kernel
theorem dX4_commonDivisor_1 : decode cX4_commonDivisor 1 = .ok (.istore_n 2, 1) := by decide +kernel
theorem dX4_commonDivisor_2 : decode cX4_commonDivisor 2 = .ok (.iload_n 1, 1) := by decide +kernel
theorem dX4_commonDivisor_3 : decode cX4_commonDivisor 3 = .ok (.istore_n 3, 1) := by decide +kernel
theorem dX4_commonDivisor_4 : decode cX4_commonDivisor 4 = .ok (.iconst 0, 1) := by decide +kernel
theorem dX4_commonDivisor_5 : decode cX4_commonDivisor 5 = .ok (.istore 4, 2) := by decide +kernel
theorem dX4_commonDivisor_7 : decode cX4_commonDivisor 7 = .ok (.iload 4, 2) := by decide +kernel
theorem dX4_commonDivisor_9 : decode cX4_commonDivisor 9 = .ok (.bipush 64, 2) := by decide +kernel
theorem dX4_commonDivisor_11 : decode cX4_commonDivisor 11 = .ok (.if_icmp .ge 23, 3) := by decide +kernel
theorem dX4_commonDivisor_14 : decode cX4_commonDivisor 14 = .ok (.iload_n 3, 1) := by decide +kernel
theorem dX4_commonDivisor_15 : decode cX4_commonDivisor 15 = .ok (.ifCond .eq 19, 3) := by decide +kernel
theorem dX4_commonDivisor_18 : decode cX4_commonDivisor 18 = .ok (.iload_n 2, 1) := by decide +kernel
theorem dX4_commonDivisor_19 : decode cX4_commonDivisor 19 = .ok (.iload_n 3, 1) := by decide +kernel
theorem dX4_commonDivisor_20 : decode cX4_commonDivisor 20 = .ok (.irem, 1) := by decide +kernel
theorem dX4_commonDivisor_21 : decode cX4_commonDivisor 21 = .ok (.istore 5, 2) := by decide +kernel
theorem dX4_commonDivisor_23 : decode cX4_commonDivisor 23 = .ok (.iload_n 3, 1) := by decide +kernel
theorem dX4_commonDivisor_24 : decode cX4_commonDivisor 24 = .ok (.istore_n 2, 1) := by decide +kernel
theorem dX4_commonDivisor_25 : decode cX4_commonDivisor 25 = .ok (.iload 5, 2) := by decide +kernel
theorem dX4_commonDivisor_27 : decode cX4_commonDivisor 27 = .ok (.istore_n 3, 1) := by decide +kernel
theorem dX4_commonDivisor_28 : decode cX4_commonDivisor 28 = .ok (.iinc 4 1, 3) := by decide +kernel
theorem dX4_commonDivisor_31 : decode cX4_commonDivisor 31 = .ok (.goto (-24), 3) := by decide +kernel
theorem dX4_commonDivisor_34 : decode cX4_commonDivisor 34 = .ok (.iload_n 2, 1) := by decide +kernel
theorem dX4_commonDivisor_35 : decode cX4_commonDivisor 35 = .ok (.ireturn, 1) := by decide +kernel
theorem dX5_in_0 : decode cX5_in 0 = .ok (.lload_n 0, 1) := by decide +kernel
theorem dX5_in_1 : decode cX5_in 1 = .ok (.lload_n 2, 1) := by decide +kernel
theorem dX5_in_2 : decode cX5_in 2 = .ok (.lcmp, 1) := by decide +kernel
theorem dX5_in_3 : decode cX5_in 3 = .ok (.ifCond .lt 14, 3) := by decide +kernel
theorem dX5_in_6 : decode cX5_in 6 = .ok (.lload_n 0, 1) := by decide +kernel
theorem dX5_in_7 : decode cX5_in 7 = .ok (.lload 4, 2) := by decide +kernel
theorem dX5_in_9 : decode cX5_in 9 = .ok (.lcmp, 1) := by decide +kernel
theorem dX5_in_10 : decode cX5_in 10 = .ok (.ifCond .gt 7, 3) := by decide +kernel
theorem dX5_in_13 : decode cX5_in 13 = .ok (.iconst 1, 1) := by decide +kernel
theorem dX5_in_14 : decode cX5_in 14 = .ok (.goto 4, 3) := by decide +kernel
theorem dX5_in_17 : decode cX5_in 17 = .ok (.iconst 0, 1) := by decide +kernel
theorem dX5_in_18 : decode cX5_in 18 = .ok (.ireturn, 1) := by decide +kernel
theorem dX5_init_0 : decode cX5_init 0 = .ok (.aload_n 0, 1) := by decide +kernel
theorem dX5_init_1 : decode cX5_init 1 = .ok (.invokespecial 1, 3) := by decide +kernel
theorem dX5_init_4 : decode cX5_init 4 = .ok (.aload_n 0, 1) := by decide +kernel
theorem dX5_init_5 : decode cX5_init 5 = .ok (.bipush 39, 2) := by decide +kernel
theorem dX5_init_7 : decode cX5_init 7 = .ok (.newarray .int, 2) := by decide +kernel
theorem dX5_init_9 : decode cX5_init 9 = .ok (.putfield 7, 3) := by decide +kernel
theorem dX5_init_12 : decode cX5_init 12 = .ok (.aload_n 0, 1) := by decide +kernel
theorem dX5_init_13 : decode cX5_init 13 = .ok (.bipush 90, 2) := by decide +kernel
theorem dX5_init_15 : decode cX5_init 15 = .ok (.newarray .int, 2) := by decide +kernel
theorem dX5_init_17 : decode cX5_init 17 = .ok (.putfield 13, 3) := by decide +kernel
theorem dX5_init_20 : decode cX5_init 20 = .ok (.aload_n 0, 1) := by decide +kernel
theorem dX5_init_21 : decode cX5_init 21 = .ok (.bipush 24, 2) := by decide +kernel
theorem dX5_init_23 : decode cX5_init 23 = .ok (.newarray .int, 2) := by decide +kernel
theorem dX5_init_25 : decode cX5_init 25 = .ok (.putfield 16, 3) := by decide +kernel
theorem dX5_init_28 : decode cX5_init 28 = .ok (.aload_n 0, 1) := by decide +kernel
theorem dX5_init_29 : decode cX5_init 29 = .ok (.bipush 96, 2) := by decide +kernel
theorem dX5_init_31 : decode cX5_init 31 = .ok (.newarray .int, 2) := by decide +kernel
theorem dX5_init_33 : decode cX5_init 33 = .ok (.putfield 19, 3) := by decide +kernel
theorem dX5_init_36 : decode cX5_init 36 = .ok (.aload_n 0, 1) := by decide +kernel
theorem dX5_init_37 : decode cX5_init 37 = .ok (.bipush 39, 2) := by decide +kernel
theorem dX5_init_39 : decode cX5_init 39 = .ok (.newarray .int, 2) := by decide +kernel
theorem dX5_init_41 : decode cX5_init 41 = .ok (.putfield 22, 3) := by decide +kernel
theorem dX5_init_44 : decode cX5_init 44 = .ok (.aload_n 0, 1) := by decide +kernel
theorem dX5_init_45 : decode cX5_init 45 = .ok (.sipush 135, 3) := by decide +kernel
theorem dX5_init_48 : decode cX5_init 48 = .ok (.newarray .int, 2) := by decide +kernel
theorem dX5_init_50 : decode cX5_init 50 = .ok (.putfield 25, 3) := by decide +kernel
theorem dX5_init_53 : decode cX5_init 53 = .ok (.aload_n 0, 1) := by decide +kernel
theorem dX5_init_54 : decode cX5_init 54 = .ok (.iconst 4, 1) := by decide +kernel
theorem dX5_init_55 : decode cX5_init 55 = .ok (.newarray .int, 2) := by decide +kernel
theorem dX5_init_57 : decode cX5_init 57 = .ok (.putfield 28, 3) := by decide +kernel
theorem dX5_init_60 : decode cX5_init 60 = .ok (.aload_n 0, 1) := by decide +kernel
theorem dX5_init_61 : decode cX5_init 61 = .ok (.iconst 4, 1) := by decide +kernel
theorem dX5_init_62 : decode cX5_init 62 = .ok (.newarray .int, 2) := by decide +kernel
theorem dX5_init_64 : decode cX5_init 64 = .ok (.putfield 31, 3) := by decide +kernel
theorem dX5_init_67 : decode cX5_init 67 = .ok (.aload_n 0, 1) := by decide +kernel
theorem dX5_init_68 : decode cX5_init 68 = .ok (.bipush 96, 2) := by decide +kernel
theorem dX5_init_70 : decode cX5_init 70 = .ok (.newarray .long, 2) := by decide +kernel
theorem dX5_init_72 : decode cX5_init 72 = .ok (.putfield 34, 3) := by decide +kernel
theorem dX5_init_75 : decode cX5_init 75 = .ok (.aload_n 0, 1) := by decide +kernel
theorem dX5_init_76 : decode cX5_init 76 = .ok (.bipush 24, 2) := by decide +kernel
theorem dX5_init_78 : decode cX5_init 78 = .ok (.newarray .long, 2) := by decide +kernel
theorem dX5_init_80 : decode cX5_init 80 = .ok (.putfield 38, 3) := by decide +kernel
theorem dX5_init_83 : decode cX5_init 83 = .ok (.aload_n 0, 1) := by decide +kernel
theorem dX5_init_84 : decode cX5_init 84 = .ok (.iconst 4, 1) := by decide +kernel
theorem dX5_init_85 : decode cX5_init 85 = .ok (.iconst 5, 1) := by decide +kernel
theorem dX5_init_86 : decode cX5_init 86 = .ok (.invokevirtual 41, 3) := by decide +kernel
theorem dX5_init_89 : decode cX5_init 89 = .ok (.aload_n 0, 1) := by decide +kernel
theorem dX5_init_90 : decode cX5_init 90 = .ok (.getfield 7, 3) := by decide +kernel
theorem dX5_init_93 : decode cX5_init 93 = .ok (.bipush 8, 2) := by decide +kernel
theorem dX5_init_95 : decode cX5_init 95 = .ok (.iconst 1, 1) := by decide +kernel
theorem dX5_init_96 : decode cX5_init 96 = .ok (.iastore, 1) := by decide +kernel
theorem dX5_init_97 : decode cX5_init 97 = .ok (.iconst 0, 1) := by decide +kernel
theorem dX5_init_98 : decode cX5_init 98 = .ok (.istore_n 1, 1) := by decide +kernel
theorem dX5_init_99 : decode cX5_init 99 = .ok (.iload_n 1, 1) := by decide +kernel
theorem dX5_init_100 : decode cX5_init 100 = .ok (.iconst 4, 1) := by decide +kernel
theorem dX5_init_101 : decode cX5_init 101 = .ok (.if_icmp .ge 16, 3) := by decide +kernel
theorem dX5_init_104 : decode cX5_init 104 = .ok (.aload_n 0, 1) := by decide +kernel
theorem dX5_init_105 : decode cX5_init 105 = .ok (.getfield 28, 3) := by decide +kernel
theorem dX5_init_108 : decode cX5_init 108 = .ok (.iload_n 1, 1) := by decide +kernel
theorem dX5_init_109 : decode cX5_init 109 = .ok (.iconst (-1), 1) := by decide +kernel
theorem dX5_init_110 : decode cX5_init 110 = .ok (.iastore, 1) := by decide +kernel
theorem dX5_init_111 : decode cX5_init 111 = .ok (.iinc 1 1, 3) := by decide +kernel
theorem dX5_init_114 : decode cX5_init 114 = .ok (.goto (-15), 3) := by decide +kernel
theorem dX5_init_117 : decode cX5_init 117 = .ok (.return_, 1) := by decide +kernel
theorem dX5_fresh_0 : decode cX5_fresh 0 = .ok (.aload_n 0, 1) := by decide +kernel
theorem dX5_fresh_1 : decode cX5_fresh 1 = .ok (.getfield 7, 3) := by decide +kernel
theorem dX5_fresh_4 : decode cX5_fresh 4 = .ok (.iconst 0, 1) := by decide +kernel
theorem dX5_fresh_5 : decode cX5_fresh 5 = .ok (.iload_n 1, 1) := by decide +kernel
theorem dX5_fresh_6 : decode cX5_fresh 6 = .ok (.iastore, 1) := by decide +kernel
theorem dX5_fresh_7 : decode cX5_fresh 7 = .ok (.aload_n 0, 1) := by decide +kernel
theorem dX5_fresh_8 : decode cX5_fresh 8 = .ok (.getfield 7, 3) := by decide +kernel
theorem dX5_fresh_11 : decode cX5_fresh 11 = .ok (.iconst 1, 1) := by decide +kernel
theorem dX5_fresh_12 : decode cX5_fresh 12 = .ok (.iload_n 2, 1) := by decide +kernel
theorem dX5_fresh_13 : decode cX5_fresh 13 = .ok (.iastore, 1) := by decide +kernel
theorem dX5_fresh_14 : decode cX5_fresh 14 = .ok (.iconst 2, 1) := by decide +kernel
theorem dX5_fresh_15 : decode cX5_fresh 15 = .ok (.istore_n 3, 1) := by decide +kernel
theorem dX5_fresh_16 : decode cX5_fresh 16 = .ok (.iload_n 3, 1) := by decide +kernel
theorem dX5_fresh_17 : decode cX5_fresh 17 = .ok (.bipush 8, 2) := by decide +kernel
theorem dX5_fresh_19 : decode cX5_fresh 19 = .ok (.if_icmp .ge 16, 3) := by decide +kernel
theorem dX5_fresh_22 : decode cX5_fresh 22 = .ok (.aload_n 0, 1) := by decide +kernel
theorem dX5_fresh_23 : decode cX5_fresh 23 = .ok (.getfield 7, 3) := by decide +kernel
theorem dX5_fresh_26 : decode cX5_fresh 26 = .ok (.iload_n 3, 1) := by decide +kernel
theorem dX5_fresh_27 : decode cX5_fresh 27 = .ok (.iconst 0, 1) := by decide +kernel
theorem dX5_fresh_28 : decode cX5_fresh 28 = .ok (.iastore, 1) := by decide +kernel
theorem dX5_fresh_29 : decode cX5_fresh 29 = .ok (.iinc 3 1, 3) := by decide +kernel
theorem dX5_fresh_32 : decode cX5_fresh 32 = .ok (.goto (-16), 3) := by decide +kernel
theorem dX5_fresh_35 : decode cX5_fresh 35 = .ok (.aload_n 0, 1) := by decide +kernel
theorem dX5_fresh_36 : decode cX5_fresh 36 = .ok (.iconst 0, 1) := by decide +kernel
theorem dX5_fresh_37 : decode cX5_fresh 37 = .ok (.putfield 45, 3) := by decide +kernel
theorem dX5_fresh_40 : decode cX5_fresh 40 = .ok (.return_, 1) := by decide +kernel
theorem dX5_cells_0 : decode cX5_cells 0 = .ok (.aload_n 0, 1) := by decide +kernel
theorem dX5_cells_1 : decode cX5_cells 1 = .ok (.getfield 7, 3) := by decide +kernel
theorem dX5_cells_4 : decode cX5_cells 4 = .ok (.iconst 0, 1) := by decide +kernel
theorem dX5_cells_5 : decode cX5_cells 5 = .ok (.iaload, 1) := by decide +kernel
theorem dX5_cells_6 : decode cX5_cells 6 = .ok (.aload_n 0, 1) := by decide +kernel
theorem dX5_cells_7 : decode cX5_cells 7 = .ok (.getfield 7, 3) := by decide +kernel
theorem dX5_cells_10 : decode cX5_cells 10 = .ok (.iconst 1, 1) := by decide +kernel
theorem dX5_cells_11 : decode cX5_cells 11 = .ok (.iaload, 1) := by decide +kernel
theorem dX5_cells_12 : decode cX5_cells 12 = .ok (.imul, 1) := by decide +kernel
theorem dX5_cells_13 : decode cX5_cells 13 = .ok (.ireturn, 1) := by decide +kernel
theorem dX5_isPerson_0 : decode cX5_isPerson 0 = .ok (.iload_n 1, 1) := by decide +kernel
theorem dX5_isPerson_1 : decode cX5_isPerson 1 = .ok (.i2l, 1) := by decide +kernel
theorem dX5_isPerson_2 : decode cX5_isPerson 2 = .ok (.lconst 0, 1) := by decide +kernel
theorem dX5_isPerson_3 : decode cX5_isPerson 3 = .ok (.aload_n 0, 1) := by decide +kernel
theorem dX5_isPerson_4 : decode cX5_isPerson 4 = .ok (.getfield 7, 3) := by decide +kernel
theorem dX5_isPerson_7 : decode cX5_isPerson 7 = .ok (.iconst 2, 1) := by decide +kernel
theorem dX5_isPerson_8 : decode cX5_isPerson 8 = .ok (.iaload, 1) := by decide +kernel
theorem dX5_isPerson_9 : decode cX5_isPerson 9 = .ok (.iconst 1, 1) := by decide +kernel
theorem dX5_isPerson_10 : decode cX5_isPerson 10 = .ok (.isub, 1) := by decide +kernel
theorem dX5_isPerson_11 : decode cX5_isPerson 11 = .ok (.i2l, 1) := by decide +kernel
theorem dX5_isPerson_12 : decode cX5_isPerson 12 = .ok (.invokestatic 49, 3) := by decide +kernel
theorem dX5_isPerson_15 : decode cX5_isPerson 15 = .ok (.ireturn, 1) := by decide +kernel
theorem dX5_told_0 : decode cX5_told 0 = .ok (.aload_n 0, 1) := by decide +kernel
theorem dX5_told_1 : decode cX5_told 1 = .ok (.getfield 7, 3) := by decide +kernel
theorem dX5_told_4 : decode cX5_told 4 = .ok (.bipush 9, 2) := by decide +kernel
theorem dX5_told_6 : decode cX5_told 6 = .ok (.iconst 5, 1) := by decide +kernel
theorem dX5_told_7 : decode cX5_told 7 = .ok (.iload_n 1, 1) := by decide +kernel
theorem dX5_told_8 : decode cX5_told 8 = .ok (.imul, 1) := by decide +kernel
theorem dX5_told_9 : decode cX5_told 9 = .ok (.iadd, 1) := by decide +kernel
theorem dX5_told_10 : decode cX5_told 10 = .ok (.iload_n 2, 1) := by decide +kernel
theorem dX5_told_11 : decode cX5_told 11 = .ok (.iadd, 1) := by decide +kernel
theorem dX5_told_12 : decode cX5_told 12 = .ok (.iaload, 1) := by decide +kernel
theorem dX5_told_13 : decode cX5_told 13 = .ok (.ireturn, 1) := by decide +kernel
theorem dX5_isFree_0 : decode cX5_isFree 0 = .ok (.aload_n 0, 1) := by decide +kernel
theorem dX5_isFree_1 : decode cX5_isFree 1 = .ok (.getfield 7, 3) := by decide +kernel
theorem dX5_isFree_4 : decode cX5_isFree 4 = .ok (.iconst 5, 1) := by decide +kernel
theorem dX5_isFree_5 : decode cX5_isFree 5 = .ok (.iaload, 1) := by decide +kernel
theorem dX5_isFree_6 : decode cX5_isFree 6 = .ok (.iload_n 1, 1) := by decide +kernel
theorem dX5_isFree_7 : decode cX5_isFree 7 = .ok (.ishr, 1) := by decide +kernel
theorem dX5_isFree_8 : decode cX5_isFree 8 = .ok (.iconst 1, 1) := by decide +kernel
theorem dX5_isFree_9 : decode cX5_isFree 9 = .ok (.iand, 1) := by decide +kernel
theorem dX5_isFree_10 : decode cX5_isFree 10 = .ok (.ifCond .ne 7, 3) := by decide +kernel
theorem dX5_isFree_13 : decode cX5_isFree 13 = .ok (.iconst 1, 1) := by decide +kernel
theorem dX5_isFree_14 : decode cX5_isFree 14 = .ok (.goto 4, 3) := by decide +kernel
theorem dX5_isFree_17 : decode cX5_isFree 17 = .ok (.iconst 0, 1) := by decide +kernel
theorem dX5_isFree_18 : decode cX5_isFree 18 = .ok (.ireturn, 1) := by decide +kernel
theorem dX5_apart_0 : decode cX5_apart 0 = .ok (.iload_n 0, 1) := by decide +kernel
theorem dX5_apart_1 : decode cX5_apart 1 = .ok (.iload_n 1, 1) := by decide +kernel
theorem dX5_apart_2 : decode cX5_apart 2 = .ok (.if_icmp .ge 9, 3) := by decide +kernel
theorem dX5_apart_5 : decode cX5_apart 5 = .ok (.iload_n 1, 1) := by decide +kernel
theorem dX5_apart_6 : decode cX5_apart 6 = .ok (.iload_n 0, 1) := by decide +kernel
theorem dX5_apart_7 : decode cX5_apart 7 = .ok (.isub, 1) := by decide +kernel
theorem dX5_apart_8 : decode cX5_apart 8 = .ok (.goto 6, 3) := by decide +kernel
theorem dX5_apart_11 : decode cX5_apart 11 = .ok (.iload_n 0, 1) := by decide +kernel
theorem dX5_apart_12 : decode cX5_apart 12 = .ok (.iload_n 1, 1) := by decide +kernel
theorem dX5_apart_13 : decode cX5_apart 13 = .ok (.isub, 1) := by decide +kernel
theorem dX5_apart_14 : decode cX5_apart 14 = .ok (.ireturn, 1) := by decide +kernel
theorem dX5_far_0 : decode cX5_far 0 = .ok (.aload_n 0, 1) := by decide +kernel
theorem dX5_far_1 : decode cX5_far 1 = .ok (.iload_n 1, 1) := by decide +kernel
theorem dX5_far_2 : decode cX5_far 2 = .ok (.iconst 1, 1) := by decide +kernel
theorem dX5_far_3 : decode cX5_far 3 = .ok (.invokevirtual 53, 3) := by decide +kernel
theorem dX5_far_6 : decode cX5_far 6 = .ok (.istore_n 2, 1) := by decide +kernel
theorem dX5_far_7 : decode cX5_far 7 = .ok (.aload_n 0, 1) := by decide +kernel
theorem dX5_far_8 : decode cX5_far 8 = .ok (.getfield 7, 3) := by decide +kernel
theorem dX5_far_11 : decode cX5_far 11 = .ok (.iconst 3, 1) := by decide +kernel
theorem dX5_far_12 : decode cX5_far 12 = .ok (.iaload, 1) := by decide +kernel
theorem dX5_far_13 : decode cX5_far 13 = .ok (.istore_n 3, 1) := by decide +kernel
theorem dX5_far_14 : decode cX5_far 14 = .ok (.iload_n 2, 1) := by decide +kernel
theorem dX5_far_15 : decode cX5_far 15 = .ok (.aload_n 0, 1) := by decide +kernel
theorem dX5_far_16 : decode cX5_far 16 = .ok (.getfield 7, 3) := by decide +kernel
theorem dX5_far_19 : decode cX5_far 19 = .ok (.iconst 1, 1) := by decide +kernel
theorem dX5_far_20 : decode cX5_far 20 = .ok (.iaload, 1) := by decide +kernel
theorem dX5_far_21 : decode cX5_far 21 = .ok (.idiv, 1) := by decide +kernel
theorem dX5_far_22 : decode cX5_far 22 = .ok (.iload_n 3, 1) := by decide +kernel
theorem dX5_far_23 : decode cX5_far 23 = .ok (.aload_n 0, 1) := by decide +kernel
theorem dX5_far_24 : decode cX5_far 24 = .ok (.getfield 7, 3) := by decide +kernel
theorem dX5_far_27 : decode cX5_far 27 = .ok (.iconst 1, 1) := by decide +kernel
theorem dX5_far_28 : decode cX5_far 28 = .ok (.iaload, 1) := by decide +kernel
theorem dX5_far_29 : decode cX5_far 29 = .ok (.idiv, 1) := by decide +kernel
theorem dX5_far_30 : decode cX5_far 30 = .ok (.invokestatic 57, 3) := by decide +kernel
theorem dX5_far_33 : decode cX5_far 33 = .ok (.iload_n 2, 1) := by decide +kernel
theorem dX5_far_34 : decode cX5_far 34 = .ok (.aload_n 0, 1) := by decide +kernel
theorem dX5_far_35 : decode cX5_far 35 = .ok (.getfield 7, 3) := by decide +kernel
theorem dX5_far_38 : decode cX5_far 38 = .ok (.iconst 1, 1) := by decide +kernel
theorem dX5_far_39 : decode cX5_far 39 = .ok (.iaload, 1) := by decide +kernel
theorem dX5_far_40 : decode cX5_far 40 = .ok (.irem, 1) := by decide +kernel
theorem dX5_far_41 : decode cX5_far 41 = .ok (.iload_n 3, 1) := by decide +kernel
theorem dX5_far_42 : decode cX5_far 42 = .ok (.aload_n 0, 1) := by decide +kernel
theorem dX5_far_43 : decode cX5_far 43 = .ok (.getfield 7, 3) := by decide +kernel
theorem dX5_far_46 : decode cX5_far 46 = .ok (.iconst 1, 1) := by decide +kernel
theorem dX5_far_47 : decode cX5_far 47 = .ok (.iaload, 1) := by decide +kernel
theorem dX5_far_48 : decode cX5_far 48 = .ok (.irem, 1) := by decide +kernel
theorem dX5_far_49 : decode cX5_far 49 = .ok (.invokestatic 57, 3) := by decide +kernel
theorem dX5_far_52 : decode cX5_far 52 = .ok (.iadd, 1) := by decide +kernel
theorem dX5_far_53 : decode cX5_far 53 = .ok (.ireturn, 1) := by decide +kernel
theorem dX5_loud_0 : decode cX5_loud 0 = .ok (.aload_n 0, 1) := by decide +kernel
theorem dX5_loud_1 : decode cX5_loud 1 = .ok (.iload_n 1, 1) := by decide +kernel
theorem dX5_loud_2 : decode cX5_loud 2 = .ok (.invokevirtual 60, 3) := by decide +kernel
theorem dX5_loud_5 : decode cX5_loud 5 = .ok (.istore_n 2, 1) := by decide +kernel
theorem dX5_loud_6 : decode cX5_loud 6 = .ok (.aload_n 0, 1) := by decide +kernel
theorem dX5_loud_7 : decode cX5_loud 7 = .ok (.iload_n 1, 1) := by decide +kernel
theorem dX5_loud_8 : decode cX5_loud 8 = .ok (.iconst 2, 1) := by decide +kernel
theorem dX5_loud_9 : decode cX5_loud 9 = .ok (.invokevirtual 53, 3) := by decide +kernel
theorem dX5_loud_12 : decode cX5_loud 12 = .ok (.iload_n 2, 1) := by decide +kernel
theorem dX5_loud_13 : decode cX5_loud 13 = .ok (.if_icmp .le 14, 3) := by decide +kernel
theorem dX5_loud_16 : decode cX5_loud 16 = .ok (.aload_n 0, 1) := by decide +kernel
theorem dX5_loud_17 : decode cX5_loud 17 = .ok (.iload_n 1, 1) := by decide +kernel
theorem dX5_loud_18 : decode cX5_loud 18 = .ok (.iconst 2, 1) := by decide +kernel
theorem dX5_loud_19 : decode cX5_loud 19 = .ok (.invokevirtual 53, 3) := by decide +kernel
theorem dX5_loud_22 : decode cX5_loud 22 = .ok (.iload_n 2, 1) := by decide +kernel
theorem dX5_loud_23 : decode cX5_loud 23 = .ok (.isub, 1) := by decide +kernel
theorem dX5_loud_24 : decode cX5_loud 24 = .ok (.goto 4, 3) := by decide +kernel
theorem dX5_loud_27 : decode cX5_loud 27 = .ok (.iconst 0, 1) := by decide +kernel
theorem dX5_loud_28 : decode cX5_loud 28 = .ok (.istore_n 3, 1) := by decide +kernel
theorem dX5_loud_29 : decode cX5_loud 29 = .ok (.aload_n 0, 1) := by decide +kernel
theorem dX5_loud_30 : decode cX5_loud 30 = .ok (.iload_n 1, 1) := by decide +kernel
theorem dX5_loud_31 : decode cX5_loud 31 = .ok (.iconst 0, 1) := by decide +kernel
theorem dX5_loud_32 : decode cX5_loud 32 = .ok (.invokevirtual 53, 3) := by decide +kernel
theorem dX5_loud_35 : decode cX5_loud 35 = .ok (.tableswitch 58 0 3 #[29, 31, 35, 39], 29) := by decide +kernel
theorem dX5_loud_64 : decode cX5_loud 64 = .ok (.iload_n 3, 1) := by decide +kernel
theorem dX5_loud_65 : decode cX5_loud 65 = .ok (.ireturn, 1) := by decide +kernel
theorem dX5_loud_66 : decode cX5_loud 66 = .ok (.iload_n 3, 1) := by decide +kernel
theorem dX5_loud_67 : decode cX5_loud 67 = .ok (.iconst 2, 1) := by decide +kernel
theorem dX5_loud_68 : decode cX5_loud 68 = .ok (.idiv, 1) := by decide +kernel
theorem dX5_loud_69 : decode cX5_loud 69 = .ok (.ireturn, 1) := by decide +kernel
theorem dX5_loud_70 : decode cX5_loud 70 = .ok (.iload_n 3, 1) := by decide +kernel
theorem dX5_loud_71 : decode cX5_loud 71 = .ok (.iconst 4, 1) := by decide +kernel
theorem dX5_loud_72 : decode cX5_loud 72 = .ok (.iadd, 1) := by decide +kernel
theorem dX5_loud_73 : decode cX5_loud 73 = .ok (.ireturn, 1) := by decide +kernel
theorem dX5_loud_74 : decode cX5_loud 74 = .ok (.aload_n 0, 1) := by decide +kernel
theorem dX5_loud_75 : decode cX5_loud 75 = .ok (.getfield 7, 3) := by decide +kernel
theorem dX5_loud_78 : decode cX5_loud 78 = .ok (.iconst 4, 1) := by decide +kernel
theorem dX5_loud_79 : decode cX5_loud 79 = .ok (.iaload, 1) := by decide +kernel
theorem dX5_loud_80 : decode cX5_loud 80 = .ok (.iconst 2, 1) := by decide +kernel
theorem dX5_loud_81 : decode cX5_loud 81 = .ok (.irem, 1) := by decide +kernel
theorem dX5_loud_82 : decode cX5_loud 82 = .ok (.ifCond .ne 7, 3) := by decide +kernel
theorem dX5_loud_85 : decode cX5_loud 85 = .ok (.iconst 0, 1) := by decide +kernel
theorem dX5_loud_86 : decode cX5_loud 86 = .ok (.goto 6, 3) := by decide +kernel
theorem dX5_loud_89 : decode cX5_loud 89 = .ok (.iload_n 3, 1) := by decide +kernel
theorem dX5_loud_90 : decode cX5_loud 90 = .ok (.iconst 2, 1) := by decide +kernel
theorem dX5_loud_91 : decode cX5_loud 91 = .ok (.idiv, 1) := by decide +kernel
theorem dX5_loud_92 : decode cX5_loud 92 = .ok (.ireturn, 1) := by decide +kernel
theorem dX5_loud_93 : decode cX5_loud 93 = .ok (.iload_n 2, 1) := by decide +kernel
theorem dX5_loud_94 : decode cX5_loud 94 = .ok (.iconst 2, 1) := by decide +kernel
theorem dX5_loud_95 : decode cX5_loud 95 = .ok (.if_icmp .gt 11, 3) := by decide +kernel
theorem dX5_loud_98 : decode cX5_loud 98 = .ok (.iconst 2, 1) := by decide +kernel
theorem dX5_loud_99 : decode cX5_loud 99 = .ok (.iload_n 3, 1) := by decide +kernel
theorem dX5_loud_100 : decode cX5_loud 100 = .ok (.iconst 4, 1) := by decide +kernel
theorem dX5_loud_101 : decode cX5_loud 101 = .ok (.iadd, 1) := by decide +kernel
theorem dX5_loud_102 : decode cX5_loud 102 = .ok (.imul, 1) := by decide +kernel
theorem dX5_loud_103 : decode cX5_loud 103 = .ok (.goto 6, 3) := by decide +kernel
theorem dX5_loud_106 : decode cX5_loud 106 = .ok (.iload_n 3, 1) := by decide +kernel
theorem dX5_loud_107 : decode cX5_loud 107 = .ok (.iconst 4, 1) := by decide +kernel
theorem dX5_loud_108 : decode cX5_loud 108 = .ok (.iadd, 1) := by decide +kernel
theorem dX5_loud_109 : decode cX5_loud 109 = .ok (.ireturn, 1) := by decide +kernel
theorem dX5_many_0 : decode cX5_many 0 = .ok (.iconst 0, 1) := by decide +kernel
theorem dX5_many_1 : decode cX5_many 1 = .ok (.istore_n 1, 1) := by decide +kernel
theorem dX5_many_2 : decode cX5_many 2 = .ok (.iload_n 0, 1) := by decide +kernel
theorem dX5_many_3 : decode cX5_many 3 = .ok (.istore_n 2, 1) := by decide +kernel
theorem dX5_many_4 : decode cX5_many 4 = .ok (.iload_n 2, 1) := by decide +kernel
theorem dX5_many_5 : decode cX5_many 5 = .ok (.ifCond .eq 15, 3) := by decide +kernel
theorem dX5_many_8 : decode cX5_many 8 = .ok (.iinc 1 1, 3) := by decide +kernel
theorem dX5_many_11 : decode cX5_many 11 = .ok (.iload_n 2, 1) := by decide +kernel
theorem dX5_many_12 : decode cX5_many 12 = .ok (.iload_n 2, 1) := by decide +kernel
theorem dX5_many_13 : decode cX5_many 13 = .ok (.iconst 1, 1) := by decide +kernel
theorem dX5_many_14 : decode cX5_many 14 = .ok (.isub, 1) := by decide +kernel
theorem dX5_many_15 : decode cX5_many 15 = .ok (.iand, 1) := by decide +kernel
theorem dX5_many_16 : decode cX5_many 16 = .ok (.istore_n 2, 1) := by decide +kernel
theorem dX5_many_17 : decode cX5_many 17 = .ok (.goto (-13), 3) := by decide +kernel
theorem dX5_many_20 : decode cX5_many 20 = .ok (.iload_n 1, 1) := by decide +kernel
theorem dX5_many_21 : decode cX5_many 21 = .ok (.ireturn, 1) := by decide +kernel
theorem dX5_named_0 : decode cX5_named 0 = .ok (.iconst 0, 1) := by decide +kernel
theorem dX5_named_1 : decode cX5_named 1 = .ok (.istore_n 3, 1) := by decide +kernel
theorem dX5_named_2 : decode cX5_named 2 = .ok (.iconst 1, 1) := by decide +kernel
theorem dX5_named_3 : decode cX5_named 3 = .ok (.istore 4, 2) := by decide +kernel
theorem dX5_named_5 : decode cX5_named 5 = .ok (.iload 4, 2) := by decide +kernel
theorem dX5_named_7 : decode cX5_named 7 = .ok (.aload_n 0, 1) := by decide +kernel
theorem dX5_named_8 : decode cX5_named 8 = .ok (.getfield 7, 3) := by decide +kernel
theorem dX5_named_11 : decode cX5_named 11 = .ok (.iconst 2, 1) := by decide +kernel
theorem dX5_named_12 : decode cX5_named 12 = .ok (.iaload, 1) := by decide +kernel
theorem dX5_named_13 : decode cX5_named 13 = .ok (.if_icmp .ge 54, 3) := by decide +kernel
theorem dX5_named_16 : decode cX5_named 16 = .ok (.aload_n 0, 1) := by decide +kernel
theorem dX5_named_17 : decode cX5_named 17 = .ok (.iload_n 1, 1) := by decide +kernel
theorem dX5_named_18 : decode cX5_named 18 = .ok (.iconst 3, 1) := by decide +kernel
theorem dX5_named_19 : decode cX5_named 19 = .ok (.invokevirtual 53, 3) := by decide +kernel
theorem dX5_named_22 : decode cX5_named 22 = .ok (.iload_n 2, 1) := by decide +kernel
theorem dX5_named_23 : decode cX5_named 23 = .ok (.ixor, 1) := by decide +kernel
theorem dX5_named_24 : decode cX5_named 24 = .ok (.istore 5, 2) := by decide +kernel
theorem dX5_named_26 : decode cX5_named 26 = .ok (.aload_n 0, 1) := by decide +kernel
theorem dX5_named_27 : decode cX5_named 27 = .ok (.iload 4, 2) := by decide +kernel
theorem dX5_named_29 : decode cX5_named 29 = .ok (.iconst 3, 1) := by decide +kernel
theorem dX5_named_30 : decode cX5_named 30 = .ok (.invokevirtual 53, 3) := by decide +kernel
theorem dX5_named_33 : decode cX5_named 33 = .ok (.iload 5, 2) := by decide +kernel
theorem dX5_named_35 : decode cX5_named 35 = .ok (.ixor, 1) := by decide +kernel
theorem dX5_named_36 : decode cX5_named 36 = .ok (.invokestatic 64, 3) := by decide +kernel
theorem dX5_named_39 : decode cX5_named 39 = .ok (.aload_n 0, 1) := by decide +kernel
theorem dX5_named_40 : decode cX5_named 40 = .ok (.iload_n 3, 1) := by decide +kernel
theorem dX5_named_41 : decode cX5_named 41 = .ok (.iconst 3, 1) := by decide +kernel
theorem dX5_named_42 : decode cX5_named 42 = .ok (.invokevirtual 53, 3) := by decide +kernel
theorem dX5_named_45 : decode cX5_named 45 = .ok (.iload 5, 2) := by decide +kernel
theorem dX5_named_47 : decode cX5_named 47 = .ok (.ixor, 1) := by decide +kernel
theorem dX5_named_48 : decode cX5_named 48 = .ok (.invokestatic 64, 3) := by decide +kernel
theorem dX5_named_51 : decode cX5_named 51 = .ok (.if_icmp .ge 8, 3) := by decide +kernel
theorem dX5_named_54 : decode cX5_named 54 = .ok (.iload 4, 2) := by decide +kernel
theorem dX5_named_56 : decode cX5_named 56 = .ok (.goto 4, 3) := by decide +kernel
theorem dX5_named_59 : decode cX5_named 59 = .ok (.iload_n 3, 1) := by decide +kernel
theorem dX5_named_60 : decode cX5_named 60 = .ok (.istore_n 3, 1) := by decide +kernel
theorem dX5_named_61 : decode cX5_named 61 = .ok (.iinc 4 1, 3) := by decide +kernel
theorem dX5_named_64 : decode cX5_named 64 = .ok (.goto (-59), 3) := by decide +kernel
theorem dX5_named_67 : decode cX5_named 67 = .ok (.iload_n 3, 1) := by decide +kernel
theorem dX5_named_68 : decode cX5_named 68 = .ok (.ireturn, 1) := by decide +kernel
theorem dX5_follows_0 : decode cX5_follows 0 = .ok (.bipush (-4), 2) := by decide +kernel
theorem dX5_follows_2 : decode cX5_follows 2 = .ok (.istore_n 2, 1) := by decide +kernel
theorem dX5_follows_3 : decode cX5_follows 3 = .ok (.iconst 0, 1) := by decide +kernel
theorem dX5_follows_4 : decode cX5_follows 4 = .ok (.istore_n 3, 1) := by decide +kernel
theorem dX5_follows_5 : decode cX5_follows 5 = .ok (.iconst 0, 1) := by decide +kernel
theorem dX5_follows_6 : decode cX5_follows 6 = .ok (.istore 4, 2) := by decide +kernel
theorem dX5_follows_8 : decode cX5_follows 8 = .ok (.iload 4, 2) := by decide +kernel
theorem dX5_follows_10 : decode cX5_follows 10 = .ok (.aload_n 0, 1) := by decide +kernel
theorem dX5_follows_11 : decode cX5_follows 11 = .ok (.getfield 7, 3) := by decide +kernel
theorem dX5_follows_14 : decode cX5_follows 14 = .ok (.iconst 2, 1) := by decide +kernel
theorem dX5_follows_15 : decode cX5_follows 15 = .ok (.iaload, 1) := by decide +kernel
theorem dX5_follows_16 : decode cX5_follows 16 = .ok (.if_icmp .ge 72, 3) := by decide +kernel
theorem dX5_follows_19 : decode cX5_follows 19 = .ok (.aload_n 0, 1) := by decide +kernel
theorem dX5_follows_20 : decode cX5_follows 20 = .ok (.iload 4, 2) := by decide +kernel
theorem dX5_follows_22 : decode cX5_follows 22 = .ok (.invokevirtual 67, 3) := by decide +kernel
theorem dX5_follows_25 : decode cX5_follows 25 = .ok (.ifCond .eq 26, 3) := by decide +kernel
theorem dX5_follows_28 : decode cX5_follows 28 = .ok (.iload_n 1, 1) := by decide +kernel
theorem dX5_follows_29 : decode cX5_follows 29 = .ok (.iload 4, 2) := by decide +kernel
theorem dX5_follows_31 : decode cX5_follows 31 = .ok (.ishr, 1) := by decide +kernel
theorem dX5_follows_32 : decode cX5_follows 32 = .ok (.iconst 1, 1) := by decide +kernel
theorem dX5_follows_33 : decode cX5_follows 33 = .ok (.iand, 1) := by decide +kernel
theorem dX5_follows_34 : decode cX5_follows 34 = .ok (.ifCond .ne 17, 3) := by decide +kernel
theorem dX5_follows_37 : decode cX5_follows 37 = .ok (.aload_n 0, 1) := by decide +kernel
theorem dX5_follows_38 : decode cX5_follows 38 = .ok (.iload 4, 2) := by decide +kernel
theorem dX5_follows_40 : decode cX5_follows 40 = .ok (.invokevirtual 71, 3) := by decide +kernel
theorem dX5_follows_43 : decode cX5_follows 43 = .ok (.iload_n 3, 1) := by decide +kernel
theorem dX5_follows_44 : decode cX5_follows 44 = .ok (.if_icmp .le 7, 3) := by decide +kernel
theorem dX5_follows_47 : decode cX5_follows 47 = .ok (.iconst 1, 1) := by decide +kernel
theorem dX5_follows_48 : decode cX5_follows 48 = .ok (.goto 4, 3) := by decide +kernel
theorem dX5_follows_51 : decode cX5_follows 51 = .ok (.iconst 0, 1) := by decide +kernel
theorem dX5_follows_52 : decode cX5_follows 52 = .ok (.istore 5, 2) := by decide +kernel
theorem dX5_follows_54 : decode cX5_follows 54 = .ok (.iload 5, 2) := by decide +kernel
theorem dX5_follows_56 : decode cX5_follows 56 = .ok (.ifCond .eq 8, 3) := by decide +kernel
theorem dX5_follows_59 : decode cX5_follows 59 = .ok (.iload 4, 2) := by decide +kernel
theorem dX5_follows_61 : decode cX5_follows 61 = .ok (.goto 4, 3) := by decide +kernel
theorem dX5_follows_64 : decode cX5_follows 64 = .ok (.iload_n 2, 1) := by decide +kernel
theorem dX5_follows_65 : decode cX5_follows 65 = .ok (.istore_n 2, 1) := by decide +kernel
theorem dX5_follows_66 : decode cX5_follows 66 = .ok (.iload 5, 2) := by decide +kernel
theorem dX5_follows_68 : decode cX5_follows 68 = .ok (.ifCond .eq 12, 3) := by decide +kernel
theorem dX5_follows_71 : decode cX5_follows 71 = .ok (.aload_n 0, 1) := by decide +kernel
theorem dX5_follows_72 : decode cX5_follows 72 = .ok (.iload 4, 2) := by decide +kernel
theorem dX5_follows_74 : decode cX5_follows 74 = .ok (.invokevirtual 71, 3) := by decide +kernel
theorem dX5_follows_77 : decode cX5_follows 77 = .ok (.goto 4, 3) := by decide +kernel
theorem dX5_follows_80 : decode cX5_follows 80 = .ok (.iload_n 3, 1) := by decide +kernel
theorem dX5_follows_81 : decode cX5_follows 81 = .ok (.istore_n 3, 1) := by decide +kernel
theorem dX5_follows_82 : decode cX5_follows 82 = .ok (.iinc 4 1, 3) := by decide +kernel
theorem dX5_follows_85 : decode cX5_follows 85 = .ok (.goto (-77), 3) := by decide +kernel
theorem dX5_follows_88 : decode cX5_follows 88 = .ok (.iload_n 2, 1) := by decide +kernel
theorem dX5_follows_89 : decode cX5_follows 89 = .ok (.ireturn, 1) := by decide +kernel
theorem dX5_nearer_0 : decode cX5_nearer 0 = .ok (.iload_n 0, 1) := by decide +kernel
theorem dX5_nearer_1 : decode cX5_nearer 1 = .ok (.iload_n 1, 1) := by decide +kernel
theorem dX5_nearer_2 : decode cX5_nearer 2 = .ok (.if_icmp .ge 7, 3) := by decide +kernel
theorem dX5_nearer_5 : decode cX5_nearer 5 = .ok (.iconst 1, 1) := by decide +kernel
theorem dX5_nearer_6 : decode cX5_nearer 6 = .ok (.goto 13, 3) := by decide +kernel
theorem dX5_nearer_9 : decode cX5_nearer 9 = .ok (.iload_n 0, 1) := by decide +kernel
theorem dX5_nearer_10 : decode cX5_nearer 10 = .ok (.iload_n 1, 1) := by decide +kernel
theorem dX5_nearer_11 : decode cX5_nearer 11 = .ok (.if_icmp .le 7, 3) := by decide +kernel
theorem dX5_nearer_14 : decode cX5_nearer 14 = .ok (.iconst (-1), 1) := by decide +kernel
theorem dX5_nearer_15 : decode cX5_nearer 15 = .ok (.goto 4, 3) := by decide +kernel
theorem dX5_nearer_18 : decode cX5_nearer 18 = .ok (.iconst 0, 1) := by decide +kernel
theorem dX5_nearer_19 : decode cX5_nearer 19 = .ok (.ireturn, 1) := by decide +kernel
theorem dX5_goesBy_0 : decode cX5_goesBy 0 = .ok (.aload_n 0, 1) := by decide +kernel
theorem dX5_goesBy_1 : decode cX5_goesBy 1 = .ok (.iconst 0, 1) := by decide +kernel
theorem dX5_goesBy_2 : decode cX5_goesBy 2 = .ok (.invokevirtual 74, 3) := by decide +kernel
theorem dX5_goesBy_5 : decode cX5_goesBy 5 = .ok (.istore_n 1, 1) := by decide +kernel
theorem dX5_goesBy_6 : decode cX5_goesBy 6 = .ok (.iload_n 1, 1) := by decide +kernel
theorem dX5_goesBy_7 : decode cX5_goesBy 7 = .ok (.bipush (-4), 2) := by decide +kernel
theorem dX5_goesBy_9 : decode cX5_goesBy 9 = .ok (.if_icmp .eq 68, 3) := by decide +kernel
theorem dX5_goesBy_12 : decode cX5_goesBy 12 = .ok (.aload_n 0, 1) := by decide +kernel
theorem dX5_goesBy_13 : decode cX5_goesBy 13 = .ok (.getfield 7, 3) := by decide +kernel
theorem dX5_goesBy_16 : decode cX5_goesBy 16 = .ok (.iconst 1, 1) := by decide +kernel
theorem dX5_goesBy_17 : decode cX5_goesBy 17 = .ok (.iaload, 1) := by decide +kernel
theorem dX5_goesBy_18 : decode cX5_goesBy 18 = .ok (.istore_n 2, 1) := by decide +kernel
theorem dX5_goesBy_19 : decode cX5_goesBy 19 = .ok (.aload_n 0, 1) := by decide +kernel
theorem dX5_goesBy_20 : decode cX5_goesBy 20 = .ok (.iload_n 1, 1) := by decide +kernel
theorem dX5_goesBy_21 : decode cX5_goesBy 21 = .ok (.iconst 1, 1) := by decide +kernel
theorem dX5_goesBy_22 : decode cX5_goesBy 22 = .ok (.invokevirtual 53, 3) := by decide +kernel
theorem dX5_goesBy_25 : decode cX5_goesBy 25 = .ok (.istore_n 3, 1) := by decide +kernel
theorem dX5_goesBy_26 : decode cX5_goesBy 26 = .ok (.aload_n 0, 1) := by decide +kernel
theorem dX5_goesBy_27 : decode cX5_goesBy 27 = .ok (.getfield 7, 3) := by decide +kernel
theorem dX5_goesBy_30 : decode cX5_goesBy 30 = .ok (.iconst 3, 1) := by decide +kernel
theorem dX5_goesBy_31 : decode cX5_goesBy 31 = .ok (.iaload, 1) := by decide +kernel
theorem dX5_goesBy_32 : decode cX5_goesBy 32 = .ok (.iload_n 2, 1) := by decide +kernel
theorem dX5_goesBy_33 : decode cX5_goesBy 33 = .ok (.idiv, 1) := by decide +kernel
theorem dX5_goesBy_34 : decode cX5_goesBy 34 = .ok (.iload_n 3, 1) := by decide +kernel
theorem dX5_goesBy_35 : decode cX5_goesBy 35 = .ok (.iload_n 2, 1) := by decide +kernel
theorem dX5_goesBy_36 : decode cX5_goesBy 36 = .ok (.idiv, 1) := by decide +kernel
theorem dX5_goesBy_37 : decode cX5_goesBy 37 = .ok (.invokestatic 77, 3) := by decide +kernel
theorem dX5_goesBy_40 : decode cX5_goesBy 40 = .ok (.istore 4, 2) := by decide +kernel
theorem dX5_goesBy_42 : decode cX5_goesBy 42 = .ok (.aload_n 0, 1) := by decide +kernel
theorem dX5_goesBy_43 : decode cX5_goesBy 43 = .ok (.getfield 7, 3) := by decide +kernel
theorem dX5_goesBy_46 : decode cX5_goesBy 46 = .ok (.iconst 3, 1) := by decide +kernel
theorem dX5_goesBy_47 : decode cX5_goesBy 47 = .ok (.dup2, 1) := by decide +kernel
theorem dX5_goesBy_48 : decode cX5_goesBy 48 = .ok (.iaload, 1) := by decide +kernel
theorem dX5_goesBy_49 : decode cX5_goesBy 49 = .ok (.iload 4, 2) := by decide +kernel
theorem dX5_goesBy_51 : decode cX5_goesBy 51 = .ok (.ifCond .eq 10, 3) := by decide +kernel
theorem dX5_goesBy_54 : decode cX5_goesBy 54 = .ok (.iload 4, 2) := by decide +kernel
theorem dX5_goesBy_56 : decode cX5_goesBy 56 = .ok (.iload_n 2, 1) := by decide +kernel
theorem dX5_goesBy_57 : decode cX5_goesBy 57 = .ok (.imul, 1) := by decide +kernel
theorem dX5_goesBy_58 : decode cX5_goesBy 58 = .ok (.goto 17, 3) := by decide +kernel
theorem dX5_goesBy_61 : decode cX5_goesBy 61 = .ok (.aload_n 0, 1) := by decide +kernel
theorem dX5_goesBy_62 : decode cX5_goesBy 62 = .ok (.getfield 7, 3) := by decide +kernel
theorem dX5_goesBy_65 : decode cX5_goesBy 65 = .ok (.iconst 3, 1) := by decide +kernel
theorem dX5_goesBy_66 : decode cX5_goesBy 66 = .ok (.iaload, 1) := by decide +kernel
theorem dX5_goesBy_67 : decode cX5_goesBy 67 = .ok (.iload_n 2, 1) := by decide +kernel
theorem dX5_goesBy_68 : decode cX5_goesBy 68 = .ok (.irem, 1) := by decide +kernel
theorem dX5_goesBy_69 : decode cX5_goesBy 69 = .ok (.iload_n 3, 1) := by decide +kernel
theorem dX5_goesBy_70 : decode cX5_goesBy 70 = .ok (.iload_n 2, 1) := by decide +kernel
theorem dX5_goesBy_71 : decode cX5_goesBy 71 = .ok (.irem, 1) := by decide +kernel
theorem dX5_goesBy_72 : decode cX5_goesBy 72 = .ok (.invokestatic 77, 3) := by decide +kernel
theorem dX5_goesBy_75 : decode cX5_goesBy 75 = .ok (.iadd, 1) := by decide +kernel
theorem dX5_goesBy_76 : decode cX5_goesBy 76 = .ok (.iastore, 1) := by decide +kernel
theorem dX5_goesBy_77 : decode cX5_goesBy 77 = .ok (.aload_n 0, 1) := by decide +kernel
theorem dX5_goesBy_78 : decode cX5_goesBy 78 = .ok (.bipush (-4), 2) := by decide +kernel
theorem dX5_goesBy_80 : decode cX5_goesBy 80 = .ok (.putfield 80, 3) := by decide +kernel
theorem dX5_goesBy_83 : decode cX5_goesBy 83 = .ok (.aload_n 0, 1) := by decide +kernel
theorem dX5_goesBy_84 : decode cX5_goesBy 84 = .ok (.getfield 7, 3) := by decide +kernel
theorem dX5_goesBy_87 : decode cX5_goesBy 87 = .ok (.iconst 2, 1) := by decide +kernel
theorem dX5_goesBy_88 : decode cX5_goesBy 88 = .ok (.iaload, 1) := by decide +kernel
theorem dX5_goesBy_89 : decode cX5_goesBy 89 = .ok (.iconst 1, 1) := by decide +kernel
theorem dX5_goesBy_90 : decode cX5_goesBy 90 = .ok (.isub, 1) := by decide +kernel
theorem dX5_goesBy_91 : decode cX5_goesBy 91 = .ok (.istore_n 2, 1) := by decide +kernel
theorem dX5_goesBy_92 : decode cX5_goesBy 92 = .ok (.iload_n 2, 1) := by decide +kernel
theorem dX5_goesBy_93 : decode cX5_goesBy 93 = .ok (.ifCond .lt 44, 3) := by decide +kernel
theorem dX5_goesBy_96 : decode cX5_goesBy 96 = .ok (.aload_n 0, 1) := by decide +kernel
theorem dX5_goesBy_97 : decode cX5_goesBy 97 = .ok (.aload_n 0, 1) := by decide +kernel
theorem dX5_goesBy_98 : decode cX5_goesBy 98 = .ok (.iload_n 2, 1) := by decide +kernel
theorem dX5_goesBy_99 : decode cX5_goesBy 99 = .ok (.invokevirtual 67, 3) := by decide +kernel
theorem dX5_goesBy_102 : decode cX5_goesBy 102 = .ok (.ifCond .eq 22, 3) := by decide +kernel
theorem dX5_goesBy_105 : decode cX5_goesBy 105 = .ok (.aload_n 0, 1) := by decide +kernel
theorem dX5_goesBy_106 : decode cX5_goesBy 106 = .ok (.iload_n 2, 1) := by decide +kernel
theorem dX5_goesBy_107 : decode cX5_goesBy 107 = .ok (.iconst 1, 1) := by decide +kernel
theorem dX5_goesBy_108 : decode cX5_goesBy 108 = .ok (.invokevirtual 53, 3) := by decide +kernel
theorem dX5_goesBy_111 : decode cX5_goesBy 111 = .ok (.aload_n 0, 1) := by decide +kernel
theorem dX5_goesBy_112 : decode cX5_goesBy 112 = .ok (.getfield 7, 3) := by decide +kernel
theorem dX5_goesBy_115 : decode cX5_goesBy 115 = .ok (.iconst 3, 1) := by decide +kernel
theorem dX5_goesBy_116 : decode cX5_goesBy 116 = .ok (.iaload, 1) := by decide +kernel
theorem dX5_goesBy_117 : decode cX5_goesBy 117 = .ok (.if_icmp .ne 7, 3) := by decide +kernel
theorem dX5_goesBy_120 : decode cX5_goesBy 120 = .ok (.iload_n 2, 1) := by decide +kernel
theorem dX5_goesBy_121 : decode cX5_goesBy 121 = .ok (.goto 7, 3) := by decide +kernel
theorem dX5_goesBy_124 : decode cX5_goesBy 124 = .ok (.aload_n 0, 1) := by decide +kernel
theorem dX5_goesBy_125 : decode cX5_goesBy 125 = .ok (.getfield 80, 3) := by decide +kernel
theorem dX5_goesBy_128 : decode cX5_goesBy 128 = .ok (.putfield 80, 3) := by decide +kernel
theorem dX5_goesBy_131 : decode cX5_goesBy 131 = .ok (.iinc 2 (-1), 3) := by decide +kernel
theorem dX5_goesBy_134 : decode cX5_goesBy 134 = .ok (.goto (-42), 3) := by decide +kernel
theorem dX5_goesBy_137 : decode cX5_goesBy 137 = .ok (.aload_n 0, 1) := by decide +kernel
theorem dX5_goesBy_138 : decode cX5_goesBy 138 = .ok (.getfield 7, 3) := by decide +kernel
theorem dX5_goesBy_141 : decode cX5_goesBy 141 = .ok (.iconst 4, 1) := by decide +kernel
theorem dX5_goesBy_142 : decode cX5_goesBy 142 = .ok (.dup2, 1) := by decide +kernel
theorem dX5_goesBy_143 : decode cX5_goesBy 143 = .ok (.iaload, 1) := by decide +kernel
theorem dX5_goesBy_144 : decode cX5_goesBy 144 = .ok (.iconst 1, 1) := by decide +kernel
theorem dX5_goesBy_145 : decode cX5_goesBy 145 = .ok (.iadd, 1) := by decide +kernel
theorem dX5_goesBy_146 : decode cX5_goesBy 146 = .ok (.iastore, 1) := by decide +kernel
theorem dX5_goesBy_147 : decode cX5_goesBy 147 = .ok (.aload_n 0, 1) := by decide +kernel
theorem dX5_goesBy_148 : decode cX5_goesBy 148 = .ok (.getfield 80, 3) := by decide +kernel
theorem dX5_goesBy_151 : decode cX5_goesBy 151 = .ok (.bipush (-4), 2) := by decide +kernel
theorem dX5_goesBy_153 : decode cX5_goesBy 153 = .ok (.if_icmp .ne 5, 3) := by decide +kernel
theorem dX5_goesBy_156 : decode cX5_goesBy 156 = .ok (.iconst 0, 1) := by decide +kernel
theorem dX5_goesBy_157 : decode cX5_goesBy 157 = .ok (.ireturn, 1) := by decide +kernel
theorem dX5_goesBy_158 : decode cX5_goesBy 158 = .ok (.aload_n 0, 1) := by decide +kernel
theorem dX5_goesBy_159 : decode cX5_goesBy 159 = .ok (.aload_n 0, 1) := by decide +kernel
theorem dX5_goesBy_160 : decode cX5_goesBy 160 = .ok (.aload_n 0, 1) := by decide +kernel
theorem dX5_goesBy_161 : decode cX5_goesBy 161 = .ok (.getfield 80, 3) := by decide +kernel
theorem dX5_goesBy_164 : decode cX5_goesBy 164 = .ok (.aload_n 0, 1) := by decide +kernel
theorem dX5_goesBy_165 : decode cX5_goesBy 165 = .ok (.aload_n 0, 1) := by decide +kernel
theorem dX5_goesBy_166 : decode cX5_goesBy 166 = .ok (.getfield 80, 3) := by decide +kernel
theorem dX5_goesBy_169 : decode cX5_goesBy 169 = .ok (.iconst 4, 1) := by decide +kernel
theorem dX5_goesBy_170 : decode cX5_goesBy 170 = .ok (.invokevirtual 53, 3) := by decide +kernel
theorem dX5_goesBy_173 : decode cX5_goesBy 173 = .ok (.invokevirtual 83, 3) := by decide +kernel
theorem dX5_goesBy_176 : decode cX5_goesBy 176 = .ok (.putfield 86, 3) := by decide +kernel
theorem dX5_goesBy_179 : decode cX5_goesBy 179 = .ok (.aload_n 0, 1) := by decide +kernel
theorem dX5_goesBy_180 : decode cX5_goesBy 180 = .ok (.getfield 7, 3) := by decide +kernel
theorem dX5_goesBy_183 : decode cX5_goesBy 183 = .ok (.iconst 5, 1) := by decide +kernel
theorem dX5_goesBy_184 : decode cX5_goesBy 184 = .ok (.dup2, 1) := by decide +kernel
theorem dX5_goesBy_185 : decode cX5_goesBy 185 = .ok (.iaload, 1) := by decide +kernel
theorem dX5_goesBy_186 : decode cX5_goesBy 186 = .ok (.iconst 1, 1) := by decide +kernel
theorem dX5_goesBy_187 : decode cX5_goesBy 187 = .ok (.aload_n 0, 1) := by decide +kernel
theorem dX5_goesBy_188 : decode cX5_goesBy 188 = .ok (.getfield 80, 3) := by decide +kernel
theorem dX5_goesBy_191 : decode cX5_goesBy 191 = .ok (.ishl, 1) := by decide +kernel
theorem dX5_goesBy_192 : decode cX5_goesBy 192 = .ok (.ior, 1) := by decide +kernel
theorem dX5_goesBy_193 : decode cX5_goesBy 193 = .ok (.iastore, 1) := by decide +kernel
theorem dX5_goesBy_194 : decode cX5_goesBy 194 = .ok (.aload_n 0, 1) := by decide +kernel
theorem dX5_goesBy_195 : decode cX5_goesBy 195 = .ok (.getfield 7, 3) := by decide +kernel
theorem dX5_goesBy_198 : decode cX5_goesBy 198 = .ok (.aload_n 0, 1) := by decide +kernel
theorem dX5_goesBy_199 : decode cX5_goesBy 199 = .ok (.getfield 86, 3) := by decide +kernel
theorem dX5_goesBy_202 : decode cX5_goesBy 202 = .ok (.aload_n 0, 1) := by decide +kernel
theorem dX5_goesBy_203 : decode cX5_goesBy 203 = .ok (.getfield 80, 3) := by decide +kernel
theorem dX5_goesBy_206 : decode cX5_goesBy 206 = .ok (.if_icmp .ne 8, 3) := by decide +kernel
theorem dX5_goesBy_209 : decode cX5_goesBy 209 = .ok (.bipush 6, 2) := by decide +kernel
theorem dX5_goesBy_211 : decode cX5_goesBy 211 = .ok (.goto 5, 3) := by decide +kernel
theorem dX5_goesBy_214 : decode cX5_goesBy 214 = .ok (.bipush 7, 2) := by decide +kernel
theorem dX5_goesBy_216 : decode cX5_goesBy 216 = .ok (.dup2, 1) := by decide +kernel
theorem dX5_goesBy_217 : decode cX5_goesBy 217 = .ok (.iaload, 1) := by decide +kernel
theorem dX5_goesBy_218 : decode cX5_goesBy 218 = .ok (.iconst 1, 1) := by decide +kernel
theorem dX5_goesBy_219 : decode cX5_goesBy 219 = .ok (.iadd, 1) := by decide +kernel
theorem dX5_goesBy_220 : decode cX5_goesBy 220 = .ok (.iastore, 1) := by decide +kernel
theorem dX5_goesBy_221 : decode cX5_goesBy 221 = .ok (.iconst 1, 1) := by decide +kernel
theorem dX5_goesBy_222 : decode cX5_goesBy 222 = .ok (.ireturn, 1) := by decide +kernel
theorem dX5_streets_0 : decode cX5_streets 0 = .ok (.iload_n 1, 1) := by decide +kernel
theorem dX5_streets_1 : decode cX5_streets 1 = .ok (.i2l, 1) := by decide +kernel
theorem dX5_streets_2 : decode cX5_streets 2 = .ok (.ldc2_w 89, 3) := by decide +kernel
theorem dX5_streets_5 : decode cX5_streets 5 = .ok (.ldc2_w 91, 3) := by decide +kernel
theorem dX5_streets_8 : decode cX5_streets 8 = .ok (.invokestatic 49, 3) := by decide +kernel
theorem dX5_streets_11 : decode cX5_streets 11 = .ok (.ifCond .eq 17, 3) := by decide +kernel
theorem dX5_streets_14 : decode cX5_streets 14 = .ok (.iload_n 2, 1) := by decide +kernel
theorem dX5_streets_15 : decode cX5_streets 15 = .ok (.i2l, 1) := by decide +kernel
theorem dX5_streets_16 : decode cX5_streets 16 = .ok (.ldc2_w 89, 3) := by decide +kernel
theorem dX5_streets_19 : decode cX5_streets 19 = .ok (.ldc2_w 91, 3) := by decide +kernel
theorem dX5_streets_22 : decode cX5_streets 22 = .ok (.invokestatic 49, 3) := by decide +kernel
theorem dX5_streets_25 : decode cX5_streets 25 = .ok (.ifCond .ne 5, 3) := by decide +kernel
theorem dX5_streets_28 : decode cX5_streets 28 = .ok (.iconst (-1), 1) := by decide +kernel
theorem dX5_streets_29 : decode cX5_streets 29 = .ok (.ireturn, 1) := by decide +kernel
theorem dX5_streets_30 : decode cX5_streets 30 = .ok (.aload_n 0, 1) := by decide +kernel
theorem dX5_streets_31 : decode cX5_streets 31 = .ok (.iload_n 1, 1) := by decide +kernel
theorem dX5_streets_32 : decode cX5_streets 32 = .ok (.iload_n 2, 1) := by decide +kernel
theorem dX5_streets_33 : decode cX5_streets 33 = .ok (.invokevirtual 41, 3) := by decide +kernel
theorem dX5_streets_36 : decode cX5_streets 36 = .ok (.aload_n 0, 1) := by decide +kernel
theorem dX5_streets_37 : decode cX5_streets 37 = .ok (.invokevirtual 93, 3) := by decide +kernel
theorem dX5_streets_40 : decode cX5_streets 40 = .ok (.ireturn, 1) := by decide +kernel
theorem dX5_comes_0 : decode cX5_comes 0 = .ok (.bipush 9, 2) := by decide +kernel
theorem dX5_comes_2 : decode cX5_comes 2 = .ok (.iconst 5, 1) := by decide +kernel
theorem dX5_comes_3 : decode cX5_comes 3 = .ok (.aload_n 0, 1) := by decide +kernel
theorem dX5_comes_4 : decode cX5_comes 4 = .ok (.getfield 7, 3) := by decide +kernel
theorem dX5_comes_7 : decode cX5_comes 7 = .ok (.iconst 2, 1) := by decide +kernel
theorem dX5_comes_8 : decode cX5_comes 8 = .ok (.iaload, 1) := by decide +kernel
theorem dX5_comes_9 : decode cX5_comes 9 = .ok (.imul, 1) := by decide +kernel
theorem dX5_comes_10 : decode cX5_comes 10 = .ok (.iadd, 1) := by decide +kernel
theorem dX5_comes_11 : decode cX5_comes 11 = .ok (.istore 5, 2) := by decide +kernel
theorem dX5_comes_13 : decode cX5_comes 13 = .ok (.aload_n 0, 1) := by decide +kernel
theorem dX5_comes_14 : decode cX5_comes 14 = .ok (.getfield 7, 3) := by decide +kernel
theorem dX5_comes_17 : decode cX5_comes 17 = .ok (.iload 5, 2) := by decide +kernel
theorem dX5_comes_19 : decode cX5_comes 19 = .ok (.iload_n 1, 1) := by decide +kernel
theorem dX5_comes_20 : decode cX5_comes 20 = .ok (.iastore, 1) := by decide +kernel
theorem dX5_comes_21 : decode cX5_comes 21 = .ok (.aload_n 0, 1) := by decide +kernel
theorem dX5_comes_22 : decode cX5_comes 22 = .ok (.getfield 7, 3) := by decide +kernel
theorem dX5_comes_25 : decode cX5_comes 25 = .ok (.iload 5, 2) := by decide +kernel
theorem dX5_comes_27 : decode cX5_comes 27 = .ok (.iconst 1, 1) := by decide +kernel
theorem dX5_comes_28 : decode cX5_comes 28 = .ok (.iadd, 1) := by decide +kernel
theorem dX5_comes_29 : decode cX5_comes 29 = .ok (.iload_n 2, 1) := by decide +kernel
theorem dX5_comes_30 : decode cX5_comes 30 = .ok (.iastore, 1) := by decide +kernel
theorem dX5_comes_31 : decode cX5_comes 31 = .ok (.aload_n 0, 1) := by decide +kernel
theorem dX5_comes_32 : decode cX5_comes 32 = .ok (.getfield 7, 3) := by decide +kernel
theorem dX5_comes_35 : decode cX5_comes 35 = .ok (.iload 5, 2) := by decide +kernel
theorem dX5_comes_37 : decode cX5_comes 37 = .ok (.iconst 2, 1) := by decide +kernel
theorem dX5_comes_38 : decode cX5_comes 38 = .ok (.iadd, 1) := by decide +kernel
theorem dX5_comes_39 : decode cX5_comes 39 = .ok (.iload_n 3, 1) := by decide +kernel
theorem dX5_comes_40 : decode cX5_comes 40 = .ok (.iastore, 1) := by decide +kernel
theorem dX5_comes_41 : decode cX5_comes 41 = .ok (.aload_n 0, 1) := by decide +kernel
theorem dX5_comes_42 : decode cX5_comes 42 = .ok (.getfield 7, 3) := by decide +kernel
theorem dX5_comes_45 : decode cX5_comes 45 = .ok (.iload 5, 2) := by decide +kernel
theorem dX5_comes_47 : decode cX5_comes 47 = .ok (.iconst 3, 1) := by decide +kernel
theorem dX5_comes_48 : decode cX5_comes 48 = .ok (.iadd, 1) := by decide +kernel
theorem dX5_comes_49 : decode cX5_comes 49 = .ok (.iload 4, 2) := by decide +kernel
theorem dX5_comes_51 : decode cX5_comes 51 = .ok (.iastore, 1) := by decide +kernel
theorem dX5_comes_52 : decode cX5_comes 52 = .ok (.aload_n 0, 1) := by decide +kernel
theorem dX5_comes_53 : decode cX5_comes 53 = .ok (.getfield 7, 3) := by decide +kernel
theorem dX5_comes_56 : decode cX5_comes 56 = .ok (.iload 5, 2) := by decide +kernel
theorem dX5_comes_58 : decode cX5_comes 58 = .ok (.iconst 4, 1) := by decide +kernel
theorem dX5_comes_59 : decode cX5_comes 59 = .ok (.iadd, 1) := by decide +kernel
theorem dX5_comes_60 : decode cX5_comes 60 = .ok (.iconst 0, 1) := by decide +kernel
theorem dX5_comes_61 : decode cX5_comes 61 = .ok (.iastore, 1) := by decide +kernel
theorem dX5_comes_62 : decode cX5_comes 62 = .ok (.aload_n 0, 1) := by decide +kernel
theorem dX5_comes_63 : decode cX5_comes 63 = .ok (.getfield 7, 3) := by decide +kernel
theorem dX5_comes_66 : decode cX5_comes 66 = .ok (.iconst 2, 1) := by decide +kernel
theorem dX5_comes_67 : decode cX5_comes 67 = .ok (.dup2, 1) := by decide +kernel
theorem dX5_comes_68 : decode cX5_comes 68 = .ok (.iaload, 1) := by decide +kernel
theorem dX5_comes_69 : decode cX5_comes 69 = .ok (.iconst 1, 1) := by decide +kernel
theorem dX5_comes_70 : decode cX5_comes 70 = .ok (.iadd, 1) := by decide +kernel
theorem dX5_comes_71 : decode cX5_comes 71 = .ok (.iastore, 1) := by decide +kernel
theorem dX5_comes_72 : decode cX5_comes 72 = .ok (.aload_n 0, 1) := by decide +kernel
theorem dX5_comes_73 : decode cX5_comes 73 = .ok (.iconst 0, 1) := by decide +kernel
theorem dX5_comes_74 : decode cX5_comes 74 = .ok (.putfield 45, 3) := by decide +kernel
theorem dX5_comes_77 : decode cX5_comes 77 = .ok (.return_, 1) := by decide +kernel
theorem dX5_person_0 : decode cX5_person 0 = .ok (.iload_n 1, 1) := by decide +kernel
theorem dX5_person_1 : decode cX5_person 1 = .ok (.i2l, 1) := by decide +kernel
theorem dX5_person_2 : decode cX5_person 2 = .ok (.lconst 0, 1) := by decide +kernel
theorem dX5_person_3 : decode cX5_person 3 = .ok (.ldc2_w 97, 3) := by decide +kernel
theorem dX5_person_6 : decode cX5_person 6 = .ok (.invokestatic 49, 3) := by decide +kernel
theorem dX5_person_9 : decode cX5_person 9 = .ok (.ifCond .eq 44, 3) := by decide +kernel
theorem dX5_person_12 : decode cX5_person 12 = .ok (.iload_n 2, 1) := by decide +kernel
theorem dX5_person_13 : decode cX5_person 13 = .ok (.i2l, 1) := by decide +kernel
theorem dX5_person_14 : decode cX5_person 14 = .ok (.lconst 0, 1) := by decide +kernel
theorem dX5_person_15 : decode cX5_person 15 = .ok (.aload_n 0, 1) := by decide +kernel
theorem dX5_person_16 : decode cX5_person 16 = .ok (.invokevirtual 93, 3) := by decide +kernel
theorem dX5_person_19 : decode cX5_person 19 = .ok (.iconst 1, 1) := by decide +kernel
theorem dX5_person_20 : decode cX5_person 20 = .ok (.isub, 1) := by decide +kernel
theorem dX5_person_21 : decode cX5_person 21 = .ok (.i2l, 1) := by decide +kernel
theorem dX5_person_22 : decode cX5_person 22 = .ok (.invokestatic 49, 3) := by decide +kernel
theorem dX5_person_25 : decode cX5_person 25 = .ok (.ifCond .eq 28, 3) := by decide +kernel
theorem dX5_person_28 : decode cX5_person 28 = .ok (.iload_n 3, 1) := by decide +kernel
theorem dX5_person_29 : decode cX5_person 29 = .ok (.i2l, 1) := by decide +kernel
theorem dX5_person_30 : decode cX5_person 30 = .ok (.lconst 0, 1) := by decide +kernel
theorem dX5_person_31 : decode cX5_person 31 = .ok (.ldc2_w 99, 3) := by decide +kernel
theorem dX5_person_34 : decode cX5_person 34 = .ok (.invokestatic 49, 3) := by decide +kernel
theorem dX5_person_37 : decode cX5_person 37 = .ok (.ifCond .eq 16, 3) := by decide +kernel
theorem dX5_person_40 : decode cX5_person 40 = .ok (.iload 4, 2) := by decide +kernel
theorem dX5_person_42 : decode cX5_person 42 = .ok (.i2l, 1) := by decide +kernel
theorem dX5_person_43 : decode cX5_person 43 = .ok (.lconst 0, 1) := by decide +kernel
theorem dX5_person_44 : decode cX5_person 44 = .ok (.ldc2_w 101, 3) := by decide +kernel
theorem dX5_person_47 : decode cX5_person 47 = .ok (.invokestatic 49, 3) := by decide +kernel
theorem dX5_person_50 : decode cX5_person 50 = .ok (.ifCond .ne 5, 3) := by decide +kernel
theorem dX5_person_53 : decode cX5_person 53 = .ok (.iconst (-1), 1) := by decide +kernel
theorem dX5_person_54 : decode cX5_person 54 = .ok (.ireturn, 1) := by decide +kernel
theorem dX5_person_55 : decode cX5_person 55 = .ok (.aload_n 0, 1) := by decide +kernel
theorem dX5_person_56 : decode cX5_person 56 = .ok (.getfield 7, 3) := by decide +kernel
theorem dX5_person_59 : decode cX5_person 59 = .ok (.iconst 2, 1) := by decide +kernel
theorem dX5_person_60 : decode cX5_person 60 = .ok (.iaload, 1) := by decide +kernel
theorem dX5_person_61 : decode cX5_person 61 = .ok (.bipush 6, 2) := by decide +kernel
theorem dX5_person_63 : decode cX5_person 63 = .ok (.if_icmp .ne 6, 3) := by decide +kernel
theorem dX5_person_66 : decode cX5_person 66 = .ok (.bipush (-3), 2) := by decide +kernel
theorem dX5_person_68 : decode cX5_person 68 = .ok (.ireturn, 1) := by decide +kernel
theorem dX5_person_69 : decode cX5_person 69 = .ok (.aload_n 0, 1) := by decide +kernel
theorem dX5_person_70 : decode cX5_person 70 = .ok (.iload_n 1, 1) := by decide +kernel
theorem dX5_person_71 : decode cX5_person 71 = .ok (.iload_n 2, 1) := by decide +kernel
theorem dX5_person_72 : decode cX5_person 72 = .ok (.iload_n 3, 1) := by decide +kernel
theorem dX5_person_73 : decode cX5_person 73 = .ok (.iload 4, 2) := by decide +kernel
theorem dX5_person_75 : decode cX5_person 75 = .ok (.invokevirtual 103, 3) := by decide +kernel
theorem dX5_person_78 : decode cX5_person 78 = .ok (.aload_n 0, 1) := by decide +kernel
theorem dX5_person_79 : decode cX5_person 79 = .ok (.getfield 7, 3) := by decide +kernel
theorem dX5_person_82 : decode cX5_person 82 = .ok (.iconst 2, 1) := by decide +kernel
theorem dX5_person_83 : decode cX5_person 83 = .ok (.iaload, 1) := by decide +kernel
theorem dX5_person_84 : decode cX5_person 84 = .ok (.iconst 1, 1) := by decide +kernel
theorem dX5_person_85 : decode cX5_person 85 = .ok (.isub, 1) := by decide +kernel
theorem dX5_person_86 : decode cX5_person 86 = .ok (.ireturn, 1) := by decide +kernel
theorem dX5_of_0 : decode cX5_of 0 = .ok (.aload_n 0, 1) := by decide +kernel
theorem dX5_of_1 : decode cX5_of 1 = .ok (.iload_n 1, 1) := by decide +kernel
theorem dX5_of_2 : decode cX5_of 2 = .ok (.invokevirtual 107, 3) := by decide +kernel
theorem dX5_of_5 : decode cX5_of 5 = .ok (.ifCond .eq 15, 3) := by decide +kernel
theorem dX5_of_8 : decode cX5_of 8 = .ok (.iload_n 2, 1) := by decide +kernel
theorem dX5_of_9 : decode cX5_of 9 = .ok (.i2l, 1) := by decide +kernel
theorem dX5_of_10 : decode cX5_of 10 = .ok (.lconst 0, 1) := by decide +kernel
theorem dX5_of_11 : decode cX5_of 11 = .ok (.ldc2_w 110, 3) := by decide +kernel
theorem dX5_of_14 : decode cX5_of 14 = .ok (.invokestatic 49, 3) := by decide +kernel
theorem dX5_of_17 : decode cX5_of 17 = .ok (.ifCond .ne 5, 3) := by decide +kernel
theorem dX5_of_20 : decode cX5_of 20 = .ok (.iconst (-1), 1) := by decide +kernel
theorem dX5_of_21 : decode cX5_of 21 = .ok (.ireturn, 1) := by decide +kernel
theorem dX5_of_22 : decode cX5_of 22 = .ok (.iload_n 2, 1) := by decide +kernel
theorem dX5_of_23 : decode cX5_of 23 = .ok (.tableswitch 67 5 8 #[29, 43, 49, 55], 29) := by decide +kernel
theorem dX5_of_52 : decode cX5_of 52 = .ok (.aload_n 0, 1) := by decide +kernel
theorem dX5_of_53 : decode cX5_of 53 = .ok (.iload_n 1, 1) := by decide +kernel
theorem dX5_of_54 : decode cX5_of 54 = .ok (.invokevirtual 67, 3) := by decide +kernel
theorem dX5_of_57 : decode cX5_of 57 = .ok (.ifCond .eq 7, 3) := by decide +kernel
theorem dX5_of_60 : decode cX5_of 60 = .ok (.iconst 0, 1) := by decide +kernel
theorem dX5_of_61 : decode cX5_of 61 = .ok (.goto 4, 3) := by decide +kernel
theorem dX5_of_64 : decode cX5_of 64 = .ok (.iconst 1, 1) := by decide +kernel
theorem dX5_of_65 : decode cX5_of 65 = .ok (.ireturn, 1) := by decide +kernel
theorem dX5_of_66 : decode cX5_of 66 = .ok (.aload_n 0, 1) := by decide +kernel
theorem dX5_of_67 : decode cX5_of 67 = .ok (.iload_n 1, 1) := by decide +kernel
theorem dX5_of_68 : decode cX5_of 68 = .ok (.invokevirtual 60, 3) := by decide +kernel
theorem dX5_of_71 : decode cX5_of 71 = .ok (.ireturn, 1) := by decide +kernel
theorem dX5_of_72 : decode cX5_of 72 = .ok (.aload_n 0, 1) := by decide +kernel
theorem dX5_of_73 : decode cX5_of 73 = .ok (.iload_n 1, 1) := by decide +kernel
theorem dX5_of_74 : decode cX5_of 74 = .ok (.invokevirtual 71, 3) := by decide +kernel
theorem dX5_of_77 : decode cX5_of 77 = .ok (.ireturn, 1) := by decide +kernel
theorem dX5_of_78 : decode cX5_of 78 = .ok (.aload_n 0, 1) := by decide +kernel
theorem dX5_of_79 : decode cX5_of 79 = .ok (.iload_n 1, 1) := by decide +kernel
theorem dX5_of_80 : decode cX5_of 80 = .ok (.aload_n 0, 1) := by decide +kernel
theorem dX5_of_81 : decode cX5_of 81 = .ok (.iload_n 1, 1) := by decide +kernel
theorem dX5_of_82 : decode cX5_of 82 = .ok (.iconst 4, 1) := by decide +kernel
theorem dX5_of_83 : decode cX5_of 83 = .ok (.invokevirtual 53, 3) := by decide +kernel
theorem dX5_of_86 : decode cX5_of 86 = .ok (.invokevirtual 83, 3) := by decide +kernel
theorem dX5_of_89 : decode cX5_of 89 = .ok (.ireturn, 1) := by decide +kernel
theorem dX5_of_90 : decode cX5_of 90 = .ok (.aload_n 0, 1) := by decide +kernel
theorem dX5_of_91 : decode cX5_of 91 = .ok (.iload_n 1, 1) := by decide +kernel
theorem dX5_of_92 : decode cX5_of 92 = .ok (.iload_n 2, 1) := by decide +kernel
theorem dX5_of_93 : decode cX5_of 93 = .ok (.invokevirtual 53, 3) := by decide +kernel
theorem dX5_of_96 : decode cX5_of 96 = .ok (.ireturn, 1) := by decide +kernel
theorem dX5_rule_0 : decode cX5_rule 0 = .ok (.aload_n 0, 1) := by decide +kernel
theorem dX5_rule_1 : decode cX5_rule 1 = .ok (.iload_n 1, 1) := by decide +kernel
theorem dX5_rule_2 : decode cX5_rule 2 = .ok (.invokevirtual 107, 3) := by decide +kernel
theorem dX5_rule_5 : decode cX5_rule 5 = .ok (.ifCond .eq 35, 3) := by decide +kernel
theorem dX5_rule_8 : decode cX5_rule 8 = .ok (.iload_n 2, 1) := by decide +kernel
theorem dX5_rule_9 : decode cX5_rule 9 = .ok (.i2l, 1) := by decide +kernel
theorem dX5_rule_10 : decode cX5_rule 10 = .ok (.lconst 0, 1) := by decide +kernel
theorem dX5_rule_11 : decode cX5_rule 11 = .ok (.lconst 1, 1) := by decide +kernel
theorem dX5_rule_12 : decode cX5_rule 12 = .ok (.invokestatic 49, 3) := by decide +kernel
theorem dX5_rule_15 : decode cX5_rule 15 = .ok (.ifCond .eq 25, 3) := by decide +kernel
theorem dX5_rule_18 : decode cX5_rule 18 = .ok (.iload_n 3, 1) := by decide +kernel
theorem dX5_rule_19 : decode cX5_rule 19 = .ok (.i2l, 1) := by decide +kernel
theorem dX5_rule_20 : decode cX5_rule 20 = .ok (.lconst 0, 1) := by decide +kernel
theorem dX5_rule_21 : decode cX5_rule 21 = .ok (.iload_n 2, 1) := by decide +kernel
theorem dX5_rule_22 : decode cX5_rule 22 = .ok (.ifCond .ne 9, 3) := by decide +kernel
theorem dX5_rule_25 : decode cX5_rule 25 = .ok (.ldc2_w 99, 3) := by decide +kernel
theorem dX5_rule_28 : decode cX5_rule 28 = .ok (.goto 6, 3) := by decide +kernel
theorem dX5_rule_31 : decode cX5_rule 31 = .ok (.ldc2_w 101, 3) := by decide +kernel
theorem dX5_rule_34 : decode cX5_rule 34 = .ok (.invokestatic 49, 3) := by decide +kernel
theorem dX5_rule_37 : decode cX5_rule 37 = .ok (.ifCond .ne 5, 3) := by decide +kernel
theorem dX5_rule_40 : decode cX5_rule 40 = .ok (.iconst (-1), 1) := by decide +kernel
theorem dX5_rule_41 : decode cX5_rule 41 = .ok (.ireturn, 1) := by decide +kernel
theorem dX5_rule_42 : decode cX5_rule 42 = .ok (.bipush 9, 2) := by decide +kernel
theorem dX5_rule_44 : decode cX5_rule 44 = .ok (.iconst 5, 1) := by decide +kernel
theorem dX5_rule_45 : decode cX5_rule 45 = .ok (.iload_n 1, 1) := by decide +kernel
theorem dX5_rule_46 : decode cX5_rule 46 = .ok (.imul, 1) := by decide +kernel
theorem dX5_rule_47 : decode cX5_rule 47 = .ok (.iadd, 1) := by decide +kernel
theorem dX5_rule_48 : decode cX5_rule 48 = .ok (.iload_n 2, 1) := by decide +kernel
theorem dX5_rule_49 : decode cX5_rule 49 = .ok (.ifCond .ne 7, 3) := by decide +kernel
theorem dX5_rule_52 : decode cX5_rule 52 = .ok (.iconst 2, 1) := by decide +kernel
theorem dX5_rule_53 : decode cX5_rule 53 = .ok (.goto 4, 3) := by decide +kernel
theorem dX5_rule_56 : decode cX5_rule 56 = .ok (.iconst 4, 1) := by decide +kernel
theorem dX5_rule_57 : decode cX5_rule 57 = .ok (.iadd, 1) := by decide +kernel
theorem dX5_rule_58 : decode cX5_rule 58 = .ok (.istore 4, 2) := by decide +kernel
theorem dX5_rule_60 : decode cX5_rule 60 = .ok (.aload_n 0, 1) := by decide +kernel
theorem dX5_rule_61 : decode cX5_rule 61 = .ok (.getfield 7, 3) := by decide +kernel
theorem dX5_rule_64 : decode cX5_rule 64 = .ok (.iload 4, 2) := by decide +kernel
theorem dX5_rule_66 : decode cX5_rule 66 = .ok (.iaload, 1) := by decide +kernel
theorem dX5_rule_67 : decode cX5_rule 67 = .ok (.istore 5, 2) := by decide +kernel
theorem dX5_rule_69 : decode cX5_rule 69 = .ok (.aload_n 0, 1) := by decide +kernel
theorem dX5_rule_70 : decode cX5_rule 70 = .ok (.getfield 7, 3) := by decide +kernel
theorem dX5_rule_73 : decode cX5_rule 73 = .ok (.iload 4, 2) := by decide +kernel
theorem dX5_rule_75 : decode cX5_rule 75 = .ok (.iload_n 3, 1) := by decide +kernel
theorem dX5_rule_76 : decode cX5_rule 76 = .ok (.iastore, 1) := by decide +kernel
theorem dX5_rule_77 : decode cX5_rule 77 = .ok (.iload 5, 2) := by decide +kernel
theorem dX5_rule_79 : decode cX5_rule 79 = .ok (.ireturn, 1) := by decide +kernel
theorem dX5_count_0 : decode cX5_count 0 = .ok (.iload_n 1, 1) := by decide +kernel
theorem dX5_count_1 : decode cX5_count 1 = .ok (.i2l, 1) := by decide +kernel
theorem dX5_count_2 : decode cX5_count 2 = .ok (.lconst 0, 1) := by decide +kernel
theorem dX5_count_3 : decode cX5_count 3 = .ok (.ldc2_w 112, 3) := by decide +kernel
theorem dX5_count_6 : decode cX5_count 6 = .ok (.invokestatic 49, 3) := by decide +kernel
theorem dX5_count_9 : decode cX5_count 9 = .ok (.ifCond .eq 12, 3) := by decide +kernel
theorem dX5_count_12 : decode cX5_count 12 = .ok (.aload_n 0, 1) := by decide +kernel
theorem dX5_count_13 : decode cX5_count 13 = .ok (.getfield 7, 3) := by decide +kernel
theorem dX5_count_16 : decode cX5_count 16 = .ok (.iload_n 1, 1) := by decide +kernel
theorem dX5_count_17 : decode cX5_count 17 = .ok (.iaload, 1) := by decide +kernel
theorem dX5_count_18 : decode cX5_count 18 = .ok (.goto 31, 3) := by decide +kernel
theorem dX5_count_21 : decode cX5_count 21 = .ok (.iload_n 1, 1) := by decide +kernel
theorem dX5_count_22 : decode cX5_count 22 = .ok (.bipush 8, 2) := by decide +kernel
theorem dX5_count_24 : decode cX5_count 24 = .ok (.if_icmp .ne 11, 3) := by decide +kernel
theorem dX5_count_27 : decode cX5_count 27 = .ok (.aload_n 0, 1) := by decide +kernel
theorem dX5_count_28 : decode cX5_count 28 = .ok (.iconst 0, 1) := by decide +kernel
theorem dX5_count_29 : decode cX5_count 29 = .ok (.invokevirtual 74, 3) := by decide +kernel
theorem dX5_count_32 : decode cX5_count 32 = .ok (.goto 17, 3) := by decide +kernel
theorem dX5_count_35 : decode cX5_count 35 = .ok (.iload_n 1, 1) := by decide +kernel
theorem dX5_count_36 : decode cX5_count 36 = .ok (.bipush 9, 2) := by decide +kernel
theorem dX5_count_38 : decode cX5_count 38 = .ok (.if_icmp .ne 10, 3) := by decide +kernel
theorem dX5_count_41 : decode cX5_count 41 = .ok (.aload_n 0, 1) := by decide +kernel
theorem dX5_count_42 : decode cX5_count 42 = .ok (.getfield 45, 3) := by decide +kernel
theorem dX5_count_45 : decode cX5_count 45 = .ok (.goto 4, 3) := by decide +kernel
theorem dX5_count_48 : decode cX5_count 48 = .ok (.iconst (-1), 1) := by decide +kernel
theorem dX5_count_49 : decode cX5_count 49 = .ok (.ireturn, 1) := by decide +kernel
theorem dX5_type_0 : decode cX5_type 0 = .ok (.iload_n 1, 1) := by decide +kernel
theorem dX5_type_1 : decode cX5_type 1 = .ok (.i2l, 1) := by decide +kernel
theorem dX5_type_2 : decode cX5_type 2 = .ok (.ldc2_w 114, 3) := by decide +kernel
theorem dX5_type_5 : decode cX5_type 5 = .ok (.ldc2_w 116, 3) := by decide +kernel
theorem dX5_type_8 : decode cX5_type 8 = .ok (.invokestatic 49, 3) := by decide +kernel
theorem dX5_type_11 : decode cX5_type 11 = .ok (.ifCond .ne 5, 3) := by decide +kernel
theorem dX5_type_14 : decode cX5_type 14 = .ok (.iconst (-1), 1) := by decide +kernel
theorem dX5_type_15 : decode cX5_type 15 = .ok (.ireturn, 1) := by decide +kernel
theorem dX5_type_16 : decode cX5_type 16 = .ok (.aload_n 0, 1) := by decide +kernel
theorem dX5_type_17 : decode cX5_type 17 = .ok (.getfield 118, 3) := by decide +kernel
theorem dX5_type_20 : decode cX5_type 20 = .ok (.bipush 90, 2) := by decide +kernel
theorem dX5_type_22 : decode cX5_type 22 = .ok (.if_icmp .ne 6, 3) := by decide +kernel
theorem dX5_type_25 : decode cX5_type 25 = .ok (.bipush (-3), 2) := by decide +kernel
theorem dX5_type_27 : decode cX5_type 27 = .ok (.ireturn, 1) := by decide +kernel
theorem dX5_type_28 : decode cX5_type 28 = .ok (.aload_n 0, 1) := by decide +kernel
theorem dX5_type_29 : decode cX5_type 29 = .ok (.getfield 13, 3) := by decide +kernel
theorem dX5_type_32 : decode cX5_type 32 = .ok (.aload_n 0, 1) := by decide +kernel
theorem dX5_type_33 : decode cX5_type 33 = .ok (.getfield 118, 3) := by decide +kernel
theorem dX5_type_36 : decode cX5_type 36 = .ok (.iload_n 1, 1) := by decide +kernel
theorem dX5_type_37 : decode cX5_type 37 = .ok (.iastore, 1) := by decide +kernel
theorem dX5_type_38 : decode cX5_type 38 = .ok (.aload_n 0, 1) := by decide +kernel
theorem dX5_type_39 : decode cX5_type 39 = .ok (.dup, 1) := by decide +kernel
theorem dX5_type_40 : decode cX5_type 40 = .ok (.getfield 118, 3) := by decide +kernel
theorem dX5_type_43 : decode cX5_type 43 = .ok (.iconst 1, 1) := by decide +kernel
theorem dX5_type_44 : decode cX5_type 44 = .ok (.iadd, 1) := by decide +kernel
theorem dX5_type_45 : decode cX5_type 45 = .ok (.putfield 118, 3) := by decide +kernel
theorem dX5_type_48 : decode cX5_type 48 = .ok (.aload_n 0, 1) := by decide +kernel
theorem dX5_type_49 : decode cX5_type 49 = .ok (.getfield 118, 3) := by decide +kernel
theorem dX5_type_52 : decode cX5_type 52 = .ok (.ireturn, 1) := by decide +kernel
theorem dX5_here_0 : decode cX5_here 0 = .ok (.aload_n 0, 1) := by decide +kernel
theorem dX5_here_1 : decode cX5_here 1 = .ok (.getfield 121, 3) := by decide +kernel
theorem dX5_here_4 : decode cX5_here 4 = .ok (.aload_n 0, 1) := by decide +kernel
theorem dX5_here_5 : decode cX5_here 5 = .ok (.getfield 118, 3) := by decide +kernel
theorem dX5_here_8 : decode cX5_here 8 = .ok (.if_icmp .ge 30, 3) := by decide +kernel
theorem dX5_here_11 : decode cX5_here 11 = .ok (.aload_n 0, 1) := by decide +kernel
theorem dX5_here_12 : decode cX5_here 12 = .ok (.getfield 13, 3) := by decide +kernel
theorem dX5_here_15 : decode cX5_here 15 = .ok (.aload_n 0, 1) := by decide +kernel
theorem dX5_here_16 : decode cX5_here 16 = .ok (.getfield 121, 3) := by decide +kernel
theorem dX5_here_19 : decode cX5_here 19 = .ok (.iaload, 1) := by decide +kernel
theorem dX5_here_20 : decode cX5_here 20 = .ok (.bipush 32, 2) := by decide +kernel
theorem dX5_here_22 : decode cX5_here 22 = .ok (.if_icmp .ne 16, 3) := by decide +kernel
theorem dX5_here_25 : decode cX5_here 25 = .ok (.aload_n 0, 1) := by decide +kernel
theorem dX5_here_26 : decode cX5_here 26 = .ok (.dup, 1) := by decide +kernel
theorem dX5_here_27 : decode cX5_here 27 = .ok (.getfield 121, 3) := by decide +kernel
theorem dX5_here_30 : decode cX5_here 30 = .ok (.iconst 1, 1) := by decide +kernel
theorem dX5_here_31 : decode cX5_here 31 = .ok (.iadd, 1) := by decide +kernel
theorem dX5_here_32 : decode cX5_here 32 = .ok (.putfield 121, 3) := by decide +kernel
theorem dX5_here_35 : decode cX5_here 35 = .ok (.goto (-35), 3) := by decide +kernel
theorem dX5_here_38 : decode cX5_here 38 = .ok (.aload_n 0, 1) := by decide +kernel
theorem dX5_here_39 : decode cX5_here 39 = .ok (.getfield 121, 3) := by decide +kernel
theorem dX5_here_42 : decode cX5_here 42 = .ok (.aload_n 0, 1) := by decide +kernel
theorem dX5_here_43 : decode cX5_here 43 = .ok (.getfield 118, 3) := by decide +kernel
theorem dX5_here_46 : decode cX5_here 46 = .ok (.if_icmp .ge 15, 3) := by decide +kernel
theorem dX5_here_49 : decode cX5_here 49 = .ok (.aload_n 0, 1) := by decide +kernel
theorem dX5_here_50 : decode cX5_here 50 = .ok (.getfield 13, 3) := by decide +kernel
theorem dX5_here_53 : decode cX5_here 53 = .ok (.aload_n 0, 1) := by decide +kernel
theorem dX5_here_54 : decode cX5_here 54 = .ok (.getfield 121, 3) := by decide +kernel
theorem dX5_here_57 : decode cX5_here 57 = .ok (.iaload, 1) := by decide +kernel
theorem dX5_here_58 : decode cX5_here 58 = .ok (.goto 4, 3) := by decide +kernel
theorem dX5_here_61 : decode cX5_here 61 = .ok (.iconst 0, 1) := by decide +kernel
theorem dX5_here_62 : decode cX5_here 62 = .ok (.ireturn, 1) := by decide +kernel
theorem dX5_must_0 : decode cX5_must 0 = .ok (.aload_n 0, 1) := by decide +kernel
theorem dX5_must_1 : decode cX5_must 1 = .ok (.aload_n 0, 1) := by decide +kernel
theorem dX5_must_2 : decode cX5_must 2 = .ok (.getfield 124, 3) := by decide +kernel
theorem dX5_must_5 : decode cX5_must 5 = .ok (.ifCond .ne 7, 3) := by decide +kernel
theorem dX5_must_8 : decode cX5_must 8 = .ok (.iload_n 1, 1) := by decide +kernel
theorem dX5_must_9 : decode cX5_must 9 = .ok (.ifCond .ne 7, 3) := by decide +kernel
theorem dX5_must_12 : decode cX5_must 12 = .ok (.iconst 1, 1) := by decide +kernel
theorem dX5_must_13 : decode cX5_must 13 = .ok (.goto 4, 3) := by decide +kernel
theorem dX5_must_16 : decode cX5_must 16 = .ok (.iconst 0, 1) := by decide +kernel
theorem dX5_must_17 : decode cX5_must 17 = .ok (.putfield 124, 3) := by decide +kernel
theorem dX5_must_20 : decode cX5_must 20 = .ok (.aload_n 0, 1) := by decide +kernel
theorem dX5_must_21 : decode cX5_must 21 = .ok (.dup, 1) := by decide +kernel
theorem dX5_must_22 : decode cX5_must 22 = .ok (.getfield 121, 3) := by decide +kernel
theorem dX5_must_25 : decode cX5_must 25 = .ok (.aload_n 0, 1) := by decide +kernel
theorem dX5_must_26 : decode cX5_must 26 = .ok (.getfield 124, 3) := by decide +kernel
theorem dX5_must_29 : decode cX5_must 29 = .ok (.ifCond .eq 7, 3) := by decide +kernel
theorem dX5_must_32 : decode cX5_must 32 = .ok (.iconst 0, 1) := by decide +kernel
theorem dX5_must_33 : decode cX5_must 33 = .ok (.goto 4, 3) := by decide +kernel
theorem dX5_must_36 : decode cX5_must 36 = .ok (.iconst 1, 1) := by decide +kernel
theorem dX5_must_37 : decode cX5_must 37 = .ok (.iadd, 1) := by decide +kernel
theorem dX5_must_38 : decode cX5_must 38 = .ok (.putfield 121, 3) := by decide +kernel
theorem dX5_must_41 : decode cX5_must 41 = .ok (.return_, 1) := by decide +kernel
theorem dX5_digit_0 : decode cX5_digit 0 = .ok (.aload_n 0, 1) := by decide +kernel
theorem dX5_digit_1 : decode cX5_digit 1 = .ok (.getfield 124, 3) := by decide +kernel
theorem dX5_digit_4 : decode cX5_digit 4 = .ok (.ifCond .eq 7, 3) := by decide +kernel
theorem dX5_digit_7 : decode cX5_digit 7 = .ok (.iconst (-1), 1) := by decide +kernel
theorem dX5_digit_8 : decode cX5_digit 8 = .ok (.goto 10, 3) := by decide +kernel
theorem dX5_digit_11 : decode cX5_digit 11 = .ok (.aload_n 0, 1) := by decide +kernel
theorem dX5_digit_12 : decode cX5_digit 12 = .ok (.invokevirtual 128, 3) := by decide +kernel
theorem dX5_digit_15 : decode cX5_digit 15 = .ok (.bipush 48, 2) := by decide +kernel
theorem dX5_digit_17 : decode cX5_digit 17 = .ok (.isub, 1) := by decide +kernel
theorem dX5_digit_18 : decode cX5_digit 18 = .ok (.istore_n 3, 1) := by decide +kernel
theorem dX5_digit_19 : decode cX5_digit 19 = .ok (.aload_n 0, 1) := by decide +kernel
theorem dX5_digit_20 : decode cX5_digit 20 = .ok (.iload_n 3, 1) := by decide +kernel
theorem dX5_digit_21 : decode cX5_digit 21 = .ok (.i2l, 1) := by decide +kernel
theorem dX5_digit_22 : decode cX5_digit 22 = .ok (.iload_n 1, 1) := by decide +kernel
theorem dX5_digit_23 : decode cX5_digit 23 = .ok (.i2l, 1) := by decide +kernel
theorem dX5_digit_24 : decode cX5_digit 24 = .ok (.iload_n 2, 1) := by decide +kernel
theorem dX5_digit_25 : decode cX5_digit 25 = .ok (.i2l, 1) := by decide +kernel
theorem dX5_digit_26 : decode cX5_digit 26 = .ok (.invokestatic 49, 3) := by decide +kernel
theorem dX5_digit_29 : decode cX5_digit 29 = .ok (.invokevirtual 131, 3) := by decide +kernel
theorem dX5_digit_32 : decode cX5_digit 32 = .ok (.iload_n 3, 1) := by decide +kernel
theorem dX5_digit_33 : decode cX5_digit 33 = .ok (.ireturn, 1) := by decide +kernel
theorem dX5_sign_0 : decode cX5_sign 0 = .ok (.aload_n 0, 1) := by decide +kernel
theorem dX5_sign_1 : decode cX5_sign 1 = .ok (.aload_n 0, 1) := by decide +kernel
theorem dX5_sign_2 : decode cX5_sign 2 = .ok (.getfield 124, 3) := by decide +kernel
theorem dX5_sign_5 : decode cX5_sign 5 = .ok (.ifCond .ne 15, 3) := by decide +kernel
theorem dX5_sign_8 : decode cX5_sign 8 = .ok (.aload_n 0, 1) := by decide +kernel
theorem dX5_sign_9 : decode cX5_sign 9 = .ok (.invokevirtual 128, 3) := by decide +kernel
theorem dX5_sign_12 : decode cX5_sign 12 = .ok (.iload_n 1, 1) := by decide +kernel
theorem dX5_sign_13 : decode cX5_sign 13 = .ok (.if_icmp .ne 7, 3) := by decide +kernel
theorem dX5_sign_16 : decode cX5_sign 16 = .ok (.iconst 1, 1) := by decide +kernel
theorem dX5_sign_17 : decode cX5_sign 17 = .ok (.goto 4, 3) := by decide +kernel
theorem dX5_sign_20 : decode cX5_sign 20 = .ok (.iconst 0, 1) := by decide +kernel
theorem dX5_sign_21 : decode cX5_sign 21 = .ok (.invokevirtual 131, 3) := by decide +kernel
theorem dX5_sign_24 : decode cX5_sign 24 = .ok (.return_, 1) := by decide +kernel
theorem dX5_readFace_0 : decode cX5_readFace 0 = .ok (.iconst 0, 1) := by decide +kernel
theorem dX5_readFace_1 : decode cX5_readFace 1 = .ok (.istore_n 1, 1) := by decide +kernel
theorem dX5_readFace_2 : decode cX5_readFace 2 = .ok (.aload_n 0, 1) := by decide +kernel
theorem dX5_readFace_3 : decode cX5_readFace 3 = .ok (.getfield 124, 3) := by decide +kernel
theorem dX5_readFace_6 : decode cX5_readFace 6 = .ok (.ifCond .eq 7, 3) := by decide +kernel
theorem dX5_readFace_9 : decode cX5_readFace 9 = .ok (.iconst (-1), 1) := by decide +kernel
theorem dX5_readFace_10 : decode cX5_readFace 10 = .ok (.goto 10, 3) := by decide +kernel
theorem dX5_readFace_13 : decode cX5_readFace 13 = .ok (.aload_n 0, 1) := by decide +kernel
theorem dX5_readFace_14 : decode cX5_readFace 14 = .ok (.invokevirtual 128, 3) := by decide +kernel
theorem dX5_readFace_17 : decode cX5_readFace 17 = .ok (.bipush 97, 2) := by decide +kernel
theorem dX5_readFace_19 : decode cX5_readFace 19 = .ok (.isub, 1) := by decide +kernel
theorem dX5_readFace_20 : decode cX5_readFace 20 = .ok (.istore_n 2, 1) := by decide +kernel
theorem dX5_readFace_21 : decode cX5_readFace 21 = .ok (.iload_n 2, 1) := by decide +kernel
theorem dX5_readFace_22 : decode cX5_readFace 22 = .ok (.i2l, 1) := by decide +kernel
theorem dX5_readFace_23 : decode cX5_readFace 23 = .ok (.lconst 0, 1) := by decide +kernel
theorem dX5_readFace_24 : decode cX5_readFace 24 = .ok (.ldc2_w 135, 3) := by decide +kernel
theorem dX5_readFace_27 : decode cX5_readFace 27 = .ok (.invokestatic 49, 3) := by decide +kernel
theorem dX5_readFace_30 : decode cX5_readFace 30 = .ok (.ifCond .eq 37, 3) := by decide +kernel
theorem dX5_readFace_33 : decode cX5_readFace 33 = .ok (.iconst 1, 1) := by decide +kernel
theorem dX5_readFace_34 : decode cX5_readFace 34 = .ok (.iload_n 2, 1) := by decide +kernel
theorem dX5_readFace_35 : decode cX5_readFace 35 = .ok (.ishl, 1) := by decide +kernel
theorem dX5_readFace_36 : decode cX5_readFace 36 = .ok (.iload_n 1, 1) := by decide +kernel
theorem dX5_readFace_37 : decode cX5_readFace 37 = .ok (.if_icmp .le 30, 3) := by decide +kernel
theorem dX5_readFace_40 : decode cX5_readFace 40 = .ok (.iload_n 1, 1) := by decide +kernel
theorem dX5_readFace_41 : decode cX5_readFace 41 = .ok (.iconst 1, 1) := by decide +kernel
theorem dX5_readFace_42 : decode cX5_readFace 42 = .ok (.iload_n 2, 1) := by decide +kernel
theorem dX5_readFace_43 : decode cX5_readFace 43 = .ok (.ishl, 1) := by decide +kernel
theorem dX5_readFace_44 : decode cX5_readFace 44 = .ok (.ior, 1) := by decide +kernel
theorem dX5_readFace_45 : decode cX5_readFace 45 = .ok (.istore_n 1, 1) := by decide +kernel
theorem dX5_readFace_46 : decode cX5_readFace 46 = .ok (.aload_n 0, 1) := by decide +kernel
theorem dX5_readFace_47 : decode cX5_readFace 47 = .ok (.dup, 1) := by decide +kernel
theorem dX5_readFace_48 : decode cX5_readFace 48 = .ok (.getfield 121, 3) := by decide +kernel
theorem dX5_readFace_51 : decode cX5_readFace 51 = .ok (.iconst 1, 1) := by decide +kernel
theorem dX5_readFace_52 : decode cX5_readFace 52 = .ok (.iadd, 1) := by decide +kernel
theorem dX5_readFace_53 : decode cX5_readFace 53 = .ok (.putfield 121, 3) := by decide +kernel
theorem dX5_readFace_56 : decode cX5_readFace 56 = .ok (.aload_n 0, 1) := by decide +kernel
theorem dX5_readFace_57 : decode cX5_readFace 57 = .ok (.invokevirtual 128, 3) := by decide +kernel
theorem dX5_readFace_60 : decode cX5_readFace 60 = .ok (.bipush 97, 2) := by decide +kernel
theorem dX5_readFace_62 : decode cX5_readFace 62 = .ok (.isub, 1) := by decide +kernel
theorem dX5_readFace_63 : decode cX5_readFace 63 = .ok (.istore_n 2, 1) := by decide +kernel
theorem dX5_readFace_64 : decode cX5_readFace 64 = .ok (.goto (-43), 3) := by decide +kernel
theorem dX5_readFace_67 : decode cX5_readFace 67 = .ok (.iload_n 1, 1) := by decide +kernel
theorem dX5_readFace_68 : decode cX5_readFace 68 = .ok (.ireturn, 1) := by decide +kernel
theorem dX5_readPeople_0 : decode cX5_readPeople 0 = .ok (.iconst 0, 1) := by decide +kernel
theorem dX5_readPeople_1 : decode cX5_readPeople 1 = .ok (.istore_n 3, 1) := by decide +kernel
theorem dX5_readPeople_2 : decode cX5_readPeople 2 = .ok (.aload_n 0, 1) := by decide +kernel
theorem dX5_readPeople_3 : decode cX5_readPeople 3 = .ok (.getfield 124, 3) := by decide +kernel
theorem dX5_readPeople_6 : decode cX5_readPeople 6 = .ok (.ifCond .ne 223, 3) := by decide +kernel
theorem dX5_readPeople_9 : decode cX5_readPeople 9 = .ok (.iload_n 3, 1) := by decide +kernel
theorem dX5_readPeople_10 : decode cX5_readPeople 10 = .ok (.ifCond .eq 12, 3) := by decide +kernel
theorem dX5_readPeople_13 : decode cX5_readPeople 13 = .ok (.aload_n 0, 1) := by decide +kernel
theorem dX5_readPeople_14 : decode cX5_readPeople 14 = .ok (.invokevirtual 128, 3) := by decide +kernel
theorem dX5_readPeople_17 : decode cX5_readPeople 17 = .ok (.bipush 44, 2) := by decide +kernel
theorem dX5_readPeople_19 : decode cX5_readPeople 19 = .ok (.if_icmp .ne 210, 3) := by decide +kernel
theorem dX5_readPeople_22 : decode cX5_readPeople 22 = .ok (.iload_n 3, 1) := by decide +kernel
theorem dX5_readPeople_23 : decode cX5_readPeople 23 = .ok (.ifCond .le 18, 3) := by decide +kernel
theorem dX5_readPeople_26 : decode cX5_readPeople 26 = .ok (.aload_n 0, 1) := by decide +kernel
theorem dX5_readPeople_27 : decode cX5_readPeople 27 = .ok (.iload_n 3, 1) := by decide +kernel
theorem dX5_readPeople_28 : decode cX5_readPeople 28 = .ok (.bipush 6, 2) := by decide +kernel
theorem dX5_readPeople_30 : decode cX5_readPeople 30 = .ok (.if_icmp .ge 7, 3) := by decide +kernel
theorem dX5_readPeople_33 : decode cX5_readPeople 33 = .ok (.iconst 1, 1) := by decide +kernel
theorem dX5_readPeople_34 : decode cX5_readPeople 34 = .ok (.goto 4, 3) := by decide +kernel
theorem dX5_readPeople_37 : decode cX5_readPeople 37 = .ok (.iconst 0, 1) := by decide +kernel
theorem dX5_readPeople_38 : decode cX5_readPeople 38 = .ok (.invokevirtual 131, 3) := by decide +kernel
theorem dX5_readPeople_41 : decode cX5_readPeople 41 = .ok (.aload_n 0, 1) := by decide +kernel
theorem dX5_readPeople_42 : decode cX5_readPeople 42 = .ok (.getfield 124, 3) := by decide +kernel
theorem dX5_readPeople_45 : decode cX5_readPeople 45 = .ok (.ifCond .eq 7, 3) := by decide +kernel
theorem dX5_readPeople_48 : decode cX5_readPeople 48 = .ok (.iconst 0, 1) := by decide +kernel
theorem dX5_readPeople_49 : decode cX5_readPeople 49 = .ok (.goto 7, 3) := by decide +kernel
theorem dX5_readPeople_52 : decode cX5_readPeople 52 = .ok (.aload_n 0, 1) := by decide +kernel
theorem dX5_readPeople_53 : decode cX5_readPeople 53 = .ok (.invokevirtual 128, 3) := by decide +kernel
theorem dX5_readPeople_56 : decode cX5_readPeople 56 = .ok (.istore 4, 2) := by decide +kernel
theorem dX5_readPeople_58 : decode cX5_readPeople 58 = .ok (.iload 4, 2) := by decide +kernel
theorem dX5_readPeople_60 : decode cX5_readPeople 60 = .ok (.bipush 112, 2) := by decide +kernel
theorem dX5_readPeople_62 : decode cX5_readPeople 62 = .ok (.if_icmp .ne 7, 3) := by decide +kernel
theorem dX5_readPeople_65 : decode cX5_readPeople 65 = .ok (.iconst 0, 1) := by decide +kernel
theorem dX5_readPeople_66 : decode cX5_readPeople 66 = .ok (.goto 48, 3) := by decide +kernel
theorem dX5_readPeople_69 : decode cX5_readPeople 69 = .ok (.iload 4, 2) := by decide +kernel
theorem dX5_readPeople_71 : decode cX5_readPeople 71 = .ok (.bipush 115, 2) := by decide +kernel
theorem dX5_readPeople_73 : decode cX5_readPeople 73 = .ok (.if_icmp .ne 7, 3) := by decide +kernel
theorem dX5_readPeople_76 : decode cX5_readPeople 76 = .ok (.iconst 1, 1) := by decide +kernel
theorem dX5_readPeople_77 : decode cX5_readPeople 77 = .ok (.goto 37, 3) := by decide +kernel
theorem dX5_readPeople_80 : decode cX5_readPeople 80 = .ok (.iload 4, 2) := by decide +kernel
theorem dX5_readPeople_82 : decode cX5_readPeople 82 = .ok (.bipush 98, 2) := by decide +kernel
theorem dX5_readPeople_84 : decode cX5_readPeople 84 = .ok (.if_icmp .ne 7, 3) := by decide +kernel
theorem dX5_readPeople_87 : decode cX5_readPeople 87 = .ok (.iconst 2, 1) := by decide +kernel
theorem dX5_readPeople_88 : decode cX5_readPeople 88 = .ok (.goto 26, 3) := by decide +kernel
theorem dX5_readPeople_91 : decode cX5_readPeople 91 = .ok (.iload 4, 2) := by decide +kernel
theorem dX5_readPeople_93 : decode cX5_readPeople 93 = .ok (.bipush 104, 2) := by decide +kernel
theorem dX5_readPeople_95 : decode cX5_readPeople 95 = .ok (.if_icmp .ne 7, 3) := by decide +kernel
theorem dX5_readPeople_98 : decode cX5_readPeople 98 = .ok (.iconst 3, 1) := by decide +kernel
theorem dX5_readPeople_99 : decode cX5_readPeople 99 = .ok (.goto 15, 3) := by decide +kernel
theorem dX5_readPeople_102 : decode cX5_readPeople 102 = .ok (.iload 4, 2) := by decide +kernel
theorem dX5_readPeople_104 : decode cX5_readPeople 104 = .ok (.bipush 108, 2) := by decide +kernel
theorem dX5_readPeople_106 : decode cX5_readPeople 106 = .ok (.if_icmp .ne 7, 3) := by decide +kernel
theorem dX5_readPeople_109 : decode cX5_readPeople 109 = .ok (.iconst 4, 1) := by decide +kernel
theorem dX5_readPeople_110 : decode cX5_readPeople 110 = .ok (.goto 4, 3) := by decide +kernel
theorem dX5_readPeople_113 : decode cX5_readPeople 113 = .ok (.iconst (-1), 1) := by decide +kernel
theorem dX5_readPeople_114 : decode cX5_readPeople 114 = .ok (.istore 5, 2) := by decide +kernel
theorem dX5_readPeople_116 : decode cX5_readPeople 116 = .ok (.aload_n 0, 1) := by decide +kernel
theorem dX5_readPeople_117 : decode cX5_readPeople 117 = .ok (.iload 5, 2) := by decide +kernel
theorem dX5_readPeople_119 : decode cX5_readPeople 119 = .ok (.ifCond .lt 7, 3) := by decide +kernel
theorem dX5_readPeople_122 : decode cX5_readPeople 122 = .ok (.iconst 1, 1) := by decide +kernel
theorem dX5_readPeople_123 : decode cX5_readPeople 123 = .ok (.goto 4, 3) := by decide +kernel
theorem dX5_readPeople_126 : decode cX5_readPeople 126 = .ok (.iconst 0, 1) := by decide +kernel
theorem dX5_readPeople_127 : decode cX5_readPeople 127 = .ok (.invokevirtual 131, 3) := by decide +kernel
theorem dX5_readPeople_130 : decode cX5_readPeople 130 = .ok (.aload_n 0, 1) := by decide +kernel
theorem dX5_readPeople_131 : decode cX5_readPeople 131 = .ok (.iconst 0, 1) := by decide +kernel
theorem dX5_readPeople_132 : decode cX5_readPeople 132 = .ok (.iload_n 1, 1) := by decide +kernel
theorem dX5_readPeople_133 : decode cX5_readPeople 133 = .ok (.iconst 1, 1) := by decide +kernel
theorem dX5_readPeople_134 : decode cX5_readPeople 134 = .ok (.isub, 1) := by decide +kernel
theorem dX5_readPeople_135 : decode cX5_readPeople 135 = .ok (.invokevirtual 137, 3) := by decide +kernel
theorem dX5_readPeople_138 : decode cX5_readPeople 138 = .ok (.istore 6, 2) := by decide +kernel
theorem dX5_readPeople_140 : decode cX5_readPeople 140 = .ok (.aload_n 0, 1) := by decide +kernel
theorem dX5_readPeople_141 : decode cX5_readPeople 141 = .ok (.iconst 0, 1) := by decide +kernel
theorem dX5_readPeople_142 : decode cX5_readPeople 142 = .ok (.iload_n 2, 1) := by decide +kernel
theorem dX5_readPeople_143 : decode cX5_readPeople 143 = .ok (.iconst 1, 1) := by decide +kernel
theorem dX5_readPeople_144 : decode cX5_readPeople 144 = .ok (.isub, 1) := by decide +kernel
theorem dX5_readPeople_145 : decode cX5_readPeople 145 = .ok (.invokevirtual 137, 3) := by decide +kernel
theorem dX5_readPeople_148 : decode cX5_readPeople 148 = .ok (.istore 7, 2) := by decide +kernel
theorem dX5_readPeople_150 : decode cX5_readPeople 150 = .ok (.aload_n 0, 1) := by decide +kernel
theorem dX5_readPeople_151 : decode cX5_readPeople 151 = .ok (.iconst 0, 1) := by decide +kernel
theorem dX5_readPeople_152 : decode cX5_readPeople 152 = .ok (.bipush 9, 2) := by decide +kernel
theorem dX5_readPeople_154 : decode cX5_readPeople 154 = .ok (.invokevirtual 137, 3) := by decide +kernel
theorem dX5_readPeople_157 : decode cX5_readPeople 157 = .ok (.istore 8, 2) := by decide +kernel
theorem dX5_readPeople_159 : decode cX5_readPeople 159 = .ok (.aload_n 0, 1) := by decide +kernel
theorem dX5_readPeople_160 : decode cX5_readPeople 160 = .ok (.invokevirtual 140, 3) := by decide +kernel
theorem dX5_readPeople_163 : decode cX5_readPeople 163 = .ok (.istore 9, 2) := by decide +kernel
theorem dX5_readPeople_165 : decode cX5_readPeople 165 = .ok (.aload_n 0, 1) := by decide +kernel
theorem dX5_readPeople_166 : decode cX5_readPeople 166 = .ok (.getfield 124, 3) := by decide +kernel
theorem dX5_readPeople_169 : decode cX5_readPeople 169 = .ok (.ifCond .ne 54, 3) := by decide +kernel
theorem dX5_readPeople_172 : decode cX5_readPeople 172 = .ok (.aload_n 0, 1) := by decide +kernel
theorem dX5_readPeople_173 : decode cX5_readPeople 173 = .ok (.getfield 16, 3) := by decide +kernel
theorem dX5_readPeople_176 : decode cX5_readPeople 176 = .ok (.iconst 4, 1) := by decide +kernel
theorem dX5_readPeople_177 : decode cX5_readPeople 177 = .ok (.iload_n 3, 1) := by decide +kernel
theorem dX5_readPeople_178 : decode cX5_readPeople 178 = .ok (.imul, 1) := by decide +kernel
theorem dX5_readPeople_179 : decode cX5_readPeople 179 = .ok (.iload 5, 2) := by decide +kernel
theorem dX5_readPeople_181 : decode cX5_readPeople 181 = .ok (.iastore, 1) := by decide +kernel
theorem dX5_readPeople_182 : decode cX5_readPeople 182 = .ok (.aload_n 0, 1) := by decide +kernel
theorem dX5_readPeople_183 : decode cX5_readPeople 183 = .ok (.getfield 16, 3) := by decide +kernel
theorem dX5_readPeople_186 : decode cX5_readPeople 186 = .ok (.iconst 4, 1) := by decide +kernel
theorem dX5_readPeople_187 : decode cX5_readPeople 187 = .ok (.iload_n 3, 1) := by decide +kernel
theorem dX5_readPeople_188 : decode cX5_readPeople 188 = .ok (.imul, 1) := by decide +kernel
theorem dX5_readPeople_189 : decode cX5_readPeople 189 = .ok (.iconst 1, 1) := by decide +kernel
theorem dX5_readPeople_190 : decode cX5_readPeople 190 = .ok (.iadd, 1) := by decide +kernel
theorem dX5_readPeople_191 : decode cX5_readPeople 191 = .ok (.iload 6, 2) := by decide +kernel
theorem dX5_readPeople_193 : decode cX5_readPeople 193 = .ok (.iload_n 2, 1) := by decide +kernel
theorem dX5_readPeople_194 : decode cX5_readPeople 194 = .ok (.imul, 1) := by decide +kernel
theorem dX5_readPeople_195 : decode cX5_readPeople 195 = .ok (.iload 7, 2) := by decide +kernel
theorem dX5_readPeople_197 : decode cX5_readPeople 197 = .ok (.iadd, 1) := by decide +kernel
theorem dX5_readPeople_198 : decode cX5_readPeople 198 = .ok (.iastore, 1) := by decide +kernel
theorem dX5_readPeople_199 : decode cX5_readPeople 199 = .ok (.aload_n 0, 1) := by decide +kernel
theorem dX5_readPeople_200 : decode cX5_readPeople 200 = .ok (.getfield 16, 3) := by decide +kernel
theorem dX5_readPeople_203 : decode cX5_readPeople 203 = .ok (.iconst 4, 1) := by decide +kernel
theorem dX5_readPeople_204 : decode cX5_readPeople 204 = .ok (.iload_n 3, 1) := by decide +kernel
theorem dX5_readPeople_205 : decode cX5_readPeople 205 = .ok (.imul, 1) := by decide +kernel
theorem dX5_readPeople_206 : decode cX5_readPeople 206 = .ok (.iconst 2, 1) := by decide +kernel
theorem dX5_readPeople_207 : decode cX5_readPeople 207 = .ok (.iadd, 1) := by decide +kernel
theorem dX5_readPeople_208 : decode cX5_readPeople 208 = .ok (.iload 8, 2) := by decide +kernel
theorem dX5_readPeople_210 : decode cX5_readPeople 210 = .ok (.iastore, 1) := by decide +kernel
theorem dX5_readPeople_211 : decode cX5_readPeople 211 = .ok (.aload_n 0, 1) := by decide +kernel
theorem dX5_readPeople_212 : decode cX5_readPeople 212 = .ok (.getfield 16, 3) := by decide +kernel
theorem dX5_readPeople_215 : decode cX5_readPeople 215 = .ok (.iconst 4, 1) := by decide +kernel
theorem dX5_readPeople_216 : decode cX5_readPeople 216 = .ok (.iload_n 3, 1) := by decide +kernel
theorem dX5_readPeople_217 : decode cX5_readPeople 217 = .ok (.imul, 1) := by decide +kernel
theorem dX5_readPeople_218 : decode cX5_readPeople 218 = .ok (.iconst 3, 1) := by decide +kernel
theorem dX5_readPeople_219 : decode cX5_readPeople 219 = .ok (.iadd, 1) := by decide +kernel
theorem dX5_readPeople_220 : decode cX5_readPeople 220 = .ok (.iload 9, 2) := by decide +kernel
theorem dX5_readPeople_222 : decode cX5_readPeople 222 = .ok (.iastore, 1) := by decide +kernel
theorem dX5_readPeople_223 : decode cX5_readPeople 223 = .ok (.iinc 3 1, 3) := by decide +kernel
theorem dX5_readPeople_226 : decode cX5_readPeople 226 = .ok (.goto (-224), 3) := by decide +kernel
theorem dX5_readPeople_229 : decode cX5_readPeople 229 = .ok (.iload_n 3, 1) := by decide +kernel
theorem dX5_readPeople_230 : decode cX5_readPeople 230 = .ok (.ireturn, 1) := by decide +kernel
theorem dX5_city_0 : decode cX5_city 0 = .ok (.aload_n 0, 1) := by decide +kernel
theorem dX5_city_1 : decode cX5_city 1 = .ok (.iconst 0, 1) := by decide +kernel
theorem dX5_city_2 : decode cX5_city 2 = .ok (.putfield 121, 3) := by decide +kernel
theorem dX5_city_5 : decode cX5_city 5 = .ok (.aload_n 0, 1) := by decide +kernel
theorem dX5_city_6 : decode cX5_city 6 = .ok (.iconst 0, 1) := by decide +kernel
theorem dX5_city_7 : decode cX5_city 7 = .ok (.putfield 124, 3) := by decide +kernel
theorem dX5_city_10 : decode cX5_city 10 = .ok (.aload_n 0, 1) := by decide +kernel
theorem dX5_city_11 : decode cX5_city 11 = .ok (.iconst 2, 1) := by decide +kernel
theorem dX5_city_12 : decode cX5_city 12 = .ok (.bipush 6, 2) := by decide +kernel
theorem dX5_city_14 : decode cX5_city 14 = .ok (.invokevirtual 137, 3) := by decide +kernel
theorem dX5_city_17 : decode cX5_city 17 = .ok (.istore_n 1, 1) := by decide +kernel
theorem dX5_city_18 : decode cX5_city 18 = .ok (.aload_n 0, 1) := by decide +kernel
theorem dX5_city_19 : decode cX5_city 19 = .ok (.bipush 120, 2) := by decide +kernel
theorem dX5_city_21 : decode cX5_city 21 = .ok (.invokevirtual 143, 3) := by decide +kernel
theorem dX5_city_24 : decode cX5_city 24 = .ok (.aload_n 0, 1) := by decide +kernel
theorem dX5_city_25 : decode cX5_city 25 = .ok (.iconst 2, 1) := by decide +kernel
theorem dX5_city_26 : decode cX5_city 26 = .ok (.bipush 6, 2) := by decide +kernel
theorem dX5_city_28 : decode cX5_city 28 = .ok (.invokevirtual 137, 3) := by decide +kernel
theorem dX5_city_31 : decode cX5_city 31 = .ok (.istore_n 2, 1) := by decide +kernel
theorem dX5_city_32 : decode cX5_city 32 = .ok (.aload_n 0, 1) := by decide +kernel
theorem dX5_city_33 : decode cX5_city 33 = .ok (.bipush 64, 2) := by decide +kernel
theorem dX5_city_35 : decode cX5_city 35 = .ok (.invokevirtual 143, 3) := by decide +kernel
theorem dX5_city_38 : decode cX5_city 38 = .ok (.aload_n 0, 1) := by decide +kernel
theorem dX5_city_39 : decode cX5_city 39 = .ok (.iconst 0, 1) := by decide +kernel
theorem dX5_city_40 : decode cX5_city 40 = .ok (.iload_n 1, 1) := by decide +kernel
theorem dX5_city_41 : decode cX5_city 41 = .ok (.iconst 1, 1) := by decide +kernel
theorem dX5_city_42 : decode cX5_city 42 = .ok (.isub, 1) := by decide +kernel
theorem dX5_city_43 : decode cX5_city 43 = .ok (.invokevirtual 137, 3) := by decide +kernel
theorem dX5_city_46 : decode cX5_city 46 = .ok (.istore_n 3, 1) := by decide +kernel
theorem dX5_city_47 : decode cX5_city 47 = .ok (.aload_n 0, 1) := by decide +kernel
theorem dX5_city_48 : decode cX5_city 48 = .ok (.iconst 0, 1) := by decide +kernel
theorem dX5_city_49 : decode cX5_city 49 = .ok (.iload_n 2, 1) := by decide +kernel
theorem dX5_city_50 : decode cX5_city 50 = .ok (.iconst 1, 1) := by decide +kernel
theorem dX5_city_51 : decode cX5_city 51 = .ok (.isub, 1) := by decide +kernel
theorem dX5_city_52 : decode cX5_city 52 = .ok (.invokevirtual 137, 3) := by decide +kernel
theorem dX5_city_55 : decode cX5_city 55 = .ok (.istore 4, 2) := by decide +kernel
theorem dX5_city_57 : decode cX5_city 57 = .ok (.aload_n 0, 1) := by decide +kernel
theorem dX5_city_58 : decode cX5_city 58 = .ok (.bipush 59, 2) := by decide +kernel
theorem dX5_city_60 : decode cX5_city 60 = .ok (.invokevirtual 143, 3) := by decide +kernel
theorem dX5_city_63 : decode cX5_city 63 = .ok (.aload_n 0, 1) := by decide +kernel
theorem dX5_city_64 : decode cX5_city 64 = .ok (.iload_n 1, 1) := by decide +kernel
theorem dX5_city_65 : decode cX5_city 65 = .ok (.iload_n 2, 1) := by decide +kernel
theorem dX5_city_66 : decode cX5_city 66 = .ok (.invokevirtual 147, 3) := by decide +kernel
theorem dX5_city_69 : decode cX5_city 69 = .ok (.istore 5, 2) := by decide +kernel
theorem dX5_city_71 : decode cX5_city 71 = .ok (.aload_n 0, 1) := by decide +kernel
theorem dX5_city_72 : decode cX5_city 72 = .ok (.aload_n 0, 1) := by decide +kernel
theorem dX5_city_73 : decode cX5_city 73 = .ok (.getfield 124, 3) := by decide +kernel
theorem dX5_city_76 : decode cX5_city 76 = .ok (.ifCond .ne 10, 3) := by decide +kernel
theorem dX5_city_79 : decode cX5_city 79 = .ok (.aload_n 0, 1) := by decide +kernel
theorem dX5_city_80 : decode cX5_city 80 = .ok (.invokevirtual 128, 3) := by decide +kernel
theorem dX5_city_83 : decode cX5_city 83 = .ok (.ifCond .eq 7, 3) := by decide +kernel
theorem dX5_city_86 : decode cX5_city 86 = .ok (.iconst 1, 1) := by decide +kernel
theorem dX5_city_87 : decode cX5_city 87 = .ok (.goto 4, 3) := by decide +kernel
theorem dX5_city_90 : decode cX5_city 90 = .ok (.iconst 0, 1) := by decide +kernel
theorem dX5_city_91 : decode cX5_city 91 = .ok (.putfield 124, 3) := by decide +kernel
theorem dX5_city_94 : decode cX5_city 94 = .ok (.aload_n 0, 1) := by decide +kernel
theorem dX5_city_95 : decode cX5_city 95 = .ok (.iconst 0, 1) := by decide +kernel
theorem dX5_city_96 : decode cX5_city 96 = .ok (.putfield 118, 3) := by decide +kernel
theorem dX5_city_99 : decode cX5_city 99 = .ok (.aload_n 0, 1) := by decide +kernel
theorem dX5_city_100 : decode cX5_city 100 = .ok (.getfield 124, 3) := by decide +kernel
theorem dX5_city_103 : decode cX5_city 103 = .ok (.ifCond .eq 11, 3) := by decide +kernel
theorem dX5_city_106 : decode cX5_city 106 = .ok (.bipush (-20), 2) := by decide +kernel
theorem dX5_city_108 : decode cX5_city 108 = .ok (.aload_n 0, 1) := by decide +kernel
theorem dX5_city_109 : decode cX5_city 109 = .ok (.getfield 121, 3) := by decide +kernel
theorem dX5_city_112 : decode cX5_city 112 = .ok (.isub, 1) := by decide +kernel
theorem dX5_city_113 : decode cX5_city 113 = .ok (.ireturn, 1) := by decide +kernel
theorem dX5_city_114 : decode cX5_city 114 = .ok (.aload_n 0, 1) := by decide +kernel
theorem dX5_city_115 : decode cX5_city 115 = .ok (.iload_n 1, 1) := by decide +kernel
theorem dX5_city_116 : decode cX5_city 116 = .ok (.iload_n 2, 1) := by decide +kernel
theorem dX5_city_117 : decode cX5_city 117 = .ok (.invokevirtual 41, 3) := by decide +kernel
theorem dX5_city_120 : decode cX5_city 120 = .ok (.aload_n 0, 1) := by decide +kernel
theorem dX5_city_121 : decode cX5_city 121 = .ok (.getfield 7, 3) := by decide +kernel
theorem dX5_city_124 : decode cX5_city 124 = .ok (.iconst 3, 1) := by decide +kernel
theorem dX5_city_125 : decode cX5_city 125 = .ok (.iload_n 3, 1) := by decide +kernel
theorem dX5_city_126 : decode cX5_city 126 = .ok (.iload_n 2, 1) := by decide +kernel
theorem dX5_city_127 : decode cX5_city 127 = .ok (.imul, 1) := by decide +kernel
theorem dX5_city_128 : decode cX5_city 128 = .ok (.iload 4, 2) := by decide +kernel
theorem dX5_city_130 : decode cX5_city 130 = .ok (.iadd, 1) := by decide +kernel
theorem dX5_city_131 : decode cX5_city 131 = .ok (.iastore, 1) := by decide +kernel
theorem dX5_city_132 : decode cX5_city 132 = .ok (.iconst 0, 1) := by decide +kernel
theorem dX5_city_133 : decode cX5_city 133 = .ok (.istore 6, 2) := by decide +kernel
theorem dX5_city_135 : decode cX5_city 135 = .ok (.iload 6, 2) := by decide +kernel
theorem dX5_city_137 : decode cX5_city 137 = .ok (.iload 5, 2) := by decide +kernel
theorem dX5_city_139 : decode cX5_city 139 = .ok (.if_icmp .ge 55, 3) := by decide +kernel
theorem dX5_city_142 : decode cX5_city 142 = .ok (.aload_n 0, 1) := by decide +kernel
theorem dX5_city_143 : decode cX5_city 143 = .ok (.aload_n 0, 1) := by decide +kernel
theorem dX5_city_144 : decode cX5_city 144 = .ok (.getfield 16, 3) := by decide +kernel
theorem dX5_city_147 : decode cX5_city 147 = .ok (.iconst 4, 1) := by decide +kernel
theorem dX5_city_148 : decode cX5_city 148 = .ok (.iload 6, 2) := by decide +kernel
theorem dX5_city_150 : decode cX5_city 150 = .ok (.imul, 1) := by decide +kernel
theorem dX5_city_151 : decode cX5_city 151 = .ok (.iaload, 1) := by decide +kernel
theorem dX5_city_152 : decode cX5_city 152 = .ok (.aload_n 0, 1) := by decide +kernel
theorem dX5_city_153 : decode cX5_city 153 = .ok (.getfield 16, 3) := by decide +kernel
theorem dX5_city_156 : decode cX5_city 156 = .ok (.iconst 4, 1) := by decide +kernel
theorem dX5_city_157 : decode cX5_city 157 = .ok (.iload 6, 2) := by decide +kernel
theorem dX5_city_159 : decode cX5_city 159 = .ok (.imul, 1) := by decide +kernel
theorem dX5_city_160 : decode cX5_city 160 = .ok (.iconst 1, 1) := by decide +kernel
theorem dX5_city_161 : decode cX5_city 161 = .ok (.iadd, 1) := by decide +kernel
theorem dX5_city_162 : decode cX5_city 162 = .ok (.iaload, 1) := by decide +kernel
theorem dX5_city_163 : decode cX5_city 163 = .ok (.aload_n 0, 1) := by decide +kernel
theorem dX5_city_164 : decode cX5_city 164 = .ok (.getfield 16, 3) := by decide +kernel
theorem dX5_city_167 : decode cX5_city 167 = .ok (.iconst 4, 1) := by decide +kernel
theorem dX5_city_168 : decode cX5_city 168 = .ok (.iload 6, 2) := by decide +kernel
theorem dX5_city_170 : decode cX5_city 170 = .ok (.imul, 1) := by decide +kernel
theorem dX5_city_171 : decode cX5_city 171 = .ok (.iconst 2, 1) := by decide +kernel
theorem dX5_city_172 : decode cX5_city 172 = .ok (.iadd, 1) := by decide +kernel
theorem dX5_city_173 : decode cX5_city 173 = .ok (.iaload, 1) := by decide +kernel
theorem dX5_city_174 : decode cX5_city 174 = .ok (.aload_n 0, 1) := by decide +kernel
theorem dX5_city_175 : decode cX5_city 175 = .ok (.getfield 16, 3) := by decide +kernel
theorem dX5_city_178 : decode cX5_city 178 = .ok (.iconst 4, 1) := by decide +kernel
theorem dX5_city_179 : decode cX5_city 179 = .ok (.iload 6, 2) := by decide +kernel
theorem dX5_city_181 : decode cX5_city 181 = .ok (.imul, 1) := by decide +kernel
theorem dX5_city_182 : decode cX5_city 182 = .ok (.iconst 3, 1) := by decide +kernel
theorem dX5_city_183 : decode cX5_city 183 = .ok (.iadd, 1) := by decide +kernel
theorem dX5_city_184 : decode cX5_city 184 = .ok (.iaload, 1) := by decide +kernel
theorem dX5_city_185 : decode cX5_city 185 = .ok (.invokevirtual 103, 3) := by decide +kernel
theorem dX5_city_188 : decode cX5_city 188 = .ok (.iinc 6 1, 3) := by decide +kernel
theorem dX5_city_191 : decode cX5_city 191 = .ok (.goto (-56), 3) := by decide +kernel
theorem dX5_city_194 : decode cX5_city 194 = .ok (.iload 5, 2) := by decide +kernel
theorem dX5_city_196 : decode cX5_city 196 = .ok (.ireturn, 1) := by decide +kernel
theorem dX5_notes_0 : decode cX5_notes 0 = .ok (.aload_n 0, 1) := by decide +kernel
theorem dX5_notes_1 : decode cX5_notes 1 = .ok (.getfield 45, 3) := by decide +kernel
theorem dX5_notes_4 : decode cX5_notes 4 = .ok (.bipush 8, 2) := by decide +kernel
theorem dX5_notes_6 : decode cX5_notes 6 = .ok (.if_icmp .ne 39, 3) := by decide +kernel
theorem dX5_notes_9 : decode cX5_notes 9 = .ok (.bipush 12, 2) := by decide +kernel
theorem dX5_notes_11 : decode cX5_notes 11 = .ok (.istore_n 1, 1) := by decide +kernel
theorem dX5_notes_12 : decode cX5_notes 12 = .ok (.iload_n 1, 1) := by decide +kernel
theorem dX5_notes_13 : decode cX5_notes 13 = .ok (.bipush 96, 2) := by decide +kernel
theorem dX5_notes_15 : decode cX5_notes 15 = .ok (.if_icmp .ge 24, 3) := by decide +kernel
theorem dX5_notes_18 : decode cX5_notes 18 = .ok (.aload_n 0, 1) := by decide +kernel
theorem dX5_notes_19 : decode cX5_notes 19 = .ok (.getfield 19, 3) := by decide +kernel
theorem dX5_notes_22 : decode cX5_notes 22 = .ok (.iload_n 1, 1) := by decide +kernel
theorem dX5_notes_23 : decode cX5_notes 23 = .ok (.bipush 12, 2) := by decide +kernel
theorem dX5_notes_25 : decode cX5_notes 25 = .ok (.isub, 1) := by decide +kernel
theorem dX5_notes_26 : decode cX5_notes 26 = .ok (.aload_n 0, 1) := by decide +kernel
theorem dX5_notes_27 : decode cX5_notes 27 = .ok (.getfield 19, 3) := by decide +kernel
theorem dX5_notes_30 : decode cX5_notes 30 = .ok (.iload_n 1, 1) := by decide +kernel
theorem dX5_notes_31 : decode cX5_notes 31 = .ok (.iaload, 1) := by decide +kernel
theorem dX5_notes_32 : decode cX5_notes 32 = .ok (.iastore, 1) := by decide +kernel
theorem dX5_notes_33 : decode cX5_notes 33 = .ok (.iinc 1 1, 3) := by decide +kernel
theorem dX5_notes_36 : decode cX5_notes 36 = .ok (.goto (-24), 3) := by decide +kernel
theorem dX5_notes_39 : decode cX5_notes 39 = .ok (.aload_n 0, 1) := by decide +kernel
theorem dX5_notes_40 : decode cX5_notes 40 = .ok (.bipush 7, 2) := by decide +kernel
theorem dX5_notes_42 : decode cX5_notes 42 = .ok (.putfield 45, 3) := by decide +kernel
theorem dX5_notes_45 : decode cX5_notes 45 = .ok (.bipush 12, 2) := by decide +kernel
theorem dX5_notes_47 : decode cX5_notes 47 = .ok (.aload_n 0, 1) := by decide +kernel
theorem dX5_notes_48 : decode cX5_notes 48 = .ok (.getfield 45, 3) := by decide +kernel
theorem dX5_notes_51 : decode cX5_notes 51 = .ok (.imul, 1) := by decide +kernel
theorem dX5_notes_52 : decode cX5_notes 52 = .ok (.istore_n 1, 1) := by decide +kernel
theorem dX5_notes_53 : decode cX5_notes 53 = .ok (.iconst 0, 1) := by decide +kernel
theorem dX5_notes_54 : decode cX5_notes 54 = .ok (.istore_n 2, 1) := by decide +kernel
theorem dX5_notes_55 : decode cX5_notes 55 = .ok (.iload_n 2, 1) := by decide +kernel
theorem dX5_notes_56 : decode cX5_notes 56 = .ok (.bipush 6, 2) := by decide +kernel
theorem dX5_notes_58 : decode cX5_notes 58 = .ok (.if_icmp .ge 42, 3) := by decide +kernel
theorem dX5_notes_61 : decode cX5_notes 61 = .ok (.aload_n 0, 1) := by decide +kernel
theorem dX5_notes_62 : decode cX5_notes 62 = .ok (.getfield 19, 3) := by decide +kernel
theorem dX5_notes_65 : decode cX5_notes 65 = .ok (.iload_n 1, 1) := by decide +kernel
theorem dX5_notes_66 : decode cX5_notes 66 = .ok (.iload_n 2, 1) := by decide +kernel
theorem dX5_notes_67 : decode cX5_notes 67 = .ok (.iadd, 1) := by decide +kernel
theorem dX5_notes_68 : decode cX5_notes 68 = .ok (.aload_n 0, 1) := by decide +kernel
theorem dX5_notes_69 : decode cX5_notes 69 = .ok (.getfield 7, 3) := by decide +kernel
theorem dX5_notes_72 : decode cX5_notes 72 = .ok (.iconst 3, 1) := by decide +kernel
theorem dX5_notes_73 : decode cX5_notes 73 = .ok (.iload_n 2, 1) := by decide +kernel
theorem dX5_notes_74 : decode cX5_notes 74 = .ok (.iadd, 1) := by decide +kernel
theorem dX5_notes_75 : decode cX5_notes 75 = .ok (.iaload, 1) := by decide +kernel
theorem dX5_notes_76 : decode cX5_notes 76 = .ok (.iastore, 1) := by decide +kernel
theorem dX5_notes_77 : decode cX5_notes 77 = .ok (.aload_n 0, 1) := by decide +kernel
theorem dX5_notes_78 : decode cX5_notes 78 = .ok (.getfield 19, 3) := by decide +kernel
theorem dX5_notes_81 : decode cX5_notes 81 = .ok (.iload_n 1, 1) := by decide +kernel
theorem dX5_notes_82 : decode cX5_notes 82 = .ok (.bipush 6, 2) := by decide +kernel
theorem dX5_notes_84 : decode cX5_notes 84 = .ok (.iadd, 1) := by decide +kernel
theorem dX5_notes_85 : decode cX5_notes 85 = .ok (.iload_n 2, 1) := by decide +kernel
theorem dX5_notes_86 : decode cX5_notes 86 = .ok (.iadd, 1) := by decide +kernel
theorem dX5_notes_87 : decode cX5_notes 87 = .ok (.aload_n 0, 1) := by decide +kernel
theorem dX5_notes_88 : decode cX5_notes 88 = .ok (.iload_n 2, 1) := by decide +kernel
theorem dX5_notes_89 : decode cX5_notes 89 = .ok (.iconst 1, 1) := by decide +kernel
theorem dX5_notes_90 : decode cX5_notes 90 = .ok (.invokevirtual 53, 3) := by decide +kernel
theorem dX5_notes_93 : decode cX5_notes 93 = .ok (.iastore, 1) := by decide +kernel
theorem dX5_notes_94 : decode cX5_notes 94 = .ok (.iinc 2 1, 3) := by decide +kernel
theorem dX5_notes_97 : decode cX5_notes 97 = .ok (.goto (-42), 3) := by decide +kernel
theorem dX5_notes_100 : decode cX5_notes 100 = .ok (.aload_n 0, 1) := by decide +kernel
theorem dX5_notes_101 : decode cX5_notes 101 = .ok (.dup, 1) := by decide +kernel
theorem dX5_notes_102 : decode cX5_notes 102 = .ok (.getfield 45, 3) := by decide +kernel
theorem dX5_notes_105 : decode cX5_notes 105 = .ok (.iconst 1, 1) := by decide +kernel
theorem dX5_notes_106 : decode cX5_notes 106 = .ok (.iadd, 1) := by decide +kernel
theorem dX5_notes_107 : decode cX5_notes 107 = .ok (.putfield 45, 3) := by decide +kernel
theorem dX5_notes_110 : decode cX5_notes 110 = .ok (.return_, 1) := by decide +kernel
theorem dX5_minutes_0 : decode cX5_minutes 0 = .ok (.iload_n 1, 1) := by decide +kernel
theorem dX5_minutes_1 : decode cX5_minutes 1 = .ok (.i2l, 1) := by decide +kernel
theorem dX5_minutes_2 : decode cX5_minutes 2 = .ok (.lconst 1, 1) := by decide +kernel
theorem dX5_minutes_3 : decode cX5_minutes 3 = .ok (.ldc2_w 150, 3) := by decide +kernel
theorem dX5_minutes_6 : decode cX5_minutes 6 = .ok (.invokestatic 49, 3) := by decide +kernel
theorem dX5_minutes_9 : decode cX5_minutes 9 = .ok (.ifCond .ne 5, 3) := by decide +kernel
theorem dX5_minutes_12 : decode cX5_minutes 12 = .ok (.iconst (-1), 1) := by decide +kernel
theorem dX5_minutes_13 : decode cX5_minutes 13 = .ok (.ireturn, 1) := by decide +kernel
theorem dX5_minutes_14 : decode cX5_minutes 14 = .ok (.aload_n 0, 1) := by decide +kernel
theorem dX5_minutes_15 : decode cX5_minutes 15 = .ok (.getfield 7, 3) := by decide +kernel
theorem dX5_minutes_18 : decode cX5_minutes 18 = .ok (.iconst 4, 1) := by decide +kernel
theorem dX5_minutes_19 : decode cX5_minutes 19 = .ok (.iaload, 1) := by decide +kernel
theorem dX5_minutes_20 : decode cX5_minutes 20 = .ok (.iload_n 1, 1) := by decide +kernel
theorem dX5_minutes_21 : decode cX5_minutes 21 = .ok (.iadd, 1) := by decide +kernel
theorem dX5_minutes_22 : decode cX5_minutes 22 = .ok (.sipush 9999, 3) := by decide +kernel
theorem dX5_minutes_25 : decode cX5_minutes 25 = .ok (.if_icmp .le 6, 3) := by decide +kernel
theorem dX5_minutes_28 : decode cX5_minutes 28 = .ok (.bipush (-3), 2) := by decide +kernel
theorem dX5_minutes_30 : decode cX5_minutes 30 = .ok (.ireturn, 1) := by decide +kernel
theorem dX5_minutes_31 : decode cX5_minutes 31 = .ok (.iconst 0, 1) := by decide +kernel
theorem dX5_minutes_32 : decode cX5_minutes 32 = .ok (.istore_n 2, 1) := by decide +kernel
theorem dX5_minutes_33 : decode cX5_minutes 33 = .ok (.iload_n 2, 1) := by decide +kernel
theorem dX5_minutes_34 : decode cX5_minutes 34 = .ok (.iload_n 1, 1) := by decide +kernel
theorem dX5_minutes_35 : decode cX5_minutes 35 = .ok (.if_icmp .ge 18, 3) := by decide +kernel
theorem dX5_minutes_38 : decode cX5_minutes 38 = .ok (.aload_n 0, 1) := by decide +kernel
theorem dX5_minutes_39 : decode cX5_minutes 39 = .ok (.invokevirtual 152, 3) := by decide +kernel
theorem dX5_minutes_42 : decode cX5_minutes 42 = .ok (.aload_n 0, 1) := by decide +kernel
theorem dX5_minutes_43 : decode cX5_minutes 43 = .ok (.invokevirtual 155, 3) := by decide +kernel
theorem dX5_minutes_46 : decode cX5_minutes 46 = .ok (.pop, 1) := by decide +kernel
theorem dX5_minutes_47 : decode cX5_minutes 47 = .ok (.iinc 2 1, 3) := by decide +kernel
theorem dX5_minutes_50 : decode cX5_minutes 50 = .ok (.goto (-17), 3) := by decide +kernel
theorem dX5_minutes_53 : decode cX5_minutes 53 = .ok (.aload_n 0, 1) := by decide +kernel
theorem dX5_minutes_54 : decode cX5_minutes 54 = .ok (.getfield 7, 3) := by decide +kernel
theorem dX5_minutes_57 : decode cX5_minutes 57 = .ok (.iconst 5, 1) := by decide +kernel
theorem dX5_minutes_58 : decode cX5_minutes 58 = .ok (.iaload, 1) := by decide +kernel
theorem dX5_minutes_59 : decode cX5_minutes 59 = .ok (.ireturn, 1) := by decide +kernel
theorem dX5_beside_0 : decode cX5_beside 0 = .ok (.aload_n 0, 1) := by decide +kernel
theorem dX5_beside_1 : decode cX5_beside 1 = .ok (.getfield 7, 3) := by decide +kernel
theorem dX5_beside_4 : decode cX5_beside 4 = .ok (.iconst 1, 1) := by decide +kernel
theorem dX5_beside_5 : decode cX5_beside 5 = .ok (.iaload, 1) := by decide +kernel
theorem dX5_beside_6 : decode cX5_beside 6 = .ok (.istore_n 3, 1) := by decide +kernel
theorem dX5_beside_7 : decode cX5_beside 7 = .ok (.iload_n 1, 1) := by decide +kernel
theorem dX5_beside_8 : decode cX5_beside 8 = .ok (.iload_n 3, 1) := by decide +kernel
theorem dX5_beside_9 : decode cX5_beside 9 = .ok (.idiv, 1) := by decide +kernel
theorem dX5_beside_10 : decode cX5_beside 10 = .ok (.iload_n 2, 1) := by decide +kernel
theorem dX5_beside_11 : decode cX5_beside 11 = .ok (.ifCond .ne 7, 3) := by decide +kernel
theorem dX5_beside_14 : decode cX5_beside 14 = .ok (.iconst (-1), 1) := by decide +kernel
theorem dX5_beside_15 : decode cX5_beside 15 = .ok (.goto 13, 3) := by decide +kernel
theorem dX5_beside_18 : decode cX5_beside 18 = .ok (.iload_n 2, 1) := by decide +kernel
theorem dX5_beside_19 : decode cX5_beside 19 = .ok (.iconst 1, 1) := by decide +kernel
theorem dX5_beside_20 : decode cX5_beside 20 = .ok (.if_icmp .ne 7, 3) := by decide +kernel
theorem dX5_beside_23 : decode cX5_beside 23 = .ok (.iconst 1, 1) := by decide +kernel
theorem dX5_beside_24 : decode cX5_beside 24 = .ok (.goto 4, 3) := by decide +kernel
theorem dX5_beside_27 : decode cX5_beside 27 = .ok (.iconst 0, 1) := by decide +kernel
theorem dX5_beside_28 : decode cX5_beside 28 = .ok (.iadd, 1) := by decide +kernel
theorem dX5_beside_29 : decode cX5_beside 29 = .ok (.istore 4, 2) := by decide +kernel
theorem dX5_beside_31 : decode cX5_beside 31 = .ok (.iload_n 1, 1) := by decide +kernel
theorem dX5_beside_32 : decode cX5_beside 32 = .ok (.iload_n 3, 1) := by decide +kernel
theorem dX5_beside_33 : decode cX5_beside 33 = .ok (.irem, 1) := by decide +kernel
theorem dX5_beside_34 : decode cX5_beside 34 = .ok (.iload_n 2, 1) := by decide +kernel
theorem dX5_beside_35 : decode cX5_beside 35 = .ok (.iconst 2, 1) := by decide +kernel
theorem dX5_beside_36 : decode cX5_beside 36 = .ok (.if_icmp .ne 7, 3) := by decide +kernel
theorem dX5_beside_39 : decode cX5_beside 39 = .ok (.iconst (-1), 1) := by decide +kernel
theorem dX5_beside_40 : decode cX5_beside 40 = .ok (.goto 13, 3) := by decide +kernel
theorem dX5_beside_43 : decode cX5_beside 43 = .ok (.iload_n 2, 1) := by decide +kernel
theorem dX5_beside_44 : decode cX5_beside 44 = .ok (.iconst 3, 1) := by decide +kernel
theorem dX5_beside_45 : decode cX5_beside 45 = .ok (.if_icmp .ne 7, 3) := by decide +kernel
theorem dX5_beside_48 : decode cX5_beside 48 = .ok (.iconst 1, 1) := by decide +kernel
theorem dX5_beside_49 : decode cX5_beside 49 = .ok (.goto 4, 3) := by decide +kernel
theorem dX5_beside_52 : decode cX5_beside 52 = .ok (.iconst 0, 1) := by decide +kernel
theorem dX5_beside_53 : decode cX5_beside 53 = .ok (.iadd, 1) := by decide +kernel
theorem dX5_beside_54 : decode cX5_beside 54 = .ok (.istore 5, 2) := by decide +kernel
theorem dX5_beside_56 : decode cX5_beside 56 = .ok (.iload 4, 2) := by decide +kernel
theorem dX5_beside_58 : decode cX5_beside 58 = .ok (.i2l, 1) := by decide +kernel
theorem dX5_beside_59 : decode cX5_beside 59 = .ok (.lconst 0, 1) := by decide +kernel
theorem dX5_beside_60 : decode cX5_beside 60 = .ok (.aload_n 0, 1) := by decide +kernel
theorem dX5_beside_61 : decode cX5_beside 61 = .ok (.getfield 7, 3) := by decide +kernel
theorem dX5_beside_64 : decode cX5_beside 64 = .ok (.iconst 0, 1) := by decide +kernel
theorem dX5_beside_65 : decode cX5_beside 65 = .ok (.iaload, 1) := by decide +kernel
theorem dX5_beside_66 : decode cX5_beside 66 = .ok (.iconst 1, 1) := by decide +kernel
theorem dX5_beside_67 : decode cX5_beside 67 = .ok (.isub, 1) := by decide +kernel
theorem dX5_beside_68 : decode cX5_beside 68 = .ok (.i2l, 1) := by decide +kernel
theorem dX5_beside_69 : decode cX5_beside 69 = .ok (.invokestatic 49, 3) := by decide +kernel
theorem dX5_beside_72 : decode cX5_beside 72 = .ok (.ifCond .eq 27, 3) := by decide +kernel
theorem dX5_beside_75 : decode cX5_beside 75 = .ok (.iload 5, 2) := by decide +kernel
theorem dX5_beside_77 : decode cX5_beside 77 = .ok (.i2l, 1) := by decide +kernel
theorem dX5_beside_78 : decode cX5_beside 78 = .ok (.lconst 0, 1) := by decide +kernel
theorem dX5_beside_79 : decode cX5_beside 79 = .ok (.iload_n 3, 1) := by decide +kernel
theorem dX5_beside_80 : decode cX5_beside 80 = .ok (.iconst 1, 1) := by decide +kernel
theorem dX5_beside_81 : decode cX5_beside 81 = .ok (.isub, 1) := by decide +kernel
theorem dX5_beside_82 : decode cX5_beside 82 = .ok (.i2l, 1) := by decide +kernel
theorem dX5_beside_83 : decode cX5_beside 83 = .ok (.invokestatic 49, 3) := by decide +kernel
theorem dX5_beside_86 : decode cX5_beside 86 = .ok (.ifCond .eq 13, 3) := by decide +kernel
theorem dX5_beside_89 : decode cX5_beside 89 = .ok (.iload 4, 2) := by decide +kernel
theorem dX5_beside_91 : decode cX5_beside 91 = .ok (.iload_n 3, 1) := by decide +kernel
theorem dX5_beside_92 : decode cX5_beside 92 = .ok (.imul, 1) := by decide +kernel
theorem dX5_beside_93 : decode cX5_beside 93 = .ok (.iload 5, 2) := by decide +kernel
theorem dX5_beside_95 : decode cX5_beside 95 = .ok (.iadd, 1) := by decide +kernel
theorem dX5_beside_96 : decode cX5_beside 96 = .ok (.goto 5, 3) := by decide +kernel
theorem dX5_beside_99 : decode cX5_beside 99 = .ok (.bipush (-4), 2) := by decide +kernel
theorem dX5_beside_101 : decode cX5_beside 101 = .ok (.ireturn, 1) := by decide +kernel
theorem dX5_walk_0 : decode cX5_walk 0 = .ok (.aload_n 0, 1) := by decide +kernel
theorem dX5_walk_1 : decode cX5_walk 1 = .ok (.iload_n 1, 1) := by decide +kernel
theorem dX5_walk_2 : decode cX5_walk 2 = .ok (.invokevirtual 107, 3) := by decide +kernel
theorem dX5_walk_5 : decode cX5_walk 5 = .ok (.ifCond .eq 15, 3) := by decide +kernel
theorem dX5_walk_8 : decode cX5_walk 8 = .ok (.iload_n 2, 1) := by decide +kernel
theorem dX5_walk_9 : decode cX5_walk 9 = .ok (.i2l, 1) := by decide +kernel
theorem dX5_walk_10 : decode cX5_walk 10 = .ok (.lconst 0, 1) := by decide +kernel
theorem dX5_walk_11 : decode cX5_walk 11 = .ok (.ldc2_w 159, 3) := by decide +kernel
theorem dX5_walk_14 : decode cX5_walk 14 = .ok (.invokestatic 49, 3) := by decide +kernel
theorem dX5_walk_17 : decode cX5_walk 17 = .ok (.ifCond .ne 5, 3) := by decide +kernel
theorem dX5_walk_20 : decode cX5_walk 20 = .ok (.iconst (-1), 1) := by decide +kernel
theorem dX5_walk_21 : decode cX5_walk 21 = .ok (.ireturn, 1) := by decide +kernel
theorem dX5_walk_22 : decode cX5_walk 22 = .ok (.aload_n 0, 1) := by decide +kernel
theorem dX5_walk_23 : decode cX5_walk 23 = .ok (.aload_n 0, 1) := by decide +kernel
theorem dX5_walk_24 : decode cX5_walk 24 = .ok (.iload_n 1, 1) := by decide +kernel
theorem dX5_walk_25 : decode cX5_walk 25 = .ok (.iconst 1, 1) := by decide +kernel
theorem dX5_walk_26 : decode cX5_walk 26 = .ok (.invokevirtual 53, 3) := by decide +kernel
theorem dX5_walk_29 : decode cX5_walk 29 = .ok (.iload_n 2, 1) := by decide +kernel
theorem dX5_walk_30 : decode cX5_walk 30 = .ok (.invokevirtual 161, 3) := by decide +kernel
theorem dX5_walk_33 : decode cX5_walk 33 = .ok (.istore_n 3, 1) := by decide +kernel
theorem dX5_walk_34 : decode cX5_walk 34 = .ok (.aload_n 0, 1) := by decide +kernel
theorem dX5_walk_35 : decode cX5_walk 35 = .ok (.iload_n 1, 1) := by decide +kernel
theorem dX5_walk_36 : decode cX5_walk 36 = .ok (.invokevirtual 67, 3) := by decide +kernel
theorem dX5_walk_39 : decode cX5_walk 39 = .ok (.ifCond .eq 9, 3) := by decide +kernel
theorem dX5_walk_42 : decode cX5_walk 42 = .ok (.iload_n 3, 1) := by decide +kernel
theorem dX5_walk_43 : decode cX5_walk 43 = .ok (.bipush (-4), 2) := by decide +kernel
theorem dX5_walk_45 : decode cX5_walk 45 = .ok (.if_icmp .ne 6, 3) := by decide +kernel
theorem dX5_walk_48 : decode cX5_walk 48 = .ok (.bipush (-2), 2) := by decide +kernel
theorem dX5_walk_50 : decode cX5_walk 50 = .ok (.ireturn, 1) := by decide +kernel
theorem dX5_walk_51 : decode cX5_walk 51 = .ok (.aload_n 0, 1) := by decide +kernel
theorem dX5_walk_52 : decode cX5_walk 52 = .ok (.invokevirtual 152, 3) := by decide +kernel
theorem dX5_walk_55 : decode cX5_walk 55 = .ok (.aload_n 0, 1) := by decide +kernel
theorem dX5_walk_56 : decode cX5_walk 56 = .ok (.getfield 7, 3) := by decide +kernel
theorem dX5_walk_59 : decode cX5_walk 59 = .ok (.bipush 9, 2) := by decide +kernel
theorem dX5_walk_61 : decode cX5_walk 61 = .ok (.iconst 5, 1) := by decide +kernel
theorem dX5_walk_62 : decode cX5_walk 62 = .ok (.iload_n 1, 1) := by decide +kernel
theorem dX5_walk_63 : decode cX5_walk 63 = .ok (.imul, 1) := by decide +kernel
theorem dX5_walk_64 : decode cX5_walk 64 = .ok (.iadd, 1) := by decide +kernel
theorem dX5_walk_65 : decode cX5_walk 65 = .ok (.iconst 1, 1) := by decide +kernel
theorem dX5_walk_66 : decode cX5_walk 66 = .ok (.iadd, 1) := by decide +kernel
theorem dX5_walk_67 : decode cX5_walk 67 = .ok (.iload_n 3, 1) := by decide +kernel
theorem dX5_walk_68 : decode cX5_walk 68 = .ok (.iastore, 1) := by decide +kernel
theorem dX5_walk_69 : decode cX5_walk 69 = .ok (.iload_n 3, 1) := by decide +kernel
theorem dX5_walk_70 : decode cX5_walk 70 = .ok (.ireturn, 1) := by decide +kernel
theorem dX5_free_0 : decode cX5_free 0 = .ok (.aload_n 0, 1) := by decide +kernel
theorem dX5_free_1 : decode cX5_free 1 = .ok (.iload_n 1, 1) := by decide +kernel
theorem dX5_free_2 : decode cX5_free 2 = .ok (.invokevirtual 107, 3) := by decide +kernel
theorem dX5_free_5 : decode cX5_free 5 = .ok (.ifCond .ne 5, 3) := by decide +kernel
theorem dX5_free_8 : decode cX5_free 8 = .ok (.iconst (-1), 1) := by decide +kernel
theorem dX5_free_9 : decode cX5_free 9 = .ok (.ireturn, 1) := by decide +kernel
theorem dX5_free_10 : decode cX5_free 10 = .ok (.aload_n 0, 1) := by decide +kernel
theorem dX5_free_11 : decode cX5_free 11 = .ok (.iload_n 1, 1) := by decide +kernel
theorem dX5_free_12 : decode cX5_free 12 = .ok (.invokevirtual 67, 3) := by decide +kernel
theorem dX5_free_15 : decode cX5_free 15 = .ok (.ifCond .eq 6, 3) := by decide +kernel
theorem dX5_free_18 : decode cX5_free 18 = .ok (.bipush (-2), 2) := by decide +kernel
theorem dX5_free_20 : decode cX5_free 20 = .ok (.ireturn, 1) := by decide +kernel
theorem dX5_free_21 : decode cX5_free 21 = .ok (.aload_n 0, 1) := by decide +kernel
theorem dX5_free_22 : decode cX5_free 22 = .ok (.invokevirtual 152, 3) := by decide +kernel
theorem dX5_free_25 : decode cX5_free 25 = .ok (.aload_n 0, 1) := by decide +kernel
theorem dX5_free_26 : decode cX5_free 26 = .ok (.getfield 7, 3) := by decide +kernel
theorem dX5_free_29 : decode cX5_free 29 = .ok (.iconst 5, 1) := by decide +kernel
theorem dX5_free_30 : decode cX5_free 30 = .ok (.dup2, 1) := by decide +kernel
theorem dX5_free_31 : decode cX5_free 31 = .ok (.iaload, 1) := by decide +kernel
theorem dX5_free_32 : decode cX5_free 32 = .ok (.iconst 1, 1) := by decide +kernel
theorem dX5_free_33 : decode cX5_free 33 = .ok (.iload_n 1, 1) := by decide +kernel
theorem dX5_free_34 : decode cX5_free 34 = .ok (.ishl, 1) := by decide +kernel
theorem dX5_free_35 : decode cX5_free 35 = .ok (.iconst (-1), 1) := by decide +kernel
theorem dX5_free_36 : decode cX5_free 36 = .ok (.ixor, 1) := by decide +kernel
theorem dX5_free_37 : decode cX5_free 37 = .ok (.iand, 1) := by decide +kernel
theorem dX5_free_38 : decode cX5_free 38 = .ok (.iastore, 1) := by decide +kernel
theorem dX5_free_39 : decode cX5_free 39 = .ok (.aload_n 0, 1) := by decide +kernel
theorem dX5_free_40 : decode cX5_free 40 = .ok (.getfield 7, 3) := by decide +kernel
theorem dX5_free_43 : decode cX5_free 43 = .ok (.iconst 5, 1) := by decide +kernel
theorem dX5_free_44 : decode cX5_free 44 = .ok (.iaload, 1) := by decide +kernel
theorem dX5_free_45 : decode cX5_free 45 = .ok (.ireturn, 1) := by decide +kernel
theorem dX5_drift_0 : decode cX5_drift 0 = .ok (.iload_n 1, 1) := by decide +kernel
theorem dX5_drift_1 : decode cX5_drift 1 = .ok (.i2l, 1) := by decide +kernel
theorem dX5_drift_2 : decode cX5_drift 2 = .ok (.lconst 1, 1) := by decide +kernel
theorem dX5_drift_3 : decode cX5_drift 3 = .ok (.ldc2_w 150, 3) := by decide +kernel
theorem dX5_drift_6 : decode cX5_drift 6 = .ok (.invokestatic 49, 3) := by decide +kernel
theorem dX5_drift_9 : decode cX5_drift 9 = .ok (.ifCond .ne 5, 3) := by decide +kernel
theorem dX5_drift_12 : decode cX5_drift 12 = .ok (.iconst (-1), 1) := by decide +kernel
theorem dX5_drift_13 : decode cX5_drift 13 = .ok (.ireturn, 1) := by decide +kernel
theorem dX5_drift_14 : decode cX5_drift 14 = .ok (.aload_n 0, 1) := by decide +kernel
theorem dX5_drift_15 : decode cX5_drift 15 = .ok (.getfield 7, 3) := by decide +kernel
theorem dX5_drift_18 : decode cX5_drift 18 = .ok (.iconst 2, 1) := by decide +kernel
theorem dX5_drift_19 : decode cX5_drift 19 = .ok (.iaload, 1) := by decide +kernel
theorem dX5_drift_20 : decode cX5_drift 20 = .ok (.ifCond .ne 6, 3) := by decide +kernel
theorem dX5_drift_23 : decode cX5_drift 23 = .ok (.bipush (-2), 2) := by decide +kernel
theorem dX5_drift_25 : decode cX5_drift 25 = .ok (.ireturn, 1) := by decide +kernel
theorem dX5_drift_26 : decode cX5_drift 26 = .ok (.aload_n 0, 1) := by decide +kernel
theorem dX5_drift_27 : decode cX5_drift 27 = .ok (.getfield 7, 3) := by decide +kernel
theorem dX5_drift_30 : decode cX5_drift 30 = .ok (.iconst 4, 1) := by decide +kernel
theorem dX5_drift_31 : decode cX5_drift 31 = .ok (.iaload, 1) := by decide +kernel
theorem dX5_drift_32 : decode cX5_drift 32 = .ok (.iload_n 1, 1) := by decide +kernel
theorem dX5_drift_33 : decode cX5_drift 33 = .ok (.iadd, 1) := by decide +kernel
theorem dX5_drift_34 : decode cX5_drift 34 = .ok (.sipush 9999, 3) := by decide +kernel
theorem dX5_drift_37 : decode cX5_drift 37 = .ok (.if_icmp .le 6, 3) := by decide +kernel
theorem dX5_drift_40 : decode cX5_drift 40 = .ok (.bipush (-3), 2) := by decide +kernel
theorem dX5_drift_42 : decode cX5_drift 42 = .ok (.ireturn, 1) := by decide +kernel
theorem dX5_drift_43 : decode cX5_drift 43 = .ok (.iconst 0, 1) := by decide +kernel
theorem dX5_drift_44 : decode cX5_drift 44 = .ok (.istore_n 2, 1) := by decide +kernel
theorem dX5_drift_45 : decode cX5_drift 45 = .ok (.iload_n 2, 1) := by decide +kernel
theorem dX5_drift_46 : decode cX5_drift 46 = .ok (.iload_n 1, 1) := by decide +kernel
theorem dX5_drift_47 : decode cX5_drift 47 = .ok (.if_icmp .ge 128, 3) := by decide +kernel
theorem dX5_drift_50 : decode cX5_drift 50 = .ok (.aload_n 0, 1) := by decide +kernel
theorem dX5_drift_51 : decode cX5_drift 51 = .ok (.invokevirtual 152, 3) := by decide +kernel
theorem dX5_drift_54 : decode cX5_drift 54 = .ok (.aload_n 0, 1) := by decide +kernel
theorem dX5_drift_55 : decode cX5_drift 55 = .ok (.getfield 7, 3) := by decide +kernel
theorem dX5_drift_58 : decode cX5_drift 58 = .ok (.bipush 8, 2) := by decide +kernel
theorem dX5_drift_60 : decode cX5_drift 60 = .ok (.aload_n 0, 1) := by decide +kernel
theorem dX5_drift_61 : decode cX5_drift 61 = .ok (.getfield 7, 3) := by decide +kernel
theorem dX5_drift_64 : decode cX5_drift 64 = .ok (.bipush 8, 2) := by decide +kernel
theorem dX5_drift_66 : decode cX5_drift 66 = .ok (.iaload, 1) := by decide +kernel
theorem dX5_drift_67 : decode cX5_drift 67 = .ok (.i2l, 1) := by decide +kernel
theorem dX5_drift_68 : decode cX5_drift 68 = .ok (.ldc2_w 164, 3) := by decide +kernel
theorem dX5_drift_71 : decode cX5_drift 71 = .ok (.lmul, 1) := by decide +kernel
theorem dX5_drift_72 : decode cX5_drift 72 = .ok (.ldc2_w 166, 3) := by decide +kernel
theorem dX5_drift_75 : decode cX5_drift 75 = .ok (.ladd, 1) := by decide +kernel
theorem dX5_drift_76 : decode cX5_drift 76 = .ok (.ldc2_w 168, 3) := by decide +kernel
theorem dX5_drift_79 : decode cX5_drift 79 = .ok (.land, 1) := by decide +kernel
theorem dX5_drift_80 : decode cX5_drift 80 = .ok (.l2i, 1) := by decide +kernel
theorem dX5_drift_81 : decode cX5_drift 81 = .ok (.iastore, 1) := by decide +kernel
theorem dX5_drift_82 : decode cX5_drift 82 = .ok (.aload_n 0, 1) := by decide +kernel
theorem dX5_drift_83 : decode cX5_drift 83 = .ok (.getfield 7, 3) := by decide +kernel
theorem dX5_drift_86 : decode cX5_drift 86 = .ok (.bipush 8, 2) := by decide +kernel
theorem dX5_drift_88 : decode cX5_drift 88 = .ok (.iaload, 1) := by decide +kernel
theorem dX5_drift_89 : decode cX5_drift 89 = .ok (.ldc 170, 2) := by decide +kernel
theorem dX5_drift_91 : decode cX5_drift 91 = .ok (.idiv, 1) := by decide +kernel
theorem dX5_drift_92 : decode cX5_drift 92 = .ok (.aload_n 0, 1) := by decide +kernel
theorem dX5_drift_93 : decode cX5_drift 93 = .ok (.getfield 7, 3) := by decide +kernel
theorem dX5_drift_96 : decode cX5_drift 96 = .ok (.iconst 2, 1) := by decide +kernel
theorem dX5_drift_97 : decode cX5_drift 97 = .ok (.iaload, 1) := by decide +kernel
theorem dX5_drift_98 : decode cX5_drift 98 = .ok (.irem, 1) := by decide +kernel
theorem dX5_drift_99 : decode cX5_drift 99 = .ok (.istore_n 3, 1) := by decide +kernel
theorem dX5_drift_100 : decode cX5_drift 100 = .ok (.aload_n 0, 1) := by decide +kernel
theorem dX5_drift_101 : decode cX5_drift 101 = .ok (.aload_n 0, 1) := by decide +kernel
theorem dX5_drift_102 : decode cX5_drift 102 = .ok (.iload_n 3, 1) := by decide +kernel
theorem dX5_drift_103 : decode cX5_drift 103 = .ok (.iconst 1, 1) := by decide +kernel
theorem dX5_drift_104 : decode cX5_drift 104 = .ok (.invokevirtual 53, 3) := by decide +kernel
theorem dX5_drift_107 : decode cX5_drift 107 = .ok (.aload_n 0, 1) := by decide +kernel
theorem dX5_drift_108 : decode cX5_drift 108 = .ok (.getfield 7, 3) := by decide +kernel
theorem dX5_drift_111 : decode cX5_drift 111 = .ok (.bipush 8, 2) := by decide +kernel
theorem dX5_drift_113 : decode cX5_drift 113 = .ok (.iaload, 1) := by decide +kernel
theorem dX5_drift_114 : decode cX5_drift 114 = .ok (.sipush 128, 3) := by decide +kernel
theorem dX5_drift_117 : decode cX5_drift 117 = .ok (.idiv, 1) := by decide +kernel
theorem dX5_drift_118 : decode cX5_drift 118 = .ok (.iconst 4, 1) := by decide +kernel
theorem dX5_drift_119 : decode cX5_drift 119 = .ok (.irem, 1) := by decide +kernel
theorem dX5_drift_120 : decode cX5_drift 120 = .ok (.invokevirtual 161, 3) := by decide +kernel
theorem dX5_drift_123 : decode cX5_drift 123 = .ok (.istore 4, 2) := by decide +kernel
theorem dX5_drift_125 : decode cX5_drift 125 = .ok (.aload_n 0, 1) := by decide +kernel
theorem dX5_drift_126 : decode cX5_drift 126 = .ok (.getfield 7, 3) := by decide +kernel
theorem dX5_drift_129 : decode cX5_drift 129 = .ok (.bipush 9, 2) := by decide +kernel
theorem dX5_drift_131 : decode cX5_drift 131 = .ok (.iconst 5, 1) := by decide +kernel
theorem dX5_drift_132 : decode cX5_drift 132 = .ok (.iload_n 3, 1) := by decide +kernel
theorem dX5_drift_133 : decode cX5_drift 133 = .ok (.imul, 1) := by decide +kernel
theorem dX5_drift_134 : decode cX5_drift 134 = .ok (.iadd, 1) := by decide +kernel
theorem dX5_drift_135 : decode cX5_drift 135 = .ok (.iconst 1, 1) := by decide +kernel
theorem dX5_drift_136 : decode cX5_drift 136 = .ok (.iadd, 1) := by decide +kernel
theorem dX5_drift_137 : decode cX5_drift 137 = .ok (.aload_n 0, 1) := by decide +kernel
theorem dX5_drift_138 : decode cX5_drift 138 = .ok (.iload_n 3, 1) := by decide +kernel
theorem dX5_drift_139 : decode cX5_drift 139 = .ok (.invokevirtual 67, 3) := by decide +kernel
theorem dX5_drift_142 : decode cX5_drift 142 = .ok (.ifCond .eq 15, 3) := by decide +kernel
theorem dX5_drift_145 : decode cX5_drift 145 = .ok (.iload 4, 2) := by decide +kernel
theorem dX5_drift_147 : decode cX5_drift 147 = .ok (.bipush (-4), 2) := by decide +kernel
theorem dX5_drift_149 : decode cX5_drift 149 = .ok (.if_icmp .eq 8, 3) := by decide +kernel
theorem dX5_drift_152 : decode cX5_drift 152 = .ok (.iload 4, 2) := by decide +kernel
theorem dX5_drift_154 : decode cX5_drift 154 = .ok (.goto 9, 3) := by decide +kernel
theorem dX5_drift_157 : decode cX5_drift 157 = .ok (.aload_n 0, 1) := by decide +kernel
theorem dX5_drift_158 : decode cX5_drift 158 = .ok (.iload_n 3, 1) := by decide +kernel
theorem dX5_drift_159 : decode cX5_drift 159 = .ok (.iconst 1, 1) := by decide +kernel
theorem dX5_drift_160 : decode cX5_drift 160 = .ok (.invokevirtual 53, 3) := by decide +kernel
theorem dX5_drift_163 : decode cX5_drift 163 = .ok (.iastore, 1) := by decide +kernel
theorem dX5_drift_164 : decode cX5_drift 164 = .ok (.aload_n 0, 1) := by decide +kernel
theorem dX5_drift_165 : decode cX5_drift 165 = .ok (.invokevirtual 155, 3) := by decide +kernel
theorem dX5_drift_168 : decode cX5_drift 168 = .ok (.pop, 1) := by decide +kernel
theorem dX5_drift_169 : decode cX5_drift 169 = .ok (.iinc 2 1, 3) := by decide +kernel
theorem dX5_drift_172 : decode cX5_drift 172 = .ok (.goto (-127), 3) := by decide +kernel
theorem dX5_drift_175 : decode cX5_drift 175 = .ok (.aload_n 0, 1) := by decide +kernel
theorem dX5_drift_176 : decode cX5_drift 176 = .ok (.getfield 7, 3) := by decide +kernel
theorem dX5_drift_179 : decode cX5_drift 179 = .ok (.iconst 5, 1) := by decide +kernel
theorem dX5_drift_180 : decode cX5_drift 180 = .ok (.iaload, 1) := by decide +kernel
theorem dX5_drift_181 : decode cX5_drift 181 = .ok (.ireturn, 1) := by decide +kernel
theorem dX5_undo_0 : decode cX5_undo 0 = .ok (.aload_n 0, 1) := by decide +kernel
theorem dX5_undo_1 : decode cX5_undo 1 = .ok (.getfield 45, 3) := by decide +kernel
theorem dX5_undo_4 : decode cX5_undo 4 = .ok (.ifCond .ne 6, 3) := by decide +kernel
theorem dX5_undo_7 : decode cX5_undo 7 = .ok (.bipush (-4), 2) := by decide +kernel
theorem dX5_undo_9 : decode cX5_undo 9 = .ok (.ireturn, 1) := by decide +kernel
theorem dX5_undo_10 : decode cX5_undo 10 = .ok (.aload_n 0, 1) := by decide +kernel
theorem dX5_undo_11 : decode cX5_undo 11 = .ok (.dup, 1) := by decide +kernel
theorem dX5_undo_12 : decode cX5_undo 12 = .ok (.getfield 45, 3) := by decide +kernel
theorem dX5_undo_15 : decode cX5_undo 15 = .ok (.iconst 1, 1) := by decide +kernel
theorem dX5_undo_16 : decode cX5_undo 16 = .ok (.isub, 1) := by decide +kernel
theorem dX5_undo_17 : decode cX5_undo 17 = .ok (.putfield 45, 3) := by decide +kernel
theorem dX5_undo_20 : decode cX5_undo 20 = .ok (.bipush 12, 2) := by decide +kernel
theorem dX5_undo_22 : decode cX5_undo 22 = .ok (.aload_n 0, 1) := by decide +kernel
theorem dX5_undo_23 : decode cX5_undo 23 = .ok (.getfield 45, 3) := by decide +kernel
theorem dX5_undo_26 : decode cX5_undo 26 = .ok (.imul, 1) := by decide +kernel
theorem dX5_undo_27 : decode cX5_undo 27 = .ok (.istore_n 1, 1) := by decide +kernel
theorem dX5_undo_28 : decode cX5_undo 28 = .ok (.iconst 0, 1) := by decide +kernel
theorem dX5_undo_29 : decode cX5_undo 29 = .ok (.istore_n 2, 1) := by decide +kernel
theorem dX5_undo_30 : decode cX5_undo 30 = .ok (.iload_n 2, 1) := by decide +kernel
theorem dX5_undo_31 : decode cX5_undo 31 = .ok (.bipush 6, 2) := by decide +kernel
theorem dX5_undo_33 : decode cX5_undo 33 = .ok (.if_icmp .ge 49, 3) := by decide +kernel
theorem dX5_undo_36 : decode cX5_undo 36 = .ok (.aload_n 0, 1) := by decide +kernel
theorem dX5_undo_37 : decode cX5_undo 37 = .ok (.getfield 7, 3) := by decide +kernel
theorem dX5_undo_40 : decode cX5_undo 40 = .ok (.iconst 3, 1) := by decide +kernel
theorem dX5_undo_41 : decode cX5_undo 41 = .ok (.iload_n 2, 1) := by decide +kernel
theorem dX5_undo_42 : decode cX5_undo 42 = .ok (.iadd, 1) := by decide +kernel
theorem dX5_undo_43 : decode cX5_undo 43 = .ok (.aload_n 0, 1) := by decide +kernel
theorem dX5_undo_44 : decode cX5_undo 44 = .ok (.getfield 19, 3) := by decide +kernel
theorem dX5_undo_47 : decode cX5_undo 47 = .ok (.iload_n 1, 1) := by decide +kernel
theorem dX5_undo_48 : decode cX5_undo 48 = .ok (.iload_n 2, 1) := by decide +kernel
theorem dX5_undo_49 : decode cX5_undo 49 = .ok (.iadd, 1) := by decide +kernel
theorem dX5_undo_50 : decode cX5_undo 50 = .ok (.iaload, 1) := by decide +kernel
theorem dX5_undo_51 : decode cX5_undo 51 = .ok (.iastore, 1) := by decide +kernel
theorem dX5_undo_52 : decode cX5_undo 52 = .ok (.aload_n 0, 1) := by decide +kernel
theorem dX5_undo_53 : decode cX5_undo 53 = .ok (.getfield 7, 3) := by decide +kernel
theorem dX5_undo_56 : decode cX5_undo 56 = .ok (.bipush 9, 2) := by decide +kernel
theorem dX5_undo_58 : decode cX5_undo 58 = .ok (.iconst 5, 1) := by decide +kernel
theorem dX5_undo_59 : decode cX5_undo 59 = .ok (.iload_n 2, 1) := by decide +kernel
theorem dX5_undo_60 : decode cX5_undo 60 = .ok (.imul, 1) := by decide +kernel
theorem dX5_undo_61 : decode cX5_undo 61 = .ok (.iadd, 1) := by decide +kernel
theorem dX5_undo_62 : decode cX5_undo 62 = .ok (.iconst 1, 1) := by decide +kernel
theorem dX5_undo_63 : decode cX5_undo 63 = .ok (.iadd, 1) := by decide +kernel
theorem dX5_undo_64 : decode cX5_undo 64 = .ok (.aload_n 0, 1) := by decide +kernel
theorem dX5_undo_65 : decode cX5_undo 65 = .ok (.getfield 19, 3) := by decide +kernel
theorem dX5_undo_68 : decode cX5_undo 68 = .ok (.iload_n 1, 1) := by decide +kernel
theorem dX5_undo_69 : decode cX5_undo 69 = .ok (.bipush 6, 2) := by decide +kernel
theorem dX5_undo_71 : decode cX5_undo 71 = .ok (.iadd, 1) := by decide +kernel
theorem dX5_undo_72 : decode cX5_undo 72 = .ok (.iload_n 2, 1) := by decide +kernel
theorem dX5_undo_73 : decode cX5_undo 73 = .ok (.iadd, 1) := by decide +kernel
theorem dX5_undo_74 : decode cX5_undo 74 = .ok (.iaload, 1) := by decide +kernel
theorem dX5_undo_75 : decode cX5_undo 75 = .ok (.iastore, 1) := by decide +kernel
theorem dX5_undo_76 : decode cX5_undo 76 = .ok (.iinc 2 1, 3) := by decide +kernel
theorem dX5_undo_79 : decode cX5_undo 79 = .ok (.goto (-49), 3) := by decide +kernel
theorem dX5_undo_82 : decode cX5_undo 82 = .ok (.aload_n 0, 1) := by decide +kernel
theorem dX5_undo_83 : decode cX5_undo 83 = .ok (.getfield 45, 3) := by decide +kernel
theorem dX5_undo_86 : decode cX5_undo 86 = .ok (.ireturn, 1) := by decide +kernel
theorem dX5_seed_0 : decode cX5_seed 0 = .ok (.iload_n 1, 1) := by decide +kernel
theorem dX5_seed_1 : decode cX5_seed 1 = .ok (.ifCond .ge 5, 3) := by decide +kernel
theorem dX5_seed_4 : decode cX5_seed 4 = .ok (.iconst (-1), 1) := by decide +kernel
theorem dX5_seed_5 : decode cX5_seed 5 = .ok (.ireturn, 1) := by decide +kernel
theorem dX5_seed_6 : decode cX5_seed 6 = .ok (.aload_n 0, 1) := by decide +kernel
theorem dX5_seed_7 : decode cX5_seed 7 = .ok (.getfield 7, 3) := by decide +kernel
theorem dX5_seed_10 : decode cX5_seed 10 = .ok (.bipush 8, 2) := by decide +kernel
theorem dX5_seed_12 : decode cX5_seed 12 = .ok (.iaload, 1) := by decide +kernel
theorem dX5_seed_13 : decode cX5_seed 13 = .ok (.istore_n 2, 1) := by decide +kernel
theorem dX5_seed_14 : decode cX5_seed 14 = .ok (.aload_n 0, 1) := by decide +kernel
theorem dX5_seed_15 : decode cX5_seed 15 = .ok (.getfield 7, 3) := by decide +kernel
theorem dX5_seed_18 : decode cX5_seed 18 = .ok (.bipush 8, 2) := by decide +kernel
theorem dX5_seed_20 : decode cX5_seed 20 = .ok (.iload_n 1, 1) := by decide +kernel
theorem dX5_seed_21 : decode cX5_seed 21 = .ok (.iastore, 1) := by decide +kernel
theorem dX5_seed_22 : decode cX5_seed 22 = .ok (.iload_n 2, 1) := by decide +kernel
theorem dX5_seed_23 : decode cX5_seed 23 = .ok (.ireturn, 1) := by decide +kernel
theorem dX5_asides_0 : decode cX5_asides 0 = .ok (.iconst 0, 1) := by decide +kernel
theorem dX5_asides_1 : decode cX5_asides 1 = .ok (.istore_n 1, 1) := by decide +kernel
theorem dX5_asides_2 : decode cX5_asides 2 = .ok (.iload_n 1, 1) := by decide +kernel
theorem dX5_asides_3 : decode cX5_asides 3 = .ok (.bipush 39, 2) := by decide +kernel
theorem dX5_asides_5 : decode cX5_asides 5 = .ok (.if_icmp .ge 21, 3) := by decide +kernel
theorem dX5_asides_8 : decode cX5_asides 8 = .ok (.aload_n 0, 1) := by decide +kernel
theorem dX5_asides_9 : decode cX5_asides 9 = .ok (.getfield 22, 3) := by decide +kernel
theorem dX5_asides_12 : decode cX5_asides 12 = .ok (.iload_n 1, 1) := by decide +kernel
theorem dX5_asides_13 : decode cX5_asides 13 = .ok (.aload_n 0, 1) := by decide +kernel
theorem dX5_asides_14 : decode cX5_asides 14 = .ok (.getfield 7, 3) := by decide +kernel
theorem dX5_asides_17 : decode cX5_asides 17 = .ok (.iload_n 1, 1) := by decide +kernel
theorem dX5_asides_18 : decode cX5_asides 18 = .ok (.iaload, 1) := by decide +kernel
theorem dX5_asides_19 : decode cX5_asides 19 = .ok (.iastore, 1) := by decide +kernel
theorem dX5_asides_20 : decode cX5_asides 20 = .ok (.iinc 1 1, 3) := by decide +kernel
theorem dX5_asides_23 : decode cX5_asides 23 = .ok (.goto (-21), 3) := by decide +kernel
theorem dX5_asides_26 : decode cX5_asides 26 = .ok (.return_, 1) := by decide +kernel
theorem dX5_backs_0 : decode cX5_backs 0 = .ok (.iconst 0, 1) := by decide +kernel
theorem dX5_backs_1 : decode cX5_backs 1 = .ok (.istore_n 1, 1) := by decide +kernel
theorem dX5_backs_2 : decode cX5_backs 2 = .ok (.iload_n 1, 1) := by decide +kernel
theorem dX5_backs_3 : decode cX5_backs 3 = .ok (.bipush 39, 2) := by decide +kernel
theorem dX5_backs_5 : decode cX5_backs 5 = .ok (.if_icmp .ge 21, 3) := by decide +kernel
theorem dX5_backs_8 : decode cX5_backs 8 = .ok (.aload_n 0, 1) := by decide +kernel
theorem dX5_backs_9 : decode cX5_backs 9 = .ok (.getfield 7, 3) := by decide +kernel
theorem dX5_backs_12 : decode cX5_backs 12 = .ok (.iload_n 1, 1) := by decide +kernel
theorem dX5_backs_13 : decode cX5_backs 13 = .ok (.aload_n 0, 1) := by decide +kernel
theorem dX5_backs_14 : decode cX5_backs 14 = .ok (.getfield 22, 3) := by decide +kernel
theorem dX5_backs_17 : decode cX5_backs 17 = .ok (.iload_n 1, 1) := by decide +kernel
theorem dX5_backs_18 : decode cX5_backs 18 = .ok (.iaload, 1) := by decide +kernel
theorem dX5_backs_19 : decode cX5_backs 19 = .ok (.iastore, 1) := by decide +kernel
theorem dX5_backs_20 : decode cX5_backs 20 = .ok (.iinc 1 1, 3) := by decide +kernel
theorem dX5_backs_23 : decode cX5_backs 23 = .ok (.goto (-21), 3) := by decide +kernel
theorem dX5_backs_26 : decode cX5_backs 26 = .ok (.return_, 1) := by decide +kernel
theorem dX5_ahead_0 : decode cX5_ahead 0 = .ok (.iload_n 1, 1) := by decide +kernel
theorem dX5_ahead_1 : decode cX5_ahead 1 = .ok (.i2l, 1) := by decide +kernel
theorem dX5_ahead_2 : decode cX5_ahead 2 = .ok (.lconst 0, 1) := by decide +kernel
theorem dX5_ahead_3 : decode cX5_ahead 3 = .ok (.ldc2_w 171, 3) := by decide +kernel
theorem dX5_ahead_6 : decode cX5_ahead 6 = .ok (.invokestatic 49, 3) := by decide +kernel
theorem dX5_ahead_9 : decode cX5_ahead 9 = .ok (.ifCond .eq 15, 3) := by decide +kernel
theorem dX5_ahead_12 : decode cX5_ahead 12 = .ok (.iload_n 2, 1) := by decide +kernel
theorem dX5_ahead_13 : decode cX5_ahead 13 = .ok (.i2l, 1) := by decide +kernel
theorem dX5_ahead_14 : decode cX5_ahead 14 = .ok (.lconst 0, 1) := by decide +kernel
theorem dX5_ahead_15 : decode cX5_ahead 15 = .ok (.ldc2_w 159, 3) := by decide +kernel
theorem dX5_ahead_18 : decode cX5_ahead 18 = .ok (.invokestatic 49, 3) := by decide +kernel
theorem dX5_ahead_21 : decode cX5_ahead 21 = .ok (.ifCond .ne 5, 3) := by decide +kernel
theorem dX5_ahead_24 : decode cX5_ahead 24 = .ok (.iconst (-1), 1) := by decide +kernel
theorem dX5_ahead_25 : decode cX5_ahead 25 = .ok (.ireturn, 1) := by decide +kernel
theorem dX5_ahead_26 : decode cX5_ahead 26 = .ok (.aload_n 0, 1) := by decide +kernel
theorem dX5_ahead_27 : decode cX5_ahead 27 = .ok (.invokevirtual 173, 3) := by decide +kernel
theorem dX5_ahead_30 : decode cX5_ahead 30 = .ok (.iconst 0, 1) := by decide +kernel
theorem dX5_ahead_31 : decode cX5_ahead 31 = .ok (.istore_n 3, 1) := by decide +kernel
theorem dX5_ahead_32 : decode cX5_ahead 32 = .ok (.iload_n 3, 1) := by decide +kernel
theorem dX5_ahead_33 : decode cX5_ahead 33 = .ok (.iload_n 1, 1) := by decide +kernel
theorem dX5_ahead_34 : decode cX5_ahead 34 = .ok (.if_icmp .ge 14, 3) := by decide +kernel
theorem dX5_ahead_37 : decode cX5_ahead 37 = .ok (.aload_n 0, 1) := by decide +kernel
theorem dX5_ahead_38 : decode cX5_ahead 38 = .ok (.invokevirtual 155, 3) := by decide +kernel
theorem dX5_ahead_41 : decode cX5_ahead 41 = .ok (.pop, 1) := by decide +kernel
theorem dX5_ahead_42 : decode cX5_ahead 42 = .ok (.iinc 3 1, 3) := by decide +kernel
theorem dX5_ahead_45 : decode cX5_ahead 45 = .ok (.goto (-13), 3) := by decide +kernel
theorem dX5_ahead_48 : decode cX5_ahead 48 = .ok (.iload_n 2, 1) := by decide +kernel
theorem dX5_ahead_49 : decode cX5_ahead 49 = .ok (.ifCond .ne 12, 3) := by decide +kernel
theorem dX5_ahead_52 : decode cX5_ahead 52 = .ok (.aload_n 0, 1) := by decide +kernel
theorem dX5_ahead_53 : decode cX5_ahead 53 = .ok (.getfield 7, 3) := by decide +kernel
theorem dX5_ahead_56 : decode cX5_ahead 56 = .ok (.iconst 3, 1) := by decide +kernel
theorem dX5_ahead_57 : decode cX5_ahead 57 = .ok (.iaload, 1) := by decide +kernel
theorem dX5_ahead_58 : decode cX5_ahead 58 = .ok (.goto 13, 3) := by decide +kernel
theorem dX5_ahead_61 : decode cX5_ahead 61 = .ok (.aload_n 0, 1) := by decide +kernel
theorem dX5_ahead_62 : decode cX5_ahead 62 = .ok (.getfield 7, 3) := by decide +kernel
theorem dX5_ahead_65 : decode cX5_ahead 65 = .ok (.iconst 5, 1) := by decide +kernel
theorem dX5_ahead_66 : decode cX5_ahead 66 = .ok (.iload_n 2, 1) := by decide +kernel
theorem dX5_ahead_67 : decode cX5_ahead 67 = .ok (.iadd, 1) := by decide +kernel
theorem dX5_ahead_68 : decode cX5_ahead 68 = .ok (.iconst 1, 1) := by decide +kernel
theorem dX5_ahead_69 : decode cX5_ahead 69 = .ok (.isub, 1) := by decide +kernel
theorem dX5_ahead_70 : decode cX5_ahead 70 = .ok (.iaload, 1) := by decide +kernel
theorem dX5_ahead_71 : decode cX5_ahead 71 = .ok (.istore_n 3, 1) := by decide +kernel
theorem dX5_ahead_72 : decode cX5_ahead 72 = .ok (.aload_n 0, 1) := by decide +kernel
theorem dX5_ahead_73 : decode cX5_ahead 73 = .ok (.invokevirtual 176, 3) := by decide +kernel
theorem dX5_ahead_76 : decode cX5_ahead 76 = .ok (.iload_n 3, 1) := by decide +kernel
theorem dX5_ahead_77 : decode cX5_ahead 77 = .ok (.ireturn, 1) := by decide +kernel
theorem dX5_nextBehind_0 : decode cX5_nextBehind 0 = .ok (.iconst 0, 1) := by decide +kernel
theorem dX5_nextBehind_1 : decode cX5_nextBehind 1 = .ok (.istore_n 1, 1) := by decide +kernel
theorem dX5_nextBehind_2 : decode cX5_nextBehind 2 = .ok (.iconst 0, 1) := by decide +kernel
theorem dX5_nextBehind_3 : decode cX5_nextBehind 3 = .ok (.istore_n 2, 1) := by decide +kernel
theorem dX5_nextBehind_4 : decode cX5_nextBehind 4 = .ok (.iload_n 1, 1) := by decide +kernel
theorem dX5_nextBehind_5 : decode cX5_nextBehind 5 = .ok (.bipush 60, 2) := by decide +kernel
theorem dX5_nextBehind_7 : decode cX5_nextBehind 7 = .ok (.if_icmp .ge 18, 3) := by decide +kernel
theorem dX5_nextBehind_10 : decode cX5_nextBehind 10 = .ok (.iload_n 2, 1) := by decide +kernel
theorem dX5_nextBehind_11 : decode cX5_nextBehind 11 = .ok (.ifCond .ne 14, 3) := by decide +kernel
theorem dX5_nextBehind_14 : decode cX5_nextBehind 14 = .ok (.aload_n 0, 1) := by decide +kernel
theorem dX5_nextBehind_15 : decode cX5_nextBehind 15 = .ok (.invokevirtual 155, 3) := by decide +kernel
theorem dX5_nextBehind_18 : decode cX5_nextBehind 18 = .ok (.istore_n 2, 1) := by decide +kernel
theorem dX5_nextBehind_19 : decode cX5_nextBehind 19 = .ok (.iinc 1 1, 3) := by decide +kernel
theorem dX5_nextBehind_22 : decode cX5_nextBehind 22 = .ok (.goto (-18), 3) := by decide +kernel
theorem dX5_nextBehind_25 : decode cX5_nextBehind 25 = .ok (.aload_n 0, 1) := by decide +kernel
theorem dX5_nextBehind_26 : decode cX5_nextBehind 26 = .ok (.invokevirtual 176, 3) := by decide +kernel
theorem dX5_nextBehind_29 : decode cX5_nextBehind 29 = .ok (.iload_n 2, 1) := by decide +kernel
theorem dX5_nextBehind_30 : decode cX5_nextBehind 30 = .ok (.ifCond .eq 7, 3) := by decide +kernel
theorem dX5_nextBehind_33 : decode cX5_nextBehind 33 = .ok (.iload_n 1, 1) := by decide +kernel
theorem dX5_nextBehind_34 : decode cX5_nextBehind 34 = .ok (.goto 5, 3) := by decide +kernel
theorem dX5_nextBehind_37 : decode cX5_nextBehind 37 = .ok (.bipush 61, 2) := by decide +kernel
theorem dX5_nextBehind_39 : decode cX5_nextBehind 39 = .ok (.ireturn, 1) := by decide +kernel
theorem dX5_next_0 : decode cX5_next 0 = .ok (.iload_n 1, 1) := by decide +kernel
theorem dX5_next_1 : decode cX5_next 1 = .ok (.i2l, 1) := by decide +kernel
theorem dX5_next_2 : decode cX5_next 2 = .ok (.lconst 0, 1) := by decide +kernel
theorem dX5_next_3 : decode cX5_next 3 = .ok (.ldc2_w 89, 3) := by decide +kernel
theorem dX5_next_6 : decode cX5_next 6 = .ok (.invokestatic 49, 3) := by decide +kernel
theorem dX5_next_9 : decode cX5_next 9 = .ok (.ifCond .ne 5, 3) := by decide +kernel
theorem dX5_next_12 : decode cX5_next 12 = .ok (.iconst (-1), 1) := by decide +kernel
theorem dX5_next_13 : decode cX5_next 13 = .ok (.ireturn, 1) := by decide +kernel
theorem dX5_next_14 : decode cX5_next 14 = .ok (.aload_n 0, 1) := by decide +kernel
theorem dX5_next_15 : decode cX5_next 15 = .ok (.invokevirtual 173, 3) := by decide +kernel
theorem dX5_next_18 : decode cX5_next 18 = .ok (.aload_n 0, 1) := by decide +kernel
theorem dX5_next_19 : decode cX5_next 19 = .ok (.invokevirtual 179, 3) := by decide +kernel
theorem dX5_next_22 : decode cX5_next 22 = .ok (.istore_n 2, 1) := by decide +kernel
theorem dX5_next_23 : decode cX5_next 23 = .ok (.iload_n 2, 1) := by decide +kernel
theorem dX5_next_24 : decode cX5_next 24 = .ok (.bipush 61, 2) := by decide +kernel
theorem dX5_next_26 : decode cX5_next 26 = .ok (.if_icmp .ne 8, 3) := by decide +kernel
theorem dX5_next_29 : decode cX5_next 29 = .ok (.bipush (-4), 2) := by decide +kernel
theorem dX5_next_31 : decode cX5_next 31 = .ok (.goto 27, 3) := by decide +kernel
theorem dX5_next_34 : decode cX5_next 34 = .ok (.iload_n 1, 1) := by decide +kernel
theorem dX5_next_35 : decode cX5_next 35 = .ok (.ifCond .ne 10, 3) := by decide +kernel
theorem dX5_next_38 : decode cX5_next 38 = .ok (.aload_n 0, 1) := by decide +kernel
theorem dX5_next_39 : decode cX5_next 39 = .ok (.getfield 80, 3) := by decide +kernel
theorem dX5_next_42 : decode cX5_next 42 = .ok (.goto 16, 3) := by decide +kernel
theorem dX5_next_45 : decode cX5_next 45 = .ok (.iload_n 1, 1) := by decide +kernel
theorem dX5_next_46 : decode cX5_next 46 = .ok (.iconst 1, 1) := by decide +kernel
theorem dX5_next_47 : decode cX5_next 47 = .ok (.if_icmp .ne 7, 3) := by decide +kernel
theorem dX5_next_50 : decode cX5_next 50 = .ok (.iload_n 2, 1) := by decide +kernel
theorem dX5_next_51 : decode cX5_next 51 = .ok (.goto 7, 3) := by decide +kernel
theorem dX5_next_54 : decode cX5_next 54 = .ok (.aload_n 0, 1) := by decide +kernel
theorem dX5_next_55 : decode cX5_next 55 = .ok (.getfield 86, 3) := by decide +kernel
theorem dX5_next_58 : decode cX5_next 58 = .ok (.ireturn, 1) := by decide +kernel
theorem dX5_caughtBehind_0 : decode cX5_caughtBehind 0 = .ok (.iconst 0, 1) := by decide +kernel
theorem dX5_caughtBehind_1 : decode cX5_caughtBehind 1 = .ok (.istore_n 3, 1) := by decide +kernel
theorem dX5_caughtBehind_2 : decode cX5_caughtBehind 2 = .ok (.iload_n 3, 1) := by decide +kernel
theorem dX5_caughtBehind_3 : decode cX5_caughtBehind 3 = .ok (.iload_n 2, 1) := by decide +kernel
theorem dX5_caughtBehind_4 : decode cX5_caughtBehind 4 = .ok (.if_icmp .ge 22, 3) := by decide +kernel
theorem dX5_caughtBehind_7 : decode cX5_caughtBehind 7 = .ok (.aload_n 0, 1) := by decide +kernel
theorem dX5_caughtBehind_8 : decode cX5_caughtBehind 8 = .ok (.iload_n 1, 1) := by decide +kernel
theorem dX5_caughtBehind_9 : decode cX5_caughtBehind 9 = .ok (.invokevirtual 67, 3) := by decide +kernel
theorem dX5_caughtBehind_12 : decode cX5_caughtBehind 12 = .ok (.ifCond .eq 14, 3) := by decide +kernel
theorem dX5_caughtBehind_15 : decode cX5_caughtBehind 15 = .ok (.aload_n 0, 1) := by decide +kernel
theorem dX5_caughtBehind_16 : decode cX5_caughtBehind 16 = .ok (.invokevirtual 155, 3) := by decide +kernel
theorem dX5_caughtBehind_19 : decode cX5_caughtBehind 19 = .ok (.pop, 1) := by decide +kernel
theorem dX5_caughtBehind_20 : decode cX5_caughtBehind 20 = .ok (.iinc 3 1, 3) := by decide +kernel
theorem dX5_caughtBehind_23 : decode cX5_caughtBehind 23 = .ok (.goto (-21), 3) := by decide +kernel
theorem dX5_caughtBehind_26 : decode cX5_caughtBehind 26 = .ok (.aload_n 0, 1) := by decide +kernel
theorem dX5_caughtBehind_27 : decode cX5_caughtBehind 27 = .ok (.iload_n 1, 1) := by decide +kernel
theorem dX5_caughtBehind_28 : decode cX5_caughtBehind 28 = .ok (.invokevirtual 67, 3) := by decide +kernel
theorem dX5_caughtBehind_31 : decode cX5_caughtBehind 31 = .ok (.ifCond .eq 8, 3) := by decide +kernel
theorem dX5_caughtBehind_34 : decode cX5_caughtBehind 34 = .ok (.bipush 61, 2) := by decide +kernel
theorem dX5_caughtBehind_36 : decode cX5_caughtBehind 36 = .ok (.goto 4, 3) := by decide +kernel
theorem dX5_caughtBehind_39 : decode cX5_caughtBehind 39 = .ok (.iload_n 3, 1) := by decide +kernel
theorem dX5_caughtBehind_40 : decode cX5_caughtBehind 40 = .ok (.istore 4, 2) := by decide +kernel
theorem dX5_caughtBehind_42 : decode cX5_caughtBehind 42 = .ok (.aload_n 0, 1) := by decide +kernel
theorem dX5_caughtBehind_43 : decode cX5_caughtBehind 43 = .ok (.invokevirtual 176, 3) := by decide +kernel
theorem dX5_caughtBehind_46 : decode cX5_caughtBehind 46 = .ok (.iload 4, 2) := by decide +kernel
theorem dX5_caughtBehind_48 : decode cX5_caughtBehind 48 = .ok (.ireturn, 1) := by decide +kernel
theorem dX5_stand_0 : decode cX5_stand 0 = .ok (.aload_n 0, 1) := by decide +kernel
theorem dX5_stand_1 : decode cX5_stand 1 = .ok (.iload_n 1, 1) := by decide +kernel
theorem dX5_stand_2 : decode cX5_stand 2 = .ok (.invokevirtual 107, 3) := by decide +kernel
theorem dX5_stand_5 : decode cX5_stand 5 = .ok (.ifCond .eq 13, 3) := by decide +kernel
theorem dX5_stand_8 : decode cX5_stand 8 = .ok (.iload_n 2, 1) := by decide +kernel
theorem dX5_stand_9 : decode cX5_stand 9 = .ok (.i2l, 1) := by decide +kernel
theorem dX5_stand_10 : decode cX5_stand 10 = .ok (.lconst 0, 1) := by decide +kernel
theorem dX5_stand_11 : decode cX5_stand 11 = .ok (.lconst 1, 1) := by decide +kernel
theorem dX5_stand_12 : decode cX5_stand 12 = .ok (.invokestatic 49, 3) := by decide +kernel
theorem dX5_stand_15 : decode cX5_stand 15 = .ok (.ifCond .ne 5, 3) := by decide +kernel
theorem dX5_stand_18 : decode cX5_stand 18 = .ok (.iconst (-1), 1) := by decide +kernel
theorem dX5_stand_19 : decode cX5_stand 19 = .ok (.ireturn, 1) := by decide +kernel
theorem dX5_stand_20 : decode cX5_stand 20 = .ok (.aload_n 0, 1) := by decide +kernel
theorem dX5_stand_21 : decode cX5_stand 21 = .ok (.iload_n 1, 1) := by decide +kernel
theorem dX5_stand_22 : decode cX5_stand 22 = .ok (.invokevirtual 67, 3) := by decide +kernel
theorem dX5_stand_25 : decode cX5_stand 25 = .ok (.ifCond .ne 6, 3) := by decide +kernel
theorem dX5_stand_28 : decode cX5_stand 28 = .ok (.bipush (-2), 2) := by decide +kernel
theorem dX5_stand_30 : decode cX5_stand 30 = .ok (.ireturn, 1) := by decide +kernel
theorem dX5_stand_31 : decode cX5_stand 31 = .ok (.bipush (-4), 2) := by decide +kernel
theorem dX5_stand_33 : decode cX5_stand 33 = .ok (.istore_n 3, 1) := by decide +kernel
theorem dX5_stand_34 : decode cX5_stand 34 = .ok (.iconst 0, 1) := by decide +kernel
theorem dX5_stand_35 : decode cX5_stand 35 = .ok (.istore 4, 2) := by decide +kernel
theorem dX5_stand_37 : decode cX5_stand 37 = .ok (.aload_n 0, 1) := by decide +kernel
theorem dX5_stand_38 : decode cX5_stand 38 = .ok (.invokevirtual 173, 3) := by decide +kernel
theorem dX5_stand_41 : decode cX5_stand 41 = .ok (.iconst 0, 1) := by decide +kernel
theorem dX5_stand_42 : decode cX5_stand 42 = .ok (.istore 5, 2) := by decide +kernel
theorem dX5_stand_44 : decode cX5_stand 44 = .ok (.iload 5, 2) := by decide +kernel
theorem dX5_stand_46 : decode cX5_stand 46 = .ok (.aload_n 0, 1) := by decide +kernel
theorem dX5_stand_47 : decode cX5_stand 47 = .ok (.invokevirtual 93, 3) := by decide +kernel
theorem dX5_stand_50 : decode cX5_stand 50 = .ok (.if_icmp .ge 63, 3) := by decide +kernel
theorem dX5_stand_53 : decode cX5_stand 53 = .ok (.aload_n 0, 1) := by decide +kernel
theorem dX5_stand_54 : decode cX5_stand 54 = .ok (.getfield 7, 3) := by decide +kernel
theorem dX5_stand_57 : decode cX5_stand 57 = .ok (.bipush 9, 2) := by decide +kernel
theorem dX5_stand_59 : decode cX5_stand 59 = .ok (.iconst 5, 1) := by decide +kernel
theorem dX5_stand_60 : decode cX5_stand 60 = .ok (.iload_n 1, 1) := by decide +kernel
theorem dX5_stand_61 : decode cX5_stand 61 = .ok (.imul, 1) := by decide +kernel
theorem dX5_stand_62 : decode cX5_stand 62 = .ok (.iadd, 1) := by decide +kernel
theorem dX5_stand_63 : decode cX5_stand 63 = .ok (.iconst 1, 1) := by decide +kernel
theorem dX5_stand_64 : decode cX5_stand 64 = .ok (.iadd, 1) := by decide +kernel
theorem dX5_stand_65 : decode cX5_stand 65 = .ok (.iload 5, 2) := by decide +kernel
theorem dX5_stand_67 : decode cX5_stand 67 = .ok (.iastore, 1) := by decide +kernel
theorem dX5_stand_68 : decode cX5_stand 68 = .ok (.aload_n 0, 1) := by decide +kernel
theorem dX5_stand_69 : decode cX5_stand 69 = .ok (.iload_n 1, 1) := by decide +kernel
theorem dX5_stand_70 : decode cX5_stand 70 = .ok (.bipush 60, 2) := by decide +kernel
theorem dX5_stand_72 : decode cX5_stand 72 = .ok (.invokevirtual 182, 3) := by decide +kernel
theorem dX5_stand_75 : decode cX5_stand 75 = .ok (.istore 6, 2) := by decide +kernel
theorem dX5_stand_77 : decode cX5_stand 77 = .ok (.iload 6, 2) := by decide +kernel
theorem dX5_stand_79 : decode cX5_stand 79 = .ok (.iload 4, 2) := by decide +kernel
theorem dX5_stand_81 : decode cX5_stand 81 = .ok (.if_icmp .le 8, 3) := by decide +kernel
theorem dX5_stand_84 : decode cX5_stand 84 = .ok (.iload 5, 2) := by decide +kernel
theorem dX5_stand_86 : decode cX5_stand 86 = .ok (.goto 4, 3) := by decide +kernel
theorem dX5_stand_89 : decode cX5_stand 89 = .ok (.iload_n 3, 1) := by decide +kernel
theorem dX5_stand_90 : decode cX5_stand 90 = .ok (.istore_n 3, 1) := by decide +kernel
theorem dX5_stand_91 : decode cX5_stand 91 = .ok (.iload 6, 2) := by decide +kernel
theorem dX5_stand_93 : decode cX5_stand 93 = .ok (.iload 4, 2) := by decide +kernel
theorem dX5_stand_95 : decode cX5_stand 95 = .ok (.if_icmp .le 8, 3) := by decide +kernel
theorem dX5_stand_98 : decode cX5_stand 98 = .ok (.iload 6, 2) := by decide +kernel
theorem dX5_stand_100 : decode cX5_stand 100 = .ok (.goto 5, 3) := by decide +kernel
theorem dX5_stand_103 : decode cX5_stand 103 = .ok (.iload 4, 2) := by decide +kernel
theorem dX5_stand_105 : decode cX5_stand 105 = .ok (.istore 4, 2) := by decide +kernel
theorem dX5_stand_107 : decode cX5_stand 107 = .ok (.iinc 5 1, 3) := by decide +kernel
theorem dX5_stand_110 : decode cX5_stand 110 = .ok (.goto (-66), 3) := by decide +kernel
theorem dX5_stand_113 : decode cX5_stand 113 = .ok (.iload_n 2, 1) := by decide +kernel
theorem dX5_stand_114 : decode cX5_stand 114 = .ok (.ifCond .ne 7, 3) := by decide +kernel
theorem dX5_stand_117 : decode cX5_stand 117 = .ok (.iload_n 3, 1) := by decide +kernel
theorem dX5_stand_118 : decode cX5_stand 118 = .ok (.goto 5, 3) := by decide +kernel
theorem dX5_stand_121 : decode cX5_stand 121 = .ok (.iload 4, 2) := by decide +kernel
theorem dX5_stand_123 : decode cX5_stand 123 = .ok (.ireturn, 1) := by decide +kernel
theorem dX5_hush_0 : decode cX5_hush 0 = .ok (.aload_n 0, 1) := by decide +kernel
theorem dX5_hush_1 : decode cX5_hush 1 = .ok (.iload_n 1, 1) := by decide +kernel
theorem dX5_hush_2 : decode cX5_hush 2 = .ok (.invokevirtual 107, 3) := by decide +kernel
theorem dX5_hush_5 : decode cX5_hush 5 = .ok (.ifCond .eq 15, 3) := by decide +kernel
theorem dX5_hush_8 : decode cX5_hush 8 = .ok (.iload_n 2, 1) := by decide +kernel
theorem dX5_hush_9 : decode cX5_hush 9 = .ok (.i2l, 1) := by decide +kernel
theorem dX5_hush_10 : decode cX5_hush 10 = .ok (.lconst 1, 1) := by decide +kernel
theorem dX5_hush_11 : decode cX5_hush 11 = .ok (.ldc2_w 171, 3) := by decide +kernel
theorem dX5_hush_14 : decode cX5_hush 14 = .ok (.invokestatic 49, 3) := by decide +kernel
theorem dX5_hush_17 : decode cX5_hush 17 = .ok (.ifCond .ne 5, 3) := by decide +kernel
theorem dX5_hush_20 : decode cX5_hush 20 = .ok (.iconst (-1), 1) := by decide +kernel
