/-! STEPS, printed by program: M4 -/
theorem dX8_endsAnew_0 : decode cX8_endsAnew 0 = .ok (.aload_n 0, 1) := by decide +kernel
theorem dX8_endsAnew_1 : decode cX8_endsAnew 1 = .ok (.aload_n 0, 1) := by decide +kernel
theorem dX8_endsAnew_2 : decode cX8_endsAnew 2 = .ok (.getfield 29, 3) := by decide +kernel
theorem dX8_endsAnew_5 : decode cX8_endsAnew 5 = .ok (.iconst 2, 1) := by decide +kernel
theorem dX8_endsAnew_6 : decode cX8_endsAnew 6 = .ok (.iaload, 1) := by decide +kernel
theorem dX8_endsAnew_7 : decode cX8_endsAnew 7 = .ok (.aload_n 0, 1) := by decide +kernel
theorem dX8_endsAnew_8 : decode cX8_endsAnew 8 = .ok (.getfield 29, 3) := by decide +kernel
theorem dX8_endsAnew_11 : decode cX8_endsAnew 11 = .ok (.iconst 3, 1) := by decide +kernel
theorem dX8_endsAnew_12 : decode cX8_endsAnew 12 = .ok (.iaload, 1) := by decide +kernel
theorem dX8_endsAnew_13 : decode cX8_endsAnew 13 = .ok (.invokevirtual 356, 3) := by decide +kernel
theorem dX8_endsAnew_16 : decode cX8_endsAnew 16 = .ok (.aload_n 0, 1) := by decide +kernel
theorem dX8_endsAnew_17 : decode cX8_endsAnew 17 = .ok (.iload_n 1, 1) := by decide +kernel
theorem dX8_endsAnew_18 : decode cX8_endsAnew 18 = .ok (.iconst 1, 1) := by decide +kernel
theorem dX8_endsAnew_19 : decode cX8_endsAnew 19 = .ok (.aload_n 0, 1) := by decide +kernel
theorem dX8_endsAnew_20 : decode cX8_endsAnew 20 = .ok (.iload_n 1, 1) := by decide +kernel
theorem dX8_endsAnew_21 : decode cX8_endsAnew 21 = .ok (.iconst 1, 1) := by decide +kernel
theorem dX8_endsAnew_22 : decode cX8_endsAnew 22 = .ok (.invokevirtual 228, 3) := by decide +kernel
theorem dX8_endsAnew_25 : decode cX8_endsAnew 25 = .ok (.iload_n 2, 1) := by decide +kernel
theorem dX8_endsAnew_26 : decode cX8_endsAnew 26 = .ok (.iadd, 1) := by decide +kernel
theorem dX8_endsAnew_27 : decode cX8_endsAnew 27 = .ok (.invokevirtual 225, 3) := by decide +kernel
theorem dX8_endsAnew_30 : decode cX8_endsAnew 30 = .ok (.aload_n 0, 1) := by decide +kernel
theorem dX8_endsAnew_31 : decode cX8_endsAnew 31 = .ok (.sipush 200, 3) := by decide +kernel
theorem dX8_endsAnew_34 : decode cX8_endsAnew 34 = .ok (.invokevirtual 350, 3) := by decide +kernel
theorem dX8_endsAnew_37 : decode cX8_endsAnew 37 = .ok (.aload_n 0, 1) := by decide +kernel
theorem dX8_endsAnew_38 : decode cX8_endsAnew 38 = .ok (.iload_n 1, 1) := by decide +kernel
theorem dX8_endsAnew_39 : decode cX8_endsAnew 39 = .ok (.bipush 7, 2) := by decide +kernel
theorem dX8_endsAnew_41 : decode cX8_endsAnew 41 = .ok (.invokevirtual 228, 3) := by decide +kernel
theorem dX8_endsAnew_44 : decode cX8_endsAnew 44 = .ok (.istore_n 3, 1) := by decide +kernel
theorem dX8_endsAnew_45 : decode cX8_endsAnew 45 = .ok (.aload_n 0, 1) := by decide +kernel
theorem dX8_endsAnew_46 : decode cX8_endsAnew 46 = .ok (.getfield 29, 3) := by decide +kernel
theorem dX8_endsAnew_49 : decode cX8_endsAnew 49 = .ok (.aload_n 0, 1) := by decide +kernel
theorem dX8_endsAnew_50 : decode cX8_endsAnew 50 = .ok (.getfield 64, 3) := by decide +kernel
theorem dX8_endsAnew_53 : decode cX8_endsAnew 53 = .ok (.invokestatic 204, 3) := by decide +kernel
theorem dX8_endsAnew_56 : decode cX8_endsAnew 56 = .ok (.iload_n 3, 1) := by decide +kernel
theorem dX8_endsAnew_57 : decode cX8_endsAnew 57 = .ok (.ireturn, 1) := by decide +kernel
theorem dX8_tellFits_0 : decode cX8_tellFits 0 = .ok (.aload_n 0, 1) := by decide +kernel
theorem dX8_tellFits_1 : decode cX8_tellFits 1 = .ok (.iconst 0, 1) := by decide +kernel
theorem dX8_tellFits_2 : decode cX8_tellFits 2 = .ok (.putfield 423, 3) := by decide +kernel
theorem dX8_tellFits_5 : decode cX8_tellFits 5 = .ok (.aload_n 0, 1) := by decide +kernel
theorem dX8_tellFits_6 : decode cX8_tellFits 6 = .ok (.iconst (-1), 1) := by decide +kernel
theorem dX8_tellFits_7 : decode cX8_tellFits 7 = .ok (.putfield 426, 3) := by decide +kernel
theorem dX8_tellFits_10 : decode cX8_tellFits 10 = .ok (.iconst 0, 1) := by decide +kernel
theorem dX8_tellFits_11 : decode cX8_tellFits 11 = .ok (.istore_n 1, 1) := by decide +kernel
theorem dX8_tellFits_12 : decode cX8_tellFits 12 = .ok (.iload_n 1, 1) := by decide +kernel
theorem dX8_tellFits_13 : decode cX8_tellFits 13 = .ok (.bipush 36, 2) := by decide +kernel
theorem dX8_tellFits_15 : decode cX8_tellFits 15 = .ok (.if_icmp .ge 168, 3) := by decide +kernel
theorem dX8_tellFits_18 : decode cX8_tellFits 18 = .ok (.aload_n 0, 1) := by decide +kernel
theorem dX8_tellFits_19 : decode cX8_tellFits 19 = .ok (.iload_n 1, 1) := by decide +kernel
theorem dX8_tellFits_20 : decode cX8_tellFits 20 = .ok (.bipush 12, 2) := by decide +kernel
theorem dX8_tellFits_22 : decode cX8_tellFits 22 = .ok (.idiv, 1) := by decide +kernel
theorem dX8_tellFits_23 : decode cX8_tellFits 23 = .ok (.iload_n 1, 1) := by decide +kernel
theorem dX8_tellFits_24 : decode cX8_tellFits 24 = .ok (.bipush 12, 2) := by decide +kernel
theorem dX8_tellFits_26 : decode cX8_tellFits 26 = .ok (.irem, 1) := by decide +kernel
theorem dX8_tellFits_27 : decode cX8_tellFits 27 = .ok (.invokevirtual 356, 3) := by decide +kernel
theorem dX8_tellFits_30 : decode cX8_tellFits 30 = .ok (.aload_n 0, 1) := by decide +kernel
theorem dX8_tellFits_31 : decode cX8_tellFits 31 = .ok (.sipush 200, 3) := by decide +kernel
theorem dX8_tellFits_34 : decode cX8_tellFits 34 = .ok (.invokevirtual 350, 3) := by decide +kernel
theorem dX8_tellFits_37 : decode cX8_tellFits 37 = .ok (.iconst 1, 1) := by decide +kernel
theorem dX8_tellFits_38 : decode cX8_tellFits 38 = .ok (.istore_n 2, 1) := by decide +kernel
theorem dX8_tellFits_39 : decode cX8_tellFits 39 = .ok (.iconst 0, 1) := by decide +kernel
theorem dX8_tellFits_40 : decode cX8_tellFits 40 = .ok (.istore_n 3, 1) := by decide +kernel
theorem dX8_tellFits_41 : decode cX8_tellFits 41 = .ok (.iload_n 3, 1) := by decide +kernel
theorem dX8_tellFits_42 : decode cX8_tellFits 42 = .ok (.aload_n 0, 1) := by decide +kernel
theorem dX8_tellFits_43 : decode cX8_tellFits 43 = .ok (.getfield 211, 3) := by decide +kernel
theorem dX8_tellFits_46 : decode cX8_tellFits 46 = .ok (.if_icmp .ge 40, 3) := by decide +kernel
theorem dX8_tellFits_49 : decode cX8_tellFits 49 = .ok (.iload_n 2, 1) := by decide +kernel
theorem dX8_tellFits_50 : decode cX8_tellFits 50 = .ok (.ifCond .eq 28, 3) := by decide +kernel
theorem dX8_tellFits_53 : decode cX8_tellFits 53 = .ok (.aload_n 0, 1) := by decide +kernel
theorem dX8_tellFits_54 : decode cX8_tellFits 54 = .ok (.aload_n 0, 1) := by decide +kernel
theorem dX8_tellFits_55 : decode cX8_tellFits 55 = .ok (.getfield 70, 3) := by decide +kernel
theorem dX8_tellFits_58 : decode cX8_tellFits 58 = .ok (.iload_n 3, 1) := by decide +kernel
theorem dX8_tellFits_59 : decode cX8_tellFits 59 = .ok (.iaload, 1) := by decide +kernel
theorem dX8_tellFits_60 : decode cX8_tellFits 60 = .ok (.bipush 7, 2) := by decide +kernel
theorem dX8_tellFits_62 : decode cX8_tellFits 62 = .ok (.invokevirtual 228, 3) := by decide +kernel
theorem dX8_tellFits_65 : decode cX8_tellFits 65 = .ok (.aload_n 0, 1) := by decide +kernel
theorem dX8_tellFits_66 : decode cX8_tellFits 66 = .ok (.getfield 73, 3) := by decide +kernel
theorem dX8_tellFits_69 : decode cX8_tellFits 69 = .ok (.iload_n 3, 1) := by decide +kernel
theorem dX8_tellFits_70 : decode cX8_tellFits 70 = .ok (.iaload, 1) := by decide +kernel
theorem dX8_tellFits_71 : decode cX8_tellFits 71 = .ok (.if_icmp .ne 7, 3) := by decide +kernel
theorem dX8_tellFits_74 : decode cX8_tellFits 74 = .ok (.iconst 1, 1) := by decide +kernel
theorem dX8_tellFits_75 : decode cX8_tellFits 75 = .ok (.goto 4, 3) := by decide +kernel
theorem dX8_tellFits_78 : decode cX8_tellFits 78 = .ok (.iconst 0, 1) := by decide +kernel
theorem dX8_tellFits_79 : decode cX8_tellFits 79 = .ok (.istore_n 2, 1) := by decide +kernel
theorem dX8_tellFits_80 : decode cX8_tellFits 80 = .ok (.iinc 3 1, 3) := by decide +kernel
theorem dX8_tellFits_83 : decode cX8_tellFits 83 = .ok (.goto (-42), 3) := by decide +kernel
theorem dX8_tellFits_86 : decode cX8_tellFits 86 = .ok (.iconst 0, 1) := by decide +kernel
theorem dX8_tellFits_87 : decode cX8_tellFits 87 = .ok (.istore_n 3, 1) := by decide +kernel
theorem dX8_tellFits_88 : decode cX8_tellFits 88 = .ok (.iload_n 3, 1) := by decide +kernel
theorem dX8_tellFits_89 : decode cX8_tellFits 89 = .ok (.aload_n 0, 1) := by decide +kernel
theorem dX8_tellFits_90 : decode cX8_tellFits 90 = .ok (.getfield 36, 3) := by decide +kernel
theorem dX8_tellFits_93 : decode cX8_tellFits 93 = .ok (.iconst 2, 1) := by decide +kernel
theorem dX8_tellFits_94 : decode cX8_tellFits 94 = .ok (.iaload, 1) := by decide +kernel
theorem dX8_tellFits_95 : decode cX8_tellFits 95 = .ok (.if_icmp .ge 34, 3) := by decide +kernel
theorem dX8_tellFits_98 : decode cX8_tellFits 98 = .ok (.iload_n 2, 1) := by decide +kernel
theorem dX8_tellFits_99 : decode cX8_tellFits 99 = .ok (.ifCond .eq 30, 3) := by decide +kernel
theorem dX8_tellFits_102 : decode cX8_tellFits 102 = .ok (.aload_n 0, 1) := by decide +kernel
theorem dX8_tellFits_103 : decode cX8_tellFits 103 = .ok (.getfield 76, 3) := by decide +kernel
theorem dX8_tellFits_106 : decode cX8_tellFits 106 = .ok (.bipush 20, 2) := by decide +kernel
theorem dX8_tellFits_108 : decode cX8_tellFits 108 = .ok (.aload_n 0, 1) := by decide +kernel
theorem dX8_tellFits_109 : decode cX8_tellFits 109 = .ok (.getfield 423, 3) := by decide +kernel
theorem dX8_tellFits_112 : decode cX8_tellFits 112 = .ok (.imul, 1) := by decide +kernel
theorem dX8_tellFits_113 : decode cX8_tellFits 113 = .ok (.iload_n 3, 1) := by decide +kernel
theorem dX8_tellFits_114 : decode cX8_tellFits 114 = .ok (.iadd, 1) := by decide +kernel
theorem dX8_tellFits_115 : decode cX8_tellFits 115 = .ok (.aload_n 0, 1) := by decide +kernel
theorem dX8_tellFits_116 : decode cX8_tellFits 116 = .ok (.iload_n 3, 1) := by decide +kernel
theorem dX8_tellFits_117 : decode cX8_tellFits 117 = .ok (.bipush 7, 2) := by decide +kernel
theorem dX8_tellFits_119 : decode cX8_tellFits 119 = .ok (.invokevirtual 228, 3) := by decide +kernel
theorem dX8_tellFits_122 : decode cX8_tellFits 122 = .ok (.iastore, 1) := by decide +kernel
theorem dX8_tellFits_123 : decode cX8_tellFits 123 = .ok (.iinc 3 1, 3) := by decide +kernel
theorem dX8_tellFits_126 : decode cX8_tellFits 126 = .ok (.goto (-38), 3) := by decide +kernel
theorem dX8_tellFits_129 : decode cX8_tellFits 129 = .ok (.aload_n 0, 1) := by decide +kernel
theorem dX8_tellFits_130 : decode cX8_tellFits 130 = .ok (.getfield 29, 3) := by decide +kernel
theorem dX8_tellFits_133 : decode cX8_tellFits 133 = .ok (.aload_n 0, 1) := by decide +kernel
theorem dX8_tellFits_134 : decode cX8_tellFits 134 = .ok (.getfield 64, 3) := by decide +kernel
theorem dX8_tellFits_137 : decode cX8_tellFits 137 = .ok (.invokestatic 204, 3) := by decide +kernel
theorem dX8_tellFits_140 : decode cX8_tellFits 140 = .ok (.iload_n 2, 1) := by decide +kernel
theorem dX8_tellFits_141 : decode cX8_tellFits 141 = .ok (.ifCond .ne 6, 3) := by decide +kernel
theorem dX8_tellFits_144 : decode cX8_tellFits 144 = .ok (.goto 33, 3) := by decide +kernel
theorem dX8_tellFits_147 : decode cX8_tellFits 147 = .ok (.aload_n 0, 1) := by decide +kernel
theorem dX8_tellFits_148 : decode cX8_tellFits 148 = .ok (.aload_n 0, 1) := by decide +kernel
theorem dX8_tellFits_149 : decode cX8_tellFits 149 = .ok (.getfield 426, 3) := by decide +kernel
theorem dX8_tellFits_152 : decode cX8_tellFits 152 = .ok (.iconst (-1), 1) := by decide +kernel
theorem dX8_tellFits_153 : decode cX8_tellFits 153 = .ok (.if_icmp .ne 7, 3) := by decide +kernel
theorem dX8_tellFits_156 : decode cX8_tellFits 156 = .ok (.iload_n 1, 1) := by decide +kernel
theorem dX8_tellFits_157 : decode cX8_tellFits 157 = .ok (.goto 7, 3) := by decide +kernel
theorem dX8_tellFits_160 : decode cX8_tellFits 160 = .ok (.aload_n 0, 1) := by decide +kernel
theorem dX8_tellFits_161 : decode cX8_tellFits 161 = .ok (.getfield 426, 3) := by decide +kernel
theorem dX8_tellFits_164 : decode cX8_tellFits 164 = .ok (.putfield 426, 3) := by decide +kernel
theorem dX8_tellFits_167 : decode cX8_tellFits 167 = .ok (.aload_n 0, 1) := by decide +kernel
theorem dX8_tellFits_168 : decode cX8_tellFits 168 = .ok (.dup, 1) := by decide +kernel
theorem dX8_tellFits_169 : decode cX8_tellFits 169 = .ok (.getfield 423, 3) := by decide +kernel
theorem dX8_tellFits_172 : decode cX8_tellFits 172 = .ok (.iconst 1, 1) := by decide +kernel
theorem dX8_tellFits_173 : decode cX8_tellFits 173 = .ok (.iadd, 1) := by decide +kernel
theorem dX8_tellFits_174 : decode cX8_tellFits 174 = .ok (.putfield 423, 3) := by decide +kernel
theorem dX8_tellFits_177 : decode cX8_tellFits 177 = .ok (.iinc 1 1, 3) := by decide +kernel
theorem dX8_tellFits_180 : decode cX8_tellFits 180 = .ok (.goto (-168), 3) := by decide +kernel
theorem dX8_tellFits_183 : decode cX8_tellFits 183 = .ok (.return_, 1) := by decide +kernel
theorem dX8_years_0 : decode cX8_years 0 = .ok (.aload_n 0, 1) := by decide +kernel
theorem dX8_years_1 : decode cX8_years 1 = .ok (.iconst 0, 1) := by decide +kernel
theorem dX8_years_2 : decode cX8_years 2 = .ok (.putfield 104, 3) := by decide +kernel
theorem dX8_years_5 : decode cX8_years 5 = .ok (.iload_n 3, 1) := by decide +kernel
theorem dX8_years_6 : decode cX8_years 6 = .ok (.iconst 0, 1) := by decide +kernel
theorem dX8_years_7 : decode cX8_years 7 = .ok (.iconst 2, 1) := by decide +kernel
theorem dX8_years_8 : decode cX8_years 8 = .ok (.invokestatic 390, 3) := by decide +kernel
theorem dX8_years_11 : decode cX8_years 11 = .ok (.ifCond .ne 9, 3) := by decide +kernel
theorem dX8_years_14 : decode cX8_years 14 = .ok (.aload_n 0, 1) := by decide +kernel
theorem dX8_years_15 : decode cX8_years 15 = .ok (.iconst 1, 1) := by decide +kernel
theorem dX8_years_16 : decode cX8_years 16 = .ok (.invokevirtual 198, 3) := by decide +kernel
theorem dX8_years_19 : decode cX8_years 19 = .ok (.ireturn, 1) := by decide +kernel
theorem dX8_years_20 : decode cX8_years 20 = .ok (.iload_n 2, 1) := by decide +kernel
theorem dX8_years_21 : decode cX8_years 21 = .ok (.iconst 0, 1) := by decide +kernel
theorem dX8_years_22 : decode cX8_years 22 = .ok (.bipush 20, 2) := by decide +kernel
theorem dX8_years_24 : decode cX8_years 24 = .ok (.invokestatic 390, 3) := by decide +kernel
theorem dX8_years_27 : decode cX8_years 27 = .ok (.ifCond .ne 9, 3) := by decide +kernel
theorem dX8_years_30 : decode cX8_years 30 = .ok (.aload_n 0, 1) := by decide +kernel
theorem dX8_years_31 : decode cX8_years 31 = .ok (.iconst 2, 1) := by decide +kernel
theorem dX8_years_32 : decode cX8_years 32 = .ok (.invokevirtual 198, 3) := by decide +kernel
theorem dX8_years_35 : decode cX8_years 35 = .ok (.ireturn, 1) := by decide +kernel
theorem dX8_years_36 : decode cX8_years 36 = .ok (.aload_n 0, 1) := by decide +kernel
theorem dX8_years_37 : decode cX8_years 37 = .ok (.getfield 79, 3) := by decide +kernel
theorem dX8_years_40 : decode cX8_years 40 = .ok (.aload_n 0, 1) := by decide +kernel
theorem dX8_years_41 : decode cX8_years 41 = .ok (.getfield 29, 3) := by decide +kernel
theorem dX8_years_44 : decode cX8_years 44 = .ok (.invokestatic 204, 3) := by decide +kernel
theorem dX8_years_47 : decode cX8_years 47 = .ok (.aload_n 0, 1) := by decide +kernel
theorem dX8_years_48 : decode cX8_years 48 = .ok (.invokevirtual 353, 3) := by decide +kernel
theorem dX8_years_51 : decode cX8_years 51 = .ok (.istore 4, 2) := by decide +kernel
theorem dX8_years_53 : decode cX8_years 53 = .ok (.aload_n 0, 1) := by decide +kernel
theorem dX8_years_54 : decode cX8_years 54 = .ok (.iload_n 1, 1) := by decide +kernel
theorem dX8_years_55 : decode cX8_years 55 = .ok (.putfield 435, 3) := by decide +kernel
theorem dX8_years_58 : decode cX8_years 58 = .ok (.iconst 0, 1) := by decide +kernel
theorem dX8_years_59 : decode cX8_years 59 = .ok (.istore 5, 2) := by decide +kernel
theorem dX8_years_61 : decode cX8_years 61 = .ok (.iload 5, 2) := by decide +kernel
theorem dX8_years_63 : decode cX8_years 63 = .ok (.iload_n 2, 1) := by decide +kernel
theorem dX8_years_64 : decode cX8_years 64 = .ok (.if_icmp .ge 94, 3) := by decide +kernel
theorem dX8_years_67 : decode cX8_years 67 = .ok (.aload_n 0, 1) := by decide +kernel
theorem dX8_years_68 : decode cX8_years 68 = .ok (.aload_n 0, 1) := by decide +kernel
theorem dX8_years_69 : decode cX8_years 69 = .ok (.getfield 36, 3) := by decide +kernel
theorem dX8_years_72 : decode cX8_years 72 = .ok (.iconst 0, 1) := by decide +kernel
theorem dX8_years_73 : decode cX8_years 73 = .ok (.iaload, 1) := by decide +kernel
theorem dX8_years_74 : decode cX8_years 74 = .ok (.invokevirtual 439, 3) := by decide +kernel
theorem dX8_years_77 : decode cX8_years 77 = .ok (.istore 6, 2) := by decide +kernel
theorem dX8_years_79 : decode cX8_years 79 = .ok (.aload_n 0, 1) := by decide +kernel
theorem dX8_years_80 : decode cX8_years 80 = .ok (.aload_n 0, 1) := by decide +kernel
theorem dX8_years_81 : decode cX8_years 81 = .ok (.getfield 36, 3) := by decide +kernel
theorem dX8_years_84 : decode cX8_years 84 = .ok (.iconst 0, 1) := by decide +kernel
theorem dX8_years_85 : decode cX8_years 85 = .ok (.iaload, 1) := by decide +kernel
theorem dX8_years_86 : decode cX8_years 86 = .ok (.iconst 1, 1) := by decide +kernel
theorem dX8_years_87 : decode cX8_years 87 = .ok (.isub, 1) := by decide +kernel
theorem dX8_years_88 : decode cX8_years 88 = .ok (.invokevirtual 439, 3) := by decide +kernel
theorem dX8_years_91 : decode cX8_years 91 = .ok (.istore 7, 2) := by decide +kernel
theorem dX8_years_93 : decode cX8_years 93 = .ok (.aload_n 0, 1) := by decide +kernel
theorem dX8_years_94 : decode cX8_years 94 = .ok (.iconst 2, 1) := by decide +kernel
theorem dX8_years_95 : decode cX8_years 95 = .ok (.invokevirtual 439, 3) := by decide +kernel
theorem dX8_years_98 : decode cX8_years 98 = .ok (.iconst 1, 1) := by decide +kernel
theorem dX8_years_99 : decode cX8_years 99 = .ok (.iadd, 1) := by decide +kernel
theorem dX8_years_100 : decode cX8_years 100 = .ok (.istore 8, 2) := by decide +kernel
theorem dX8_years_102 : decode cX8_years 102 = .ok (.aload_n 0, 1) := by decide +kernel
theorem dX8_years_103 : decode cX8_years 103 = .ok (.getfield 29, 3) := by decide +kernel
theorem dX8_years_106 : decode cX8_years 106 = .ok (.bipush 6, 2) := by decide +kernel
theorem dX8_years_108 : decode cX8_years 108 = .ok (.iaload, 1) := by decide +kernel
theorem dX8_years_109 : decode cX8_years 109 = .ok (.bipush 24, 2) := by decide +kernel
theorem dX8_years_111 : decode cX8_years 111 = .ok (.if_icmp .ge 29, 3) := by decide +kernel
theorem dX8_years_114 : decode cX8_years 114 = .ok (.aload_n 0, 1) := by decide +kernel
theorem dX8_years_115 : decode cX8_years 115 = .ok (.iload 6, 2) := by decide +kernel
theorem dX8_years_117 : decode cX8_years 117 = .ok (.iload 7, 2) := by decide +kernel
theorem dX8_years_119 : decode cX8_years 119 = .ok (.iload 6, 2) := by decide +kernel
theorem dX8_years_121 : decode cX8_years 121 = .ok (.if_icmp .lt 10, 3) := by decide +kernel
theorem dX8_years_124 : decode cX8_years 124 = .ok (.iload 7, 2) := by decide +kernel
theorem dX8_years_126 : decode cX8_years 126 = .ok (.iconst 1, 1) := by decide +kernel
theorem dX8_years_127 : decode cX8_years 127 = .ok (.iadd, 1) := by decide +kernel
theorem dX8_years_128 : decode cX8_years 128 = .ok (.goto 5, 3) := by decide +kernel
theorem dX8_years_131 : decode cX8_years 131 = .ok (.iload 7, 2) := by decide +kernel
theorem dX8_years_133 : decode cX8_years 133 = .ok (.iload 8, 2) := by decide +kernel
theorem dX8_years_135 : decode cX8_years 135 = .ok (.invokevirtual 408, 3) := by decide +kernel
theorem dX8_years_138 : decode cX8_years 138 = .ok (.istore 9, 2) := by decide +kernel
theorem dX8_years_140 : decode cX8_years 140 = .ok (.aload_n 0, 1) := by decide +kernel
theorem dX8_years_141 : decode cX8_years 141 = .ok (.aload_n 0, 1) := by decide +kernel
theorem dX8_years_142 : decode cX8_years 142 = .ok (.bipush 8, 2) := by decide +kernel
theorem dX8_years_144 : decode cX8_years 144 = .ok (.invokevirtual 439, 3) := by decide +kernel
theorem dX8_years_147 : decode cX8_years 147 = .ok (.iconst 1, 1) := by decide +kernel
theorem dX8_years_148 : decode cX8_years 148 = .ok (.iadd, 1) := by decide +kernel
theorem dX8_years_149 : decode cX8_years 149 = .ok (.invokevirtual 350, 3) := by decide +kernel
theorem dX8_years_152 : decode cX8_years 152 = .ok (.iinc 5 1, 3) := by decide +kernel
theorem dX8_years_155 : decode cX8_years 155 = .ok (.goto (-94), 3) := by decide +kernel
theorem dX8_years_158 : decode cX8_years 158 = .ok (.iload_n 3, 1) := by decide +kernel
theorem dX8_years_159 : decode cX8_years 159 = .ok (.ifCond .ne 11, 3) := by decide +kernel
theorem dX8_years_162 : decode cX8_years 162 = .ok (.aload_n 0, 1) := by decide +kernel
theorem dX8_years_163 : decode cX8_years 163 = .ok (.iconst 3, 1) := by decide +kernel
theorem dX8_years_164 : decode cX8_years 164 = .ok (.invokevirtual 344, 3) := by decide +kernel
theorem dX8_years_167 : decode cX8_years 167 = .ok (.goto 31, 3) := by decide +kernel
theorem dX8_years_170 : decode cX8_years 170 = .ok (.iload_n 3, 1) := by decide +kernel
theorem dX8_years_171 : decode cX8_years 171 = .ok (.iconst 1, 1) := by decide +kernel
theorem dX8_years_172 : decode cX8_years 172 = .ok (.if_icmp .ne 13, 3) := by decide +kernel
theorem dX8_years_175 : decode cX8_years 175 = .ok (.aload_n 0, 1) := by decide +kernel
theorem dX8_years_176 : decode cX8_years 176 = .ok (.invokevirtual 353, 3) := by decide +kernel
theorem dX8_years_179 : decode cX8_years 179 = .ok (.iload 4, 2) := by decide +kernel
theorem dX8_years_181 : decode cX8_years 181 = .ok (.isub, 1) := by decide +kernel
theorem dX8_years_182 : decode cX8_years 182 = .ok (.goto 16, 3) := by decide +kernel
theorem dX8_years_185 : decode cX8_years 185 = .ok (.aload_n 0, 1) := by decide +kernel
theorem dX8_years_186 : decode cX8_years 186 = .ok (.getfield 29, 3) := by decide +kernel
theorem dX8_years_189 : decode cX8_years 189 = .ok (.iconst 5, 1) := by decide +kernel
theorem dX8_years_190 : decode cX8_years 190 = .ok (.iaload, 1) := by decide +kernel
theorem dX8_years_191 : decode cX8_years 191 = .ok (.aload_n 0, 1) := by decide +kernel
theorem dX8_years_192 : decode cX8_years 192 = .ok (.getfield 79, 3) := by decide +kernel
theorem dX8_years_195 : decode cX8_years 195 = .ok (.iconst 5, 1) := by decide +kernel
theorem dX8_years_196 : decode cX8_years 196 = .ok (.iaload, 1) := by decide +kernel
theorem dX8_years_197 : decode cX8_years 197 = .ok (.isub, 1) := by decide +kernel
theorem dX8_years_198 : decode cX8_years 198 = .ok (.istore 5, 2) := by decide +kernel
theorem dX8_years_200 : decode cX8_years 200 = .ok (.aload_n 0, 1) := by decide +kernel
theorem dX8_years_201 : decode cX8_years 201 = .ok (.getfield 29, 3) := by decide +kernel
theorem dX8_years_204 : decode cX8_years 204 = .ok (.aload_n 0, 1) := by decide +kernel
theorem dX8_years_205 : decode cX8_years 205 = .ok (.getfield 79, 3) := by decide +kernel
theorem dX8_years_208 : decode cX8_years 208 = .ok (.invokestatic 204, 3) := by decide +kernel
theorem dX8_years_211 : decode cX8_years 211 = .ok (.iload 5, 2) := by decide +kernel
theorem dX8_years_213 : decode cX8_years 213 = .ok (.ireturn, 1) := by decide +kernel
theorem dX8_best_0 : decode cX8_best 0 = .ok (.iconst 0, 1) := by decide +kernel
theorem dX8_best_1 : decode cX8_best 1 = .ok (.istore_n 1, 1) := by decide +kernel
theorem dX8_best_2 : decode cX8_best 2 = .ok (.iconst (-1), 1) := by decide +kernel
theorem dX8_best_3 : decode cX8_best 3 = .ok (.istore_n 2, 1) := by decide +kernel
theorem dX8_best_4 : decode cX8_best 4 = .ok (.iconst 0, 1) := by decide +kernel
theorem dX8_best_5 : decode cX8_best 5 = .ok (.istore_n 3, 1) := by decide +kernel
theorem dX8_best_6 : decode cX8_best 6 = .ok (.iload_n 3, 1) := by decide +kernel
theorem dX8_best_7 : decode cX8_best 7 = .ok (.iconst 3, 1) := by decide +kernel
theorem dX8_best_8 : decode cX8_best 8 = .ok (.if_icmp .ge 45, 3) := by decide +kernel
theorem dX8_best_11 : decode cX8_best 11 = .ok (.aload_n 0, 1) := by decide +kernel
theorem dX8_best_12 : decode cX8_best 12 = .ok (.iload_n 3, 1) := by decide +kernel
theorem dX8_best_13 : decode cX8_best 13 = .ok (.aload_n 0, 1) := by decide +kernel
theorem dX8_best_14 : decode cX8_best 14 = .ok (.getfield 29, 3) := by decide +kernel
theorem dX8_best_17 : decode cX8_best 17 = .ok (.iconst 3, 1) := by decide +kernel
theorem dX8_best_18 : decode cX8_best 18 = .ok (.iaload, 1) := by decide +kernel
theorem dX8_best_19 : decode cX8_best 19 = .ok (.invokevirtual 356, 3) := by decide +kernel
theorem dX8_best_22 : decode cX8_best 22 = .ok (.aload_n 0, 1) := by decide +kernel
theorem dX8_best_23 : decode cX8_best 23 = .ok (.invokevirtual 359, 3) := by decide +kernel
theorem dX8_best_26 : decode cX8_best 26 = .ok (.istore 4, 2) := by decide +kernel
theorem dX8_best_28 : decode cX8_best 28 = .ok (.iload_n 2, 1) := by decide +kernel
theorem dX8_best_29 : decode cX8_best 29 = .ok (.iconst (-1), 1) := by decide +kernel
theorem dX8_best_30 : decode cX8_best 30 = .ok (.if_icmp .eq 12, 3) := by decide +kernel
theorem dX8_best_33 : decode cX8_best 33 = .ok (.iload 4, 2) := by decide +kernel
theorem dX8_best_35 : decode cX8_best 35 = .ok (.iload_n 2, 1) := by decide +kernel
theorem dX8_best_36 : decode cX8_best 36 = .ok (.if_icmp .lt 6, 3) := by decide +kernel
theorem dX8_best_39 : decode cX8_best 39 = .ok (.goto 8, 3) := by decide +kernel
theorem dX8_best_42 : decode cX8_best 42 = .ok (.iload_n 3, 1) := by decide +kernel
theorem dX8_best_43 : decode cX8_best 43 = .ok (.istore_n 1, 1) := by decide +kernel
theorem dX8_best_44 : decode cX8_best 44 = .ok (.iload 4, 2) := by decide +kernel
theorem dX8_best_46 : decode cX8_best 46 = .ok (.istore_n 2, 1) := by decide +kernel
theorem dX8_best_47 : decode cX8_best 47 = .ok (.iinc 3 1, 3) := by decide +kernel
theorem dX8_best_50 : decode cX8_best 50 = .ok (.goto (-44), 3) := by decide +kernel
theorem dX8_best_53 : decode cX8_best 53 = .ok (.iload_n 1, 1) := by decide +kernel
theorem dX8_best_54 : decode cX8_best 54 = .ok (.ireturn, 1) := by decide +kernel
theorem dX8_missed_0 : decode cX8_missed 0 = .ok (.iconst (-1), 1) := by decide +kernel
theorem dX8_missed_1 : decode cX8_missed 1 = .ok (.istore_n 1, 1) := by decide +kernel
theorem dX8_missed_2 : decode cX8_missed 2 = .ok (.iconst (-1), 1) := by decide +kernel
theorem dX8_missed_3 : decode cX8_missed 3 = .ok (.istore_n 2, 1) := by decide +kernel
theorem dX8_missed_4 : decode cX8_missed 4 = .ok (.iconst 0, 1) := by decide +kernel
theorem dX8_missed_5 : decode cX8_missed 5 = .ok (.istore_n 3, 1) := by decide +kernel
theorem dX8_missed_6 : decode cX8_missed 6 = .ok (.iload_n 3, 1) := by decide +kernel
theorem dX8_missed_7 : decode cX8_missed 7 = .ok (.aload_n 0, 1) := by decide +kernel
theorem dX8_missed_8 : decode cX8_missed 8 = .ok (.getfield 36, 3) := by decide +kernel
theorem dX8_missed_11 : decode cX8_missed 11 = .ok (.iconst 1, 1) := by decide +kernel
theorem dX8_missed_12 : decode cX8_missed 12 = .ok (.iaload, 1) := by decide +kernel
theorem dX8_missed_13 : decode cX8_missed 13 = .ok (.if_icmp .ge 52, 3) := by decide +kernel
theorem dX8_missed_16 : decode cX8_missed 16 = .ok (.aload_n 0, 1) := by decide +kernel
theorem dX8_missed_17 : decode cX8_missed 17 = .ok (.aload_n 0, 1) := by decide +kernel
theorem dX8_missed_18 : decode cX8_missed 18 = .ok (.getfield 29, 3) := by decide +kernel
theorem dX8_missed_21 : decode cX8_missed 21 = .ok (.iconst 2, 1) := by decide +kernel
theorem dX8_missed_22 : decode cX8_missed 22 = .ok (.iaload, 1) := by decide +kernel
theorem dX8_missed_23 : decode cX8_missed 23 = .ok (.aload_n 0, 1) := by decide +kernel
theorem dX8_missed_24 : decode cX8_missed 24 = .ok (.getfield 29, 3) := by decide +kernel
theorem dX8_missed_27 : decode cX8_missed 27 = .ok (.iconst 3, 1) := by decide +kernel
theorem dX8_missed_28 : decode cX8_missed 28 = .ok (.iaload, 1) := by decide +kernel
theorem dX8_missed_29 : decode cX8_missed 29 = .ok (.invokevirtual 356, 3) := by decide +kernel
theorem dX8_missed_32 : decode cX8_missed 32 = .ok (.aload_n 0, 1) := by decide +kernel
theorem dX8_missed_33 : decode cX8_missed 33 = .ok (.iload_n 3, 1) := by decide +kernel
theorem dX8_missed_34 : decode cX8_missed 34 = .ok (.iconst 4, 1) := by decide +kernel
theorem dX8_missed_35 : decode cX8_missed 35 = .ok (.iconst 0, 1) := by decide +kernel
theorem dX8_missed_36 : decode cX8_missed 36 = .ok (.invokevirtual 221, 3) := by decide +kernel
theorem dX8_missed_39 : decode cX8_missed 39 = .ok (.aload_n 0, 1) := by decide +kernel
theorem dX8_missed_40 : decode cX8_missed 40 = .ok (.invokevirtual 359, 3) := by decide +kernel
theorem dX8_missed_43 : decode cX8_missed 43 = .ok (.istore 4, 2) := by decide +kernel
theorem dX8_missed_45 : decode cX8_missed 45 = .ok (.iload 4, 2) := by decide +kernel
theorem dX8_missed_47 : decode cX8_missed 47 = .ok (.iload_n 2, 1) := by decide +kernel
theorem dX8_missed_48 : decode cX8_missed 48 = .ok (.if_icmp .gt 6, 3) := by decide +kernel
theorem dX8_missed_51 : decode cX8_missed 51 = .ok (.goto 8, 3) := by decide +kernel
theorem dX8_missed_54 : decode cX8_missed 54 = .ok (.iload_n 3, 1) := by decide +kernel
theorem dX8_missed_55 : decode cX8_missed 55 = .ok (.istore_n 1, 1) := by decide +kernel
theorem dX8_missed_56 : decode cX8_missed 56 = .ok (.iload 4, 2) := by decide +kernel
theorem dX8_missed_58 : decode cX8_missed 58 = .ok (.istore_n 2, 1) := by decide +kernel
theorem dX8_missed_59 : decode cX8_missed 59 = .ok (.iinc 3 1, 3) := by decide +kernel
theorem dX8_missed_62 : decode cX8_missed 62 = .ok (.goto (-56), 3) := by decide +kernel
theorem dX8_missed_65 : decode cX8_missed 65 = .ok (.iload_n 1, 1) := by decide +kernel
theorem dX8_missed_66 : decode cX8_missed 66 = .ok (.ireturn, 1) := by decide +kernel
theorem dX8_mean_0 : decode cX8_mean 0 = .ok (.aload_n 0, 1) := by decide +kernel
theorem dX8_mean_1 : decode cX8_mean 1 = .ok (.iconst 0, 1) := by decide +kernel
theorem dX8_mean_2 : decode cX8_mean 2 = .ok (.putfield 104, 3) := by decide +kernel
theorem dX8_mean_5 : decode cX8_mean 5 = .ok (.iload_n 1, 1) := by decide +kernel
theorem dX8_mean_6 : decode cX8_mean 6 = .ok (.iload_n 2, 1) := by decide +kernel
theorem dX8_mean_7 : decode cX8_mean 7 = .ok (.invokestatic 414, 3) := by decide +kernel
theorem dX8_mean_10 : decode cX8_mean 10 = .ok (.ifCond .ne 9, 3) := by decide +kernel
theorem dX8_mean_13 : decode cX8_mean 13 = .ok (.aload_n 0, 1) := by decide +kernel
theorem dX8_mean_14 : decode cX8_mean 14 = .ok (.iconst 1, 1) := by decide +kernel
theorem dX8_mean_15 : decode cX8_mean 15 = .ok (.invokevirtual 198, 3) := by decide +kernel
theorem dX8_mean_18 : decode cX8_mean 18 = .ok (.ireturn, 1) := by decide +kernel
theorem dX8_mean_19 : decode cX8_mean 19 = .ok (.aload_n 0, 1) := by decide +kernel
theorem dX8_mean_20 : decode cX8_mean 20 = .ok (.iload_n 1, 1) := by decide +kernel
theorem dX8_mean_21 : decode cX8_mean 21 = .ok (.iload_n 2, 1) := by decide +kernel
theorem dX8_mean_22 : decode cX8_mean 22 = .ok (.invokevirtual 356, 3) := by decide +kernel
theorem dX8_mean_25 : decode cX8_mean 25 = .ok (.aload_n 0, 1) := by decide +kernel
theorem dX8_mean_26 : decode cX8_mean 26 = .ok (.invokevirtual 359, 3) := by decide +kernel
theorem dX8_mean_29 : decode cX8_mean 29 = .ok (.i2f, 1) := by decide +kernel
theorem dX8_mean_30 : decode cX8_mean 30 = .ok (.fstore_n 3, 1) := by decide +kernel
theorem dX8_mean_31 : decode cX8_mean 31 = .ok (.aload_n 0, 1) := by decide +kernel
theorem dX8_mean_32 : decode cX8_mean 32 = .ok (.getfield 36, 3) := by decide +kernel
theorem dX8_mean_35 : decode cX8_mean 35 = .ok (.iconst 2, 1) := by decide +kernel
theorem dX8_mean_36 : decode cX8_mean 36 = .ok (.iaload, 1) := by decide +kernel
theorem dX8_mean_37 : decode cX8_mean 37 = .ok (.i2f, 1) := by decide +kernel
theorem dX8_mean_38 : decode cX8_mean 38 = .ok (.fstore 4, 2) := by decide +kernel
theorem dX8_mean_40 : decode cX8_mean 40 = .ok (.aload_n 0, 1) := by decide +kernel
theorem dX8_mean_41 : decode cX8_mean 41 = .ok (.getfield 36, 3) := by decide +kernel
theorem dX8_mean_44 : decode cX8_mean 44 = .ok (.iconst 2, 1) := by decide +kernel
theorem dX8_mean_45 : decode cX8_mean 45 = .ok (.iaload, 1) := by decide +kernel
theorem dX8_mean_46 : decode cX8_mean 46 = .ok (.ifCond .ne 7, 3) := by decide +kernel
theorem dX8_mean_49 : decode cX8_mean 49 = .ok (.fconst 0, 1) := by decide +kernel
theorem dX8_mean_50 : decode cX8_mean 50 = .ok (.goto 7, 3) := by decide +kernel
theorem dX8_mean_53 : decode cX8_mean 53 = .ok (.fload_n 3, 1) := by decide +kernel
theorem dX8_mean_54 : decode cX8_mean 54 = .ok (.fload 4, 2) := by decide +kernel
theorem dX8_mean_56 : decode cX8_mean 56 = .ok (.fdiv, 1) := by decide +kernel
theorem dX8_mean_57 : decode cX8_mean 57 = .ok (.fstore 5, 2) := by decide +kernel
theorem dX8_mean_59 : decode cX8_mean 59 = .ok (.fload 5, 2) := by decide +kernel
theorem dX8_mean_61 : decode cX8_mean 61 = .ok (.invokestatic 261, 3) := by decide +kernel
theorem dX8_mean_64 : decode cX8_mean 64 = .ok (.ireturn, 1) := by decide +kernel
theorem dX8_homes_0 : decode cX8_homes 0 = .ok (.aload_n 0, 1) := by decide +kernel
theorem dX8_homes_1 : decode cX8_homes 1 = .ok (.iconst 0, 1) := by decide +kernel
theorem dX8_homes_2 : decode cX8_homes 2 = .ok (.putfield 104, 3) := by decide +kernel
theorem dX8_homes_5 : decode cX8_homes 5 = .ok (.aload_n 0, 1) := by decide +kernel
theorem dX8_homes_6 : decode cX8_homes 6 = .ok (.iload_n 1, 1) := by decide +kernel
theorem dX8_homes_7 : decode cX8_homes 7 = .ok (.invokevirtual 393, 3) := by decide +kernel
theorem dX8_homes_10 : decode cX8_homes 10 = .ok (.ifCond .eq 12, 3) := by decide +kernel
theorem dX8_homes_13 : decode cX8_homes 13 = .ok (.iload_n 2, 1) := by decide +kernel
theorem dX8_homes_14 : decode cX8_homes 14 = .ok (.iconst 0, 1) := by decide +kernel
theorem dX8_homes_15 : decode cX8_homes 15 = .ok (.iconst 1, 1) := by decide +kernel
theorem dX8_homes_16 : decode cX8_homes 16 = .ok (.invokestatic 390, 3) := by decide +kernel
theorem dX8_homes_19 : decode cX8_homes 19 = .ok (.ifCond .ne 9, 3) := by decide +kernel
theorem dX8_homes_22 : decode cX8_homes 22 = .ok (.aload_n 0, 1) := by decide +kernel
theorem dX8_homes_23 : decode cX8_homes 23 = .ok (.iconst 1, 1) := by decide +kernel
theorem dX8_homes_24 : decode cX8_homes 24 = .ok (.invokevirtual 198, 3) := by decide +kernel
theorem dX8_homes_27 : decode cX8_homes 27 = .ok (.ireturn, 1) := by decide +kernel
theorem dX8_homes_28 : decode cX8_homes 28 = .ok (.iconst 0, 1) := by decide +kernel
theorem dX8_homes_29 : decode cX8_homes 29 = .ok (.istore_n 3, 1) := by decide +kernel
theorem dX8_homes_30 : decode cX8_homes 30 = .ok (.iconst (-1), 1) := by decide +kernel
theorem dX8_homes_31 : decode cX8_homes 31 = .ok (.istore 4, 2) := by decide +kernel
theorem dX8_homes_33 : decode cX8_homes 33 = .ok (.iconst 0, 1) := by decide +kernel
theorem dX8_homes_34 : decode cX8_homes 34 = .ok (.istore 5, 2) := by decide +kernel
theorem dX8_homes_36 : decode cX8_homes 36 = .ok (.iload 5, 2) := by decide +kernel
theorem dX8_homes_38 : decode cX8_homes 38 = .ok (.aload_n 0, 1) := by decide +kernel
theorem dX8_homes_39 : decode cX8_homes 39 = .ok (.getfield 36, 3) := by decide +kernel
theorem dX8_homes_42 : decode cX8_homes 42 = .ok (.iconst 0, 1) := by decide +kernel
theorem dX8_homes_43 : decode cX8_homes 43 = .ok (.iaload, 1) := by decide +kernel
theorem dX8_homes_44 : decode cX8_homes 44 = .ok (.if_icmp .ge 71, 3) := by decide +kernel
theorem dX8_homes_47 : decode cX8_homes 47 = .ok (.aload_n 0, 1) := by decide +kernel
theorem dX8_homes_48 : decode cX8_homes 48 = .ok (.aload_n 0, 1) := by decide +kernel
theorem dX8_homes_49 : decode cX8_homes 49 = .ok (.getfield 29, 3) := by decide +kernel
theorem dX8_homes_52 : decode cX8_homes 52 = .ok (.iconst 2, 1) := by decide +kernel
theorem dX8_homes_53 : decode cX8_homes 53 = .ok (.iaload, 1) := by decide +kernel
theorem dX8_homes_54 : decode cX8_homes 54 = .ok (.aload_n 0, 1) := by decide +kernel
theorem dX8_homes_55 : decode cX8_homes 55 = .ok (.getfield 29, 3) := by decide +kernel
theorem dX8_homes_58 : decode cX8_homes 58 = .ok (.iconst 3, 1) := by decide +kernel
theorem dX8_homes_59 : decode cX8_homes 59 = .ok (.iaload, 1) := by decide +kernel
theorem dX8_homes_60 : decode cX8_homes 60 = .ok (.invokevirtual 356, 3) := by decide +kernel
theorem dX8_homes_63 : decode cX8_homes 63 = .ok (.aload_n 0, 1) := by decide +kernel
theorem dX8_homes_64 : decode cX8_homes 64 = .ok (.iload_n 1, 1) := by decide +kernel
theorem dX8_homes_65 : decode cX8_homes 65 = .ok (.bipush 6, 2) := by decide +kernel
theorem dX8_homes_67 : decode cX8_homes 67 = .ok (.iload 5, 2) := by decide +kernel
theorem dX8_homes_69 : decode cX8_homes 69 = .ok (.invokevirtual 221, 3) := by decide +kernel
theorem dX8_homes_72 : decode cX8_homes 72 = .ok (.aload_n 0, 1) := by decide +kernel
theorem dX8_homes_73 : decode cX8_homes 73 = .ok (.iload_n 1, 1) := by decide +kernel
theorem dX8_homes_74 : decode cX8_homes 74 = .ok (.iconst 0, 1) := by decide +kernel
theorem dX8_homes_75 : decode cX8_homes 75 = .ok (.iload 5, 2) := by decide +kernel
theorem dX8_homes_77 : decode cX8_homes 77 = .ok (.invokevirtual 221, 3) := by decide +kernel
theorem dX8_homes_80 : decode cX8_homes 80 = .ok (.aload_n 0, 1) := by decide +kernel
theorem dX8_homes_81 : decode cX8_homes 81 = .ok (.invokevirtual 359, 3) := by decide +kernel
theorem dX8_homes_84 : decode cX8_homes 84 = .ok (.istore 6, 2) := by decide +kernel
theorem dX8_homes_86 : decode cX8_homes 86 = .ok (.iload 4, 2) := by decide +kernel
theorem dX8_homes_88 : decode cX8_homes 88 = .ok (.iconst (-1), 1) := by decide +kernel
theorem dX8_homes_89 : decode cX8_homes 89 = .ok (.if_icmp .eq 13, 3) := by decide +kernel
theorem dX8_homes_92 : decode cX8_homes 92 = .ok (.iload 6, 2) := by decide +kernel
theorem dX8_homes_94 : decode cX8_homes 94 = .ok (.iload 4, 2) := by decide +kernel
theorem dX8_homes_96 : decode cX8_homes 96 = .ok (.if_icmp .lt 6, 3) := by decide +kernel
theorem dX8_homes_99 : decode cX8_homes 99 = .ok (.goto 10, 3) := by decide +kernel
theorem dX8_homes_102 : decode cX8_homes 102 = .ok (.iload 5, 2) := by decide +kernel
theorem dX8_homes_104 : decode cX8_homes 104 = .ok (.istore_n 3, 1) := by decide +kernel
theorem dX8_homes_105 : decode cX8_homes 105 = .ok (.iload 6, 2) := by decide +kernel
theorem dX8_homes_107 : decode cX8_homes 107 = .ok (.istore 4, 2) := by decide +kernel
theorem dX8_homes_109 : decode cX8_homes 109 = .ok (.iinc 5 1, 3) := by decide +kernel
theorem dX8_homes_112 : decode cX8_homes 112 = .ok (.goto (-76), 3) := by decide +kernel
theorem dX8_homes_115 : decode cX8_homes 115 = .ok (.iload_n 2, 1) := by decide +kernel
theorem dX8_homes_116 : decode cX8_homes 116 = .ok (.ifCond .ne 7, 3) := by decide +kernel
theorem dX8_homes_119 : decode cX8_homes 119 = .ok (.iload_n 3, 1) := by decide +kernel
theorem dX8_homes_120 : decode cX8_homes 120 = .ok (.goto 5, 3) := by decide +kernel
theorem dX8_homes_123 : decode cX8_homes 123 = .ok (.iload 4, 2) := by decide +kernel
theorem dX8_homes_125 : decode cX8_homes 125 = .ok (.ireturn, 1) := by decide +kernel
theorem dX8_later_0 : decode cX8_later 0 = .ok (.aload_n 0, 1) := by decide +kernel
theorem dX8_later_1 : decode cX8_later 1 = .ok (.iconst 0, 1) := by decide +kernel
theorem dX8_later_2 : decode cX8_later 2 = .ok (.putfield 104, 3) := by decide +kernel
theorem dX8_later_5 : decode cX8_later 5 = .ok (.iload_n 1, 1) := by decide +kernel
theorem dX8_later_6 : decode cX8_later 6 = .ok (.iconst 0, 1) := by decide +kernel
theorem dX8_later_7 : decode cX8_later 7 = .ok (.aload_n 0, 1) := by decide +kernel
theorem dX8_later_8 : decode cX8_later 8 = .ok (.getfield 36, 3) := by decide +kernel
theorem dX8_later_11 : decode cX8_later 11 = .ok (.iconst 2, 1) := by decide +kernel
theorem dX8_later_12 : decode cX8_later 12 = .ok (.iaload, 1) := by decide +kernel
theorem dX8_later_13 : decode cX8_later 13 = .ok (.iconst 1, 1) := by decide +kernel
theorem dX8_later_14 : decode cX8_later 14 = .ok (.isub, 1) := by decide +kernel
theorem dX8_later_15 : decode cX8_later 15 = .ok (.invokestatic 390, 3) := by decide +kernel
theorem dX8_later_18 : decode cX8_later 18 = .ok (.ifCond .ne 9, 3) := by decide +kernel
theorem dX8_later_21 : decode cX8_later 21 = .ok (.aload_n 0, 1) := by decide +kernel
theorem dX8_later_22 : decode cX8_later 22 = .ok (.iconst 1, 1) := by decide +kernel
theorem dX8_later_23 : decode cX8_later 23 = .ok (.invokevirtual 198, 3) := by decide +kernel
theorem dX8_later_26 : decode cX8_later 26 = .ok (.ireturn, 1) := by decide +kernel
theorem dX8_later_27 : decode cX8_later 27 = .ok (.aload_n 0, 1) := by decide +kernel
theorem dX8_later_28 : decode cX8_later 28 = .ok (.iload_n 1, 1) := by decide +kernel
theorem dX8_later_29 : decode cX8_later 29 = .ok (.iconst 0, 1) := by decide +kernel
theorem dX8_later_30 : decode cX8_later 30 = .ok (.invokevirtual 420, 3) := by decide +kernel
theorem dX8_later_33 : decode cX8_later 33 = .ok (.istore_n 2, 1) := by decide +kernel
theorem dX8_later_34 : decode cX8_later 34 = .ok (.iload_n 2, 1) := by decide +kernel
theorem dX8_later_35 : decode cX8_later 35 = .ok (.iconst (-1), 1) := by decide +kernel
theorem dX8_later_36 : decode cX8_later 36 = .ok (.if_icmp .ne 5, 3) := by decide +kernel
theorem dX8_later_39 : decode cX8_later 39 = .ok (.iconst 0, 1) := by decide +kernel
theorem dX8_later_40 : decode cX8_later 40 = .ok (.ireturn, 1) := by decide +kernel
theorem dX8_later_41 : decode cX8_later 41 = .ok (.iconst 0, 1) := by decide +kernel
theorem dX8_later_42 : decode cX8_later 42 = .ok (.istore_n 3, 1) := by decide +kernel
theorem dX8_later_43 : decode cX8_later 43 = .ok (.iconst 1, 1) := by decide +kernel
theorem dX8_later_44 : decode cX8_later 44 = .ok (.istore 4, 2) := by decide +kernel
theorem dX8_later_46 : decode cX8_later 46 = .ok (.iload 4, 2) := by decide +kernel
theorem dX8_later_48 : decode cX8_later 48 = .ok (.bipush 20, 2) := by decide +kernel
theorem dX8_later_50 : decode cX8_later 50 = .ok (.if_icmp .gt 55, 3) := by decide +kernel
theorem dX8_later_53 : decode cX8_later 53 = .ok (.aload_n 0, 1) := by decide +kernel
theorem dX8_later_54 : decode cX8_later 54 = .ok (.getfield 48, 3) := by decide +kernel
theorem dX8_later_57 : decode cX8_later 57 = .ok (.iconst 4, 1) := by decide +kernel
theorem dX8_later_58 : decode cX8_later 58 = .ok (.iload_n 1, 1) := by decide +kernel
theorem dX8_later_59 : decode cX8_later 59 = .ok (.imul, 1) := by decide +kernel
theorem dX8_later_60 : decode cX8_later 60 = .ok (.iconst 1, 1) := by decide +kernel
theorem dX8_later_61 : decode cX8_later 61 = .ok (.iadd, 1) := by decide +kernel
theorem dX8_later_62 : decode cX8_later 62 = .ok (.iaload, 1) := by decide +kernel
theorem dX8_later_63 : decode cX8_later 63 = .ok (.iload 4, 2) := by decide +kernel
theorem dX8_later_65 : decode cX8_later 65 = .ok (.iadd, 1) := by decide +kernel
theorem dX8_later_66 : decode cX8_later 66 = .ok (.bipush 99, 2) := by decide +kernel
theorem dX8_later_68 : decode cX8_later 68 = .ok (.if_icmp .gt 37, 3) := by decide +kernel
theorem dX8_later_71 : decode cX8_later 71 = .ok (.aload_n 0, 1) := by decide +kernel
theorem dX8_later_72 : decode cX8_later 72 = .ok (.iload_n 1, 1) := by decide +kernel
theorem dX8_later_73 : decode cX8_later 73 = .ok (.iload 4, 2) := by decide +kernel
theorem dX8_later_75 : decode cX8_later 75 = .ok (.invokevirtual 420, 3) := by decide +kernel
theorem dX8_later_78 : decode cX8_later 78 = .ok (.istore 5, 2) := by decide +kernel
theorem dX8_later_80 : decode cX8_later 80 = .ok (.iload 5, 2) := by decide +kernel
theorem dX8_later_82 : decode cX8_later 82 = .ok (.iconst (-1), 1) := by decide +kernel
theorem dX8_later_83 : decode cX8_later 83 = .ok (.if_icmp .eq 14, 3) := by decide +kernel
theorem dX8_later_86 : decode cX8_later 86 = .ok (.iload 5, 2) := by decide +kernel
theorem dX8_later_88 : decode cX8_later 88 = .ok (.iload_n 2, 1) := by decide +kernel
theorem dX8_later_89 : decode cX8_later 89 = .ok (.if_icmp .gt 8, 3) := by decide +kernel
theorem dX8_later_92 : decode cX8_later 92 = .ok (.iload 4, 2) := by decide +kernel
theorem dX8_later_94 : decode cX8_later 94 = .ok (.goto 4, 3) := by decide +kernel
theorem dX8_later_97 : decode cX8_later 97 = .ok (.iload_n 3, 1) := by decide +kernel
theorem dX8_later_98 : decode cX8_later 98 = .ok (.istore_n 3, 1) := by decide +kernel
theorem dX8_later_99 : decode cX8_later 99 = .ok (.iinc 4 1, 3) := by decide +kernel
theorem dX8_later_102 : decode cX8_later 102 = .ok (.goto (-56), 3) := by decide +kernel
theorem dX8_later_105 : decode cX8_later 105 = .ok (.iload_n 3, 1) := by decide +kernel
theorem dX8_later_106 : decode cX8_later 106 = .ok (.ireturn, 1) := by decide +kernel
theorem dX8_fits_0 : decode cX8_fits 0 = .ok (.aload_n 0, 1) := by decide +kernel
theorem dX8_fits_1 : decode cX8_fits 1 = .ok (.iconst 0, 1) := by decide +kernel
theorem dX8_fits_2 : decode cX8_fits 2 = .ok (.putfield 104, 3) := by decide +kernel
theorem dX8_fits_5 : decode cX8_fits 5 = .ok (.iload_n 1, 1) := by decide +kernel
theorem dX8_fits_6 : decode cX8_fits 6 = .ok (.iconst 0, 1) := by decide +kernel
theorem dX8_fits_7 : decode cX8_fits 7 = .ok (.iconst 1, 1) := by decide +kernel
theorem dX8_fits_8 : decode cX8_fits 8 = .ok (.invokestatic 390, 3) := by decide +kernel
theorem dX8_fits_11 : decode cX8_fits 11 = .ok (.ifCond .ne 9, 3) := by decide +kernel
theorem dX8_fits_14 : decode cX8_fits 14 = .ok (.aload_n 0, 1) := by decide +kernel
theorem dX8_fits_15 : decode cX8_fits 15 = .ok (.iconst 1, 1) := by decide +kernel
theorem dX8_fits_16 : decode cX8_fits 16 = .ok (.invokevirtual 198, 3) := by decide +kernel
theorem dX8_fits_19 : decode cX8_fits 19 = .ok (.ireturn, 1) := by decide +kernel
theorem dX8_fits_20 : decode cX8_fits 20 = .ok (.aload_n 0, 1) := by decide +kernel
theorem dX8_fits_21 : decode cX8_fits 21 = .ok (.invokevirtual 429, 3) := by decide +kernel
theorem dX8_fits_24 : decode cX8_fits 24 = .ok (.iload_n 1, 1) := by decide +kernel
theorem dX8_fits_25 : decode cX8_fits 25 = .ok (.ifCond .ne 10, 3) := by decide +kernel
theorem dX8_fits_28 : decode cX8_fits 28 = .ok (.aload_n 0, 1) := by decide +kernel
theorem dX8_fits_29 : decode cX8_fits 29 = .ok (.getfield 423, 3) := by decide +kernel
theorem dX8_fits_32 : decode cX8_fits 32 = .ok (.goto 7, 3) := by decide +kernel
theorem dX8_fits_35 : decode cX8_fits 35 = .ok (.aload_n 0, 1) := by decide +kernel
theorem dX8_fits_36 : decode cX8_fits 36 = .ok (.getfield 426, 3) := by decide +kernel
theorem dX8_fits_39 : decode cX8_fits 39 = .ok (.ireturn, 1) := by decide +kernel
set_option maxRecDepth 20000 in
set_option maxHeartbeats 4000000 in
theorem vX8_fits_0 {l : Launch} {x : CX} {a0 : Nat} {x1 : Int32} {h : PH} {rc rs n0 : Nat} {Q : Option Value → PH → Prop} {X : String → PH → Prop}
    (K : ((hK h a0).1 = 8) ∧ ∃ (q2 : Int32 → PH → Prop), CI l x mX8_isIn 0 0 0 [.int x1, .int 0, .int 1] (sI h a0 1 0) q2 ∧ ∀ (r5 : Int32) (h4 : PH), q2 r5 h4 → ((¬ r5 = 0 → ((hK h4 a0).1 = 8) ∧ ∃ (q7 : PH → Prop), CV l x mX8_tellFits 12 0 0 [.ref a0] h4 q7 ∧ ∀ (h10 : PH), q7 h10 → ((¬ x1 = 0 → ((hK h10 a0).1 = 8) ∧ Q (some (.int (hI h10 a0 30))) h10) ∧ (x1 = 0 → ((hK h10 a0).1 = 8) ∧ Q (some (.int (hI h10 a0 29))) h10))) ∧ (r5 = 0 → ((hK h4 a0).1 = 8) ∧ ∃ (q14 : Int32 → PH → Prop), CI l x mX8_fail 0 0 0 [.ref a0, .int 1] h4 q14 ∧ ∀ (r18 : Int32) (h17 : PH), q14 r18 h17 → Q (some (.int r18)) h17))) :
    Gm l x mX8_fits 13 0 [(0, .ref a0), (1, .int x1)] [] h rc rs n0 Q X := by
  refine g_aload_n dX8_fits_0 rfl 0 rfl ?_
  refine g_iconst (v := 0) dX8_fits_1 (by decide) ?_
  obtain ⟨e1, K⟩ := K
  refine g_puti (c := 8) (k := 1) dX8_fits_2 fc_8 (by decide) (by decide) bw_1198 (Or.inl rfl) rfl e1 ?_
  refine g_iload_n dX8_fits_5 rfl 1 rfl ?_
  refine g_iconst (v := 0) dX8_fits_6 (by decide) ?_
  refine g_iconst (v := 1) dX8_fits_7 (by decide) ?_
  obtain ⟨q2, C3, K⟩ := K
  refine g_callS (M' := mX8_isIn) (As := [.int x1, .int 0, .int 1]) (rest := []) dX8_fits_8 bw_1611 bw_1612 bw_9 bw_1613 ⟨by decide +kernel, by decide +kernel, show (parseMethodDescriptor mX8_isIn.1.desc).map (fun d => d.parameters.length) = some 3 by decide +kernel⟩ (by decide) (by decide) (Nat.le_of_ble_eq_true rfl) C3 (Nat.zero_le _) (Nat.zero_le _) (fun _ _ h => h) ?_
  rintro _ h4 ⟨r5, rfl, K1⟩ -
  replace K := K r5 h4 K1
  show Gm l x mX8_fits 13 11 [(0, .ref a0), (1, .int x1)] [.int r5] h4 rc rs n0 Q X
  refine g_if_ne (tgt := 20) dX8_fits_11 (by decide) (fun c6 => ?_) (fun c6 => ?_)
  · replace K := K.1 c6
    refine g_aload_n dX8_fits_20 rfl 0 rfl ?_
    obtain ⟨e9, K⟩ := K
    obtain ⟨q7, C8, K⟩ := K
    refine g_callV (M' := mX8_tellFits) (b := a0) (As := []) (rest := []) dX8_fits_21 bw_1718 bw_1720 bs_103 bw_9 bw_1721 ⟨by decide +kernel, by decide +kernel, show (parseMethodDescriptor mX8_tellFits.1.desc).map (fun d => d.parameters.length) = some 0 by decide +kernel⟩ (by decide) (by decide) (Nat.le_of_ble_eq_true rfl) fc_8 (by decide) rfl e9 C8 (Nat.zero_le _) (Nat.zero_le _) (fun _ _ h => h) ?_
    rintro _ h10 ⟨rfl, K1⟩ -
    replace K := K h10 K1
    show Gm l x mX8_fits 13 24 [(0, .ref a0), (1, .int x1)] [] h10 rc rs n0 Q X
    refine g_iload_n dX8_fits_24 rfl 1 rfl ?_
    refine g_if_ne (tgt := 35) dX8_fits_25 (by decide) (fun c11 => ?_) (fun c11 => ?_)
    · replace K := K.1 c11
      refine g_aload_n dX8_fits_35 rfl 0 rfl ?_
      obtain ⟨e12, K⟩ := K
      refine g_get (c := 8) (k := 30) (v := .int (hI h10 a0 30)) dX8_fits_36 fc_8 (by decide) (by decide) bw_1227 rfl e12 ?_
      exact g_iret dX8_fits_39 rfl K
    · replace K := K.2 c11
      refine g_aload_n dX8_fits_28 rfl 0 rfl ?_
      obtain ⟨e13, K⟩ := K
      refine g_get (c := 8) (k := 29) (v := .int (hI h10 a0 29)) dX8_fits_29 fc_8 (by decide) (by decide) bw_1226 rfl e13 ?_
      refine g_goto (tgt := 39) dX8_fits_32 (by decide) ?_
      exact g_iret dX8_fits_39 rfl K
  · replace K := K.2 c6
    refine g_aload_n dX8_fits_14 rfl 0 rfl ?_
    refine g_iconst (v := 1) dX8_fits_15 (by decide) ?_
    obtain ⟨e16, K⟩ := K
    obtain ⟨q14, C15, K⟩ := K
    refine g_callV (M' := mX8_fail) (b := a0) (As := [.int 1]) (rest := []) dX8_fits_16 bw_1336 bw_1338 bs_40 bw_9 bw_1339 ⟨by decide +kernel, by decide +kernel, show (parseMethodDescriptor mX8_fail.1.desc).map (fun d => d.parameters.length) = some 1 by decide +kernel⟩ (by decide) (by decide) (Nat.le_of_ble_eq_true rfl) fc_8 (by decide) rfl e16 C15 (Nat.zero_le _) (Nat.zero_le _) (fun _ _ h => h) ?_
    rintro _ h17 ⟨r18, rfl, K1⟩ -
    replace K := K r18 h17 K1
    show Gm l x mX8_fits 13 19 [(0, .ref a0), (1, .int x1)] [.int r18] h17 rc rs n0 Q X
    exact g_iret dX8_fits_19 rfl K
theorem dX8_look_0 : decode cX8_look 0 = .ok (.aload_n 0, 1) := by decide +kernel
theorem dX8_look_1 : decode cX8_look 1 = .ok (.iconst 0, 1) := by decide +kernel
theorem dX8_look_2 : decode cX8_look 2 = .ok (.putfield 104, 3) := by decide +kernel
theorem dX8_look_5 : decode cX8_look 5 = .ok (.iload_n 1, 1) := by decide +kernel
theorem dX8_look_6 : decode cX8_look 6 = .ok (.iconst 0, 1) := by decide +kernel
theorem dX8_look_7 : decode cX8_look 7 = .ok (.iconst 1, 1) := by decide +kernel
theorem dX8_look_8 : decode cX8_look 8 = .ok (.invokestatic 390, 3) := by decide +kernel
theorem dX8_look_11 : decode cX8_look 11 = .ok (.ifCond .ne 9, 3) := by decide +kernel
theorem dX8_look_14 : decode cX8_look 14 = .ok (.aload_n 0, 1) := by decide +kernel
theorem dX8_look_15 : decode cX8_look 15 = .ok (.iconst 1, 1) := by decide +kernel
theorem dX8_look_16 : decode cX8_look 16 = .ok (.invokevirtual 198, 3) := by decide +kernel
theorem dX8_look_19 : decode cX8_look 19 = .ok (.ireturn, 1) := by decide +kernel
theorem dX8_look_20 : decode cX8_look 20 = .ok (.aload_n 0, 1) := by decide +kernel
theorem dX8_look_21 : decode cX8_look 21 = .ok (.invokevirtual 429, 3) := by decide +kernel
theorem dX8_look_24 : decode cX8_look 24 = .ok (.iconst (-1), 1) := by decide +kernel
theorem dX8_look_25 : decode cX8_look 25 = .ok (.istore_n 2, 1) := by decide +kernel
theorem dX8_look_26 : decode cX8_look 26 = .ok (.iconst 0, 1) := by decide +kernel
theorem dX8_look_27 : decode cX8_look 27 = .ok (.istore_n 3, 1) := by decide +kernel
theorem dX8_look_28 : decode cX8_look 28 = .ok (.iconst 0, 1) := by decide +kernel
theorem dX8_look_29 : decode cX8_look 29 = .ok (.istore 4, 2) := by decide +kernel
theorem dX8_look_31 : decode cX8_look 31 = .ok (.iload 4, 2) := by decide +kernel
theorem dX8_look_33 : decode cX8_look 33 = .ok (.aload_n 0, 1) := by decide +kernel
theorem dX8_look_34 : decode cX8_look 34 = .ok (.getfield 36, 3) := by decide +kernel
theorem dX8_look_37 : decode cX8_look 37 = .ok (.iconst 2, 1) := by decide +kernel
theorem dX8_look_38 : decode cX8_look 38 = .ok (.iaload, 1) := by decide +kernel
theorem dX8_look_39 : decode cX8_look 39 = .ok (.if_icmp .ge 32, 3) := by decide +kernel
theorem dX8_look_42 : decode cX8_look 42 = .ok (.aload_n 0, 1) := by decide +kernel
theorem dX8_look_43 : decode cX8_look 43 = .ok (.iload 4, 2) := by decide +kernel
theorem dX8_look_45 : decode cX8_look 45 = .ok (.invokevirtual 432, 3) := by decide +kernel
theorem dX8_look_48 : decode cX8_look 48 = .ok (.istore 5, 2) := by decide +kernel
theorem dX8_look_50 : decode cX8_look 50 = .ok (.iload 5, 2) := by decide +kernel
theorem dX8_look_52 : decode cX8_look 52 = .ok (.iload_n 3, 1) := by decide +kernel
theorem dX8_look_53 : decode cX8_look 53 = .ok (.if_icmp .gt 6, 3) := by decide +kernel
theorem dX8_look_56 : decode cX8_look 56 = .ok (.goto 9, 3) := by decide +kernel
theorem dX8_look_59 : decode cX8_look 59 = .ok (.iload 4, 2) := by decide +kernel
theorem dX8_look_61 : decode cX8_look 61 = .ok (.istore_n 2, 1) := by decide +kernel
theorem dX8_look_62 : decode cX8_look 62 = .ok (.iload 5, 2) := by decide +kernel
theorem dX8_look_64 : decode cX8_look 64 = .ok (.istore_n 3, 1) := by decide +kernel
theorem dX8_look_65 : decode cX8_look 65 = .ok (.iinc 4 1, 3) := by decide +kernel
theorem dX8_look_68 : decode cX8_look 68 = .ok (.goto (-37), 3) := by decide +kernel
theorem dX8_look_71 : decode cX8_look 71 = .ok (.iload_n 1, 1) := by decide +kernel
theorem dX8_look_72 : decode cX8_look 72 = .ok (.ifCond .ne 7, 3) := by decide +kernel
theorem dX8_look_75 : decode cX8_look 75 = .ok (.iload_n 2, 1) := by decide +kernel
theorem dX8_look_76 : decode cX8_look 76 = .ok (.goto 4, 3) := by decide +kernel
theorem dX8_look_79 : decode cX8_look 79 = .ok (.iload_n 3, 1) := by decide +kernel
theorem dX8_look_80 : decode cX8_look 80 = .ok (.ireturn, 1) := by decide +kernel
theorem dX8_count_0 : decode cX8_count 0 = .ok (.aload_n 0, 1) := by decide +kernel
theorem dX8_count_1 : decode cX8_count 1 = .ok (.iconst 0, 1) := by decide +kernel
theorem dX8_count_2 : decode cX8_count 2 = .ok (.putfield 104, 3) := by decide +kernel
theorem dX8_count_5 : decode cX8_count 5 = .ok (.iload_n 1, 1) := by decide +kernel
theorem dX8_count_6 : decode cX8_count 6 = .ok (.tableswitch 295 0 29 #[134, 134, 141, 149, 155, 162, 169, 176, 183, 190, 190, 190, 199, 204, 211, 216, 229, 234, 239, 244, 249, 254, 259, 264, 264, 264, 274, 279, 284, 290], 134) := by decide +kernel
theorem dX8_count_140 : decode cX8_count 140 = .ok (.aload_n 0, 1) := by decide +kernel
theorem dX8_count_141 : decode cX8_count 141 = .ok (.getfield 36, 3) := by decide +kernel
theorem dX8_count_144 : decode cX8_count 144 = .ok (.iload_n 1, 1) := by decide +kernel
theorem dX8_count_145 : decode cX8_count 145 = .ok (.iaload, 1) := by decide +kernel
theorem dX8_count_146 : decode cX8_count 146 = .ok (.ireturn, 1) := by decide +kernel
theorem dX8_count_147 : decode cX8_count 147 = .ok (.aload_n 0, 1) := by decide +kernel
theorem dX8_count_148 : decode cX8_count 148 = .ok (.getfield 29, 3) := by decide +kernel
theorem dX8_count_151 : decode cX8_count 151 = .ok (.bipush 6, 2) := by decide +kernel
theorem dX8_count_153 : decode cX8_count 153 = .ok (.iaload, 1) := by decide +kernel
theorem dX8_count_154 : decode cX8_count 154 = .ok (.ireturn, 1) := by decide +kernel
theorem dX8_count_155 : decode cX8_count 155 = .ok (.aload_n 0, 1) := by decide +kernel
theorem dX8_count_156 : decode cX8_count 156 = .ok (.iconst 3, 1) := by decide +kernel
theorem dX8_count_157 : decode cX8_count 157 = .ok (.invokevirtual 218, 3) := by decide +kernel
theorem dX8_count_160 : decode cX8_count 160 = .ok (.ireturn, 1) := by decide +kernel
theorem dX8_count_161 : decode cX8_count 161 = .ok (.aload_n 0, 1) := by decide +kernel
theorem dX8_count_162 : decode cX8_count 162 = .ok (.getfield 29, 3) := by decide +kernel
theorem dX8_count_165 : decode cX8_count 165 = .ok (.iconst 3, 1) := by decide +kernel
theorem dX8_count_166 : decode cX8_count 166 = .ok (.iaload, 1) := by decide +kernel
theorem dX8_count_167 : decode cX8_count 167 = .ok (.ireturn, 1) := by decide +kernel
theorem dX8_count_168 : decode cX8_count 168 = .ok (.aload_n 0, 1) := by decide +kernel
theorem dX8_count_169 : decode cX8_count 169 = .ok (.getfield 29, 3) := by decide +kernel
theorem dX8_count_172 : decode cX8_count 172 = .ok (.iconst 2, 1) := by decide +kernel
theorem dX8_count_173 : decode cX8_count 173 = .ok (.iaload, 1) := by decide +kernel
theorem dX8_count_174 : decode cX8_count 174 = .ok (.ireturn, 1) := by decide +kernel
theorem dX8_count_175 : decode cX8_count 175 = .ok (.aload_n 0, 1) := by decide +kernel
theorem dX8_count_176 : decode cX8_count 176 = .ok (.bipush 6, 2) := by decide +kernel
theorem dX8_count_178 : decode cX8_count 178 = .ok (.invokevirtual 218, 3) := by decide +kernel
theorem dX8_count_181 : decode cX8_count 181 = .ok (.ireturn, 1) := by decide +kernel
theorem dX8_count_182 : decode cX8_count 182 = .ok (.aload_n 0, 1) := by decide +kernel
theorem dX8_count_183 : decode cX8_count 183 = .ok (.getfield 29, 3) := by decide +kernel
theorem dX8_count_186 : decode cX8_count 186 = .ok (.iconst 0, 1) := by decide +kernel
theorem dX8_count_187 : decode cX8_count 187 = .ok (.iaload, 1) := by decide +kernel
theorem dX8_count_188 : decode cX8_count 188 = .ok (.ireturn, 1) := by decide +kernel
theorem dX8_count_189 : decode cX8_count 189 = .ok (.aload_n 0, 1) := by decide +kernel
theorem dX8_count_190 : decode cX8_count 190 = .ok (.getfield 29, 3) := by decide +kernel
theorem dX8_count_193 : decode cX8_count 193 = .ok (.iconst 1, 1) := by decide +kernel
theorem dX8_count_194 : decode cX8_count 194 = .ok (.iaload, 1) := by decide +kernel
theorem dX8_count_195 : decode cX8_count 195 = .ok (.ireturn, 1) := by decide +kernel
theorem dX8_count_196 : decode cX8_count 196 = .ok (.aload_n 0, 1) := by decide +kernel
theorem dX8_count_197 : decode cX8_count 197 = .ok (.iload_n 1, 1) := by decide +kernel
theorem dX8_count_198 : decode cX8_count 198 = .ok (.bipush 8, 2) := by decide +kernel
theorem dX8_count_200 : decode cX8_count 200 = .ok (.isub, 1) := by decide +kernel
theorem dX8_count_201 : decode cX8_count 201 = .ok (.invokevirtual 344, 3) := by decide +kernel
theorem dX8_count_204 : decode cX8_count 204 = .ok (.ireturn, 1) := by decide +kernel
theorem dX8_count_205 : decode cX8_count 205 = .ok (.aload_n 0, 1) := by decide +kernel
theorem dX8_count_206 : decode cX8_count 206 = .ok (.invokevirtual 366, 3) := by decide +kernel
theorem dX8_count_209 : decode cX8_count 209 = .ok (.ireturn, 1) := by decide +kernel
theorem dX8_count_210 : decode cX8_count 210 = .ok (.aload_n 0, 1) := by decide +kernel
theorem dX8_count_211 : decode cX8_count 211 = .ok (.getfield 29, 3) := by decide +kernel
theorem dX8_count_214 : decode cX8_count 214 = .ok (.iconst 5, 1) := by decide +kernel
theorem dX8_count_215 : decode cX8_count 215 = .ok (.iaload, 1) := by decide +kernel
theorem dX8_count_216 : decode cX8_count 216 = .ok (.ireturn, 1) := by decide +kernel
theorem dX8_count_217 : decode cX8_count 217 = .ok (.aload_n 0, 1) := by decide +kernel
theorem dX8_count_218 : decode cX8_count 218 = .ok (.invokevirtual 353, 3) := by decide +kernel
theorem dX8_count_221 : decode cX8_count 221 = .ok (.ireturn, 1) := by decide +kernel
theorem dX8_count_222 : decode cX8_count 222 = .ok (.aload_n 0, 1) := by decide +kernel
theorem dX8_count_223 : decode cX8_count 223 = .ok (.invokevirtual 287, 3) := by decide +kernel
theorem dX8_count_226 : decode cX8_count 226 = .ok (.ifCond .eq 7, 3) := by decide +kernel
theorem dX8_count_229 : decode cX8_count 229 = .ok (.iconst 1, 1) := by decide +kernel
theorem dX8_count_230 : decode cX8_count 230 = .ok (.goto 4, 3) := by decide +kernel
theorem dX8_count_233 : decode cX8_count 233 = .ok (.iconst 0, 1) := by decide +kernel
theorem dX8_count_234 : decode cX8_count 234 = .ok (.ireturn, 1) := by decide +kernel
theorem dX8_count_235 : decode cX8_count 235 = .ok (.aload_n 0, 1) := by decide +kernel
theorem dX8_count_236 : decode cX8_count 236 = .ok (.invokevirtual 369, 3) := by decide +kernel
theorem dX8_count_239 : decode cX8_count 239 = .ok (.ireturn, 1) := by decide +kernel
theorem dX8_count_240 : decode cX8_count 240 = .ok (.aload_n 0, 1) := by decide +kernel
theorem dX8_count_241 : decode cX8_count 241 = .ok (.invokevirtual 372, 3) := by decide +kernel
theorem dX8_count_244 : decode cX8_count 244 = .ok (.ireturn, 1) := by decide +kernel
theorem dX8_count_245 : decode cX8_count 245 = .ok (.aload_n 0, 1) := by decide +kernel
theorem dX8_count_246 : decode cX8_count 246 = .ok (.invokevirtual 375, 3) := by decide +kernel
theorem dX8_count_249 : decode cX8_count 249 = .ok (.ireturn, 1) := by decide +kernel
theorem dX8_count_250 : decode cX8_count 250 = .ok (.aload_n 0, 1) := by decide +kernel
theorem dX8_count_251 : decode cX8_count 251 = .ok (.invokevirtual 378, 3) := by decide +kernel
theorem dX8_count_254 : decode cX8_count 254 = .ok (.ireturn, 1) := by decide +kernel
theorem dX8_count_255 : decode cX8_count 255 = .ok (.aload_n 0, 1) := by decide +kernel
theorem dX8_count_256 : decode cX8_count 256 = .ok (.getfield 208, 3) := by decide +kernel
theorem dX8_count_259 : decode cX8_count 259 = .ok (.ireturn, 1) := by decide +kernel
theorem dX8_count_260 : decode cX8_count 260 = .ok (.aload_n 0, 1) := by decide +kernel
theorem dX8_count_261 : decode cX8_count 261 = .ok (.getfield 211, 3) := by decide +kernel
theorem dX8_count_264 : decode cX8_count 264 = .ok (.ireturn, 1) := by decide +kernel
theorem dX8_count_265 : decode cX8_count 265 = .ok (.aload_n 0, 1) := by decide +kernel
theorem dX8_count_266 : decode cX8_count 266 = .ok (.getfield 107, 3) := by decide +kernel
theorem dX8_count_269 : decode cX8_count 269 = .ok (.ireturn, 1) := by decide +kernel
theorem dX8_count_270 : decode cX8_count 270 = .ok (.aload_n 0, 1) := by decide +kernel
theorem dX8_count_271 : decode cX8_count 271 = .ok (.getfield 33, 3) := by decide +kernel
theorem dX8_count_274 : decode cX8_count 274 = .ok (.iload_n 1, 1) := by decide +kernel
theorem dX8_count_275 : decode cX8_count 275 = .ok (.bipush 23, 2) := by decide +kernel
theorem dX8_count_277 : decode cX8_count 277 = .ok (.isub, 1) := by decide +kernel
theorem dX8_count_278 : decode cX8_count 278 = .ok (.iaload, 1) := by decide +kernel
theorem dX8_count_279 : decode cX8_count 279 = .ok (.ireturn, 1) := by decide +kernel
theorem dX8_count_280 : decode cX8_count 280 = .ok (.aload_n 0, 1) := by decide +kernel
theorem dX8_count_281 : decode cX8_count 281 = .ok (.invokevirtual 381, 3) := by decide +kernel
theorem dX8_count_284 : decode cX8_count 284 = .ok (.ireturn, 1) := by decide +kernel
theorem dX8_count_285 : decode cX8_count 285 = .ok (.aload_n 0, 1) := by decide +kernel
theorem dX8_count_286 : decode cX8_count 286 = .ok (.invokevirtual 384, 3) := by decide +kernel
theorem dX8_count_289 : decode cX8_count 289 = .ok (.ireturn, 1) := by decide +kernel
theorem dX8_count_290 : decode cX8_count 290 = .ok (.aload_n 0, 1) := by decide +kernel
theorem dX8_count_291 : decode cX8_count 291 = .ok (.invokevirtual 362, 3) := by decide +kernel
theorem dX8_count_294 : decode cX8_count 294 = .ok (.f2i, 1) := by decide +kernel
theorem dX8_count_295 : decode cX8_count 295 = .ok (.ireturn, 1) := by decide +kernel
theorem dX8_count_296 : decode cX8_count 296 = .ok (.aload_n 0, 1) := by decide +kernel
theorem dX8_count_297 : decode cX8_count 297 = .ok (.invokevirtual 387, 3) := by decide +kernel
theorem dX8_count_300 : decode cX8_count 300 = .ok (.ireturn, 1) := by decide +kernel
theorem dX8_count_301 : decode cX8_count 301 = .ok (.aload_n 0, 1) := by decide +kernel
theorem dX8_count_302 : decode cX8_count 302 = .ok (.iconst 1, 1) := by decide +kernel
theorem dX8_count_303 : decode cX8_count 303 = .ok (.invokevirtual 198, 3) := by decide +kernel
theorem dX8_count_306 : decode cX8_count 306 = .ok (.ireturn, 1) := by decide +kernel
