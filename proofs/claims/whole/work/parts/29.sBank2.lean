/-! STEPS, printed by program: Bank2 -/
theorem dX1_settle_0 : decode cX1_settle 0 = .ok (.aload_n 0, 1) := by decide +kernel
theorem dX1_settle_1 : decode cX1_settle 1 = .ok (.getfield 54, 3) := by decide +kernel
theorem dX1_settle_4 : decode cX1_settle 4 = .ok (.iload_n 1, 1) := by decide +kernel
theorem dX1_settle_5 : decode cX1_settle 5 = .ok (.aaload, 1) := by decide +kernel
theorem dX1_settle_6 : decode cX1_settle 6 = .ok (.astore_n 2, 1) := by decide +kernel
theorem dX1_settle_7 : decode cX1_settle 7 = .ok (.iconst 0, 1) := by decide +kernel
theorem dX1_settle_8 : decode cX1_settle 8 = .ok (.istore_n 3, 1) := by decide +kernel
theorem dX1_settle_9 : decode cX1_settle 9 = .ok (.iload_n 3, 1) := by decide +kernel
theorem dX1_settle_10 : decode cX1_settle 10 = .ok (.aload_n 0, 1) := by decide +kernel
theorem dX1_settle_11 : decode cX1_settle 11 = .ok (.getfield 18, 3) := by decide +kernel
theorem dX1_settle_14 : decode cX1_settle 14 = .ok (.if_icmp .ge 55, 3) := by decide +kernel
theorem dX1_settle_17 : decode cX1_settle 17 = .ok (.aload_n 2, 1) := by decide +kernel
theorem dX1_settle_18 : decode cX1_settle 18 = .ok (.getfield 187, 3) := by decide +kernel
theorem dX1_settle_21 : decode cX1_settle 21 = .ok (.iload_n 3, 1) := by decide +kernel
theorem dX1_settle_22 : decode cX1_settle 22 = .ok (.iushr, 1) := by decide +kernel
theorem dX1_settle_23 : decode cX1_settle 23 = .ok (.iconst 1, 1) := by decide +kernel
theorem dX1_settle_24 : decode cX1_settle 24 = .ok (.iand, 1) := by decide +kernel
theorem dX1_settle_25 : decode cX1_settle 25 = .ok (.ifCond .eq 13, 3) := by decide +kernel
theorem dX1_settle_28 : decode cX1_settle 28 = .ok (.aload_n 0, 1) := by decide +kernel
theorem dX1_settle_29 : decode cX1_settle 29 = .ok (.aload_n 0, 1) := by decide +kernel
theorem dX1_settle_30 : decode cX1_settle 30 = .ok (.getfield 60, 3) := by decide +kernel
theorem dX1_settle_33 : decode cX1_settle 33 = .ok (.iload_n 3, 1) := by decide +kernel
theorem dX1_settle_34 : decode cX1_settle 34 = .ok (.aaload, 1) := by decide +kernel
theorem dX1_settle_35 : decode cX1_settle 35 = .ok (.invokevirtual 196, 3) := by decide +kernel
theorem dX1_settle_38 : decode cX1_settle 38 = .ok (.aload_n 2, 1) := by decide +kernel
theorem dX1_settle_39 : decode cX1_settle 39 = .ok (.getfield 190, 3) := by decide +kernel
theorem dX1_settle_42 : decode cX1_settle 42 = .ok (.iload_n 3, 1) := by decide +kernel
theorem dX1_settle_43 : decode cX1_settle 43 = .ok (.iushr, 1) := by decide +kernel
theorem dX1_settle_44 : decode cX1_settle 44 = .ok (.iconst 1, 1) := by decide +kernel
theorem dX1_settle_45 : decode cX1_settle 45 = .ok (.iand, 1) := by decide +kernel
theorem dX1_settle_46 : decode cX1_settle 46 = .ok (.ifCond .eq 17, 3) := by decide +kernel
theorem dX1_settle_49 : decode cX1_settle 49 = .ok (.aload_n 0, 1) := by decide +kernel
theorem dX1_settle_50 : decode cX1_settle 50 = .ok (.getfield 60, 3) := by decide +kernel
theorem dX1_settle_53 : decode cX1_settle 53 = .ok (.iload_n 3, 1) := by decide +kernel
theorem dX1_settle_54 : decode cX1_settle 54 = .ok (.aaload, 1) := by decide +kernel
theorem dX1_settle_55 : decode cX1_settle 55 = .ok (.iload_n 1, 1) := by decide +kernel
theorem dX1_settle_56 : decode cX1_settle 56 = .ok (.aload_n 0, 1) := by decide +kernel
theorem dX1_settle_57 : decode cX1_settle 57 = .ok (.getfield 33, 3) := by decide +kernel
theorem dX1_settle_60 : decode cX1_settle 60 = .ok (.invokevirtual 199, 3) := by decide +kernel
theorem dX1_settle_63 : decode cX1_settle 63 = .ok (.iinc 3 1, 3) := by decide +kernel
theorem dX1_settle_66 : decode cX1_settle 66 = .ok (.goto (-57), 3) := by decide +kernel
theorem dX1_settle_69 : decode cX1_settle 69 = .ok (.aload_n 0, 1) := by decide +kernel
theorem dX1_settle_70 : decode cX1_settle 70 = .ok (.aload_n 2, 1) := by decide +kernel
theorem dX1_settle_71 : decode cX1_settle 71 = .ok (.invokevirtual 203, 3) := by decide +kernel
theorem dX1_settle_74 : decode cX1_settle 74 = .ok (.invokevirtual 172, 3) := by decide +kernel
theorem dX1_settle_77 : decode cX1_settle 77 = .ok (.return_, 1) := by decide +kernel
theorem dX1_putOut_0 : decode cX1_putOut 0 = .ok (.iconst 0, 1) := by decide +kernel
theorem dX1_putOut_1 : decode cX1_putOut 1 = .ok (.istore_n 2, 1) := by decide +kernel
theorem dX1_putOut_2 : decode cX1_putOut 2 = .ok (.iload_n 2, 1) := by decide +kernel
theorem dX1_putOut_3 : decode cX1_putOut 3 = .ok (.aload_n 0, 1) := by decide +kernel
theorem dX1_putOut_4 : decode cX1_putOut 4 = .ok (.getfield 18, 3) := by decide +kernel
theorem dX1_putOut_7 : decode cX1_putOut 7 = .ok (.if_icmp .ge 62, 3) := by decide +kernel
theorem dX1_putOut_10 : decode cX1_putOut 10 = .ok (.aload_n 1, 1) := by decide +kernel
theorem dX1_putOut_11 : decode cX1_putOut 11 = .ok (.getfield 215, 3) := by decide +kernel
theorem dX1_putOut_14 : decode cX1_putOut 14 = .ok (.iload_n 2, 1) := by decide +kernel
theorem dX1_putOut_15 : decode cX1_putOut 15 = .ok (.iushr, 1) := by decide +kernel
theorem dX1_putOut_16 : decode cX1_putOut 16 = .ok (.iconst 1, 1) := by decide +kernel
theorem dX1_putOut_17 : decode cX1_putOut 17 = .ok (.iand, 1) := by decide +kernel
theorem dX1_putOut_18 : decode cX1_putOut 18 = .ok (.ifCond .eq 45, 3) := by decide +kernel
theorem dX1_putOut_21 : decode cX1_putOut 21 = .ok (.aload_n 0, 1) := by decide +kernel
theorem dX1_putOut_22 : decode cX1_putOut 22 = .ok (.getfield 60, 3) := by decide +kernel
theorem dX1_putOut_25 : decode cX1_putOut 25 = .ok (.iload_n 2, 1) := by decide +kernel
theorem dX1_putOut_26 : decode cX1_putOut 26 = .ok (.aaload, 1) := by decide +kernel
theorem dX1_putOut_27 : decode cX1_putOut 27 = .ok (.getfield 218, 3) := by decide +kernel
theorem dX1_putOut_30 : decode cX1_putOut 30 = .ok (.aload_n 1, 1) := by decide +kernel
theorem dX1_putOut_31 : decode cX1_putOut 31 = .ok (.getfield 151, 3) := by decide +kernel
theorem dX1_putOut_34 : decode cX1_putOut 34 = .ok (.if_icmp .ne 16, 3) := by decide +kernel
theorem dX1_putOut_37 : decode cX1_putOut 37 = .ok (.aload_n 0, 1) := by decide +kernel
theorem dX1_putOut_38 : decode cX1_putOut 38 = .ok (.aload_n 0, 1) := by decide +kernel
theorem dX1_putOut_39 : decode cX1_putOut 39 = .ok (.getfield 60, 3) := by decide +kernel
theorem dX1_putOut_42 : decode cX1_putOut 42 = .ok (.iload_n 2, 1) := by decide +kernel
theorem dX1_putOut_43 : decode cX1_putOut 43 = .ok (.aaload, 1) := by decide +kernel
theorem dX1_putOut_44 : decode cX1_putOut 44 = .ok (.invokevirtual 196, 3) := by decide +kernel
theorem dX1_putOut_47 : decode cX1_putOut 47 = .ok (.goto 16, 3) := by decide +kernel
theorem dX1_putOut_50 : decode cX1_putOut 50 = .ok (.aload_n 0, 1) := by decide +kernel
theorem dX1_putOut_51 : decode cX1_putOut 51 = .ok (.getfield 60, 3) := by decide +kernel
theorem dX1_putOut_54 : decode cX1_putOut 54 = .ok (.iload_n 2, 1) := by decide +kernel
theorem dX1_putOut_55 : decode cX1_putOut 55 = .ok (.aaload, 1) := by decide +kernel
theorem dX1_putOut_56 : decode cX1_putOut 56 = .ok (.aload_n 1, 1) := by decide +kernel
theorem dX1_putOut_57 : decode cX1_putOut 57 = .ok (.getfield 151, 3) := by decide +kernel
theorem dX1_putOut_60 : decode cX1_putOut 60 = .ok (.invokevirtual 93, 3) := by decide +kernel
theorem dX1_putOut_63 : decode cX1_putOut 63 = .ok (.iinc 2 1, 3) := by decide +kernel
theorem dX1_putOut_66 : decode cX1_putOut 66 = .ok (.goto (-64), 3) := by decide +kernel
theorem dX1_putOut_69 : decode cX1_putOut 69 = .ok (.aload_n 1, 1) := by decide +kernel
theorem dX1_putOut_70 : decode cX1_putOut 70 = .ok (.invokevirtual 221, 3) := by decide +kernel
theorem dX1_putOut_73 : decode cX1_putOut 73 = .ok (.return_, 1) := by decide +kernel
theorem dX1_latestDone_0 : decode cX1_latestDone 0 = .ok (.iconst (-1), 1) := by decide +kernel
theorem dX1_latestDone_1 : decode cX1_latestDone 1 = .ok (.istore_n 1, 1) := by decide +kernel
theorem dX1_latestDone_2 : decode cX1_latestDone 2 = .ok (.iconst 0, 1) := by decide +kernel
theorem dX1_latestDone_3 : decode cX1_latestDone 3 = .ok (.istore_n 2, 1) := by decide +kernel
theorem dX1_latestDone_4 : decode cX1_latestDone 4 = .ok (.iload_n 2, 1) := by decide +kernel
theorem dX1_latestDone_5 : decode cX1_latestDone 5 = .ok (.aload_n 0, 1) := by decide +kernel
theorem dX1_latestDone_6 : decode cX1_latestDone 6 = .ok (.getfield 18, 3) := by decide +kernel
theorem dX1_latestDone_9 : decode cX1_latestDone 9 = .ok (.if_icmp .ge 23, 3) := by decide +kernel
theorem dX1_latestDone_12 : decode cX1_latestDone 12 = .ok (.iload_n 1, 1) := by decide +kernel
theorem dX1_latestDone_13 : decode cX1_latestDone 13 = .ok (.aload_n 0, 1) := by decide +kernel
theorem dX1_latestDone_14 : decode cX1_latestDone 14 = .ok (.getfield 60, 3) := by decide +kernel
theorem dX1_latestDone_17 : decode cX1_latestDone 17 = .ok (.iload_n 2, 1) := by decide +kernel
theorem dX1_latestDone_18 : decode cX1_latestDone 18 = .ok (.aaload, 1) := by decide +kernel
theorem dX1_latestDone_19 : decode cX1_latestDone 19 = .ok (.getfield 206, 3) := by decide +kernel
theorem dX1_latestDone_22 : decode cX1_latestDone 22 = .ok (.invokestatic 234, 3) := by decide +kernel
theorem dX1_latestDone_25 : decode cX1_latestDone 25 = .ok (.istore_n 1, 1) := by decide +kernel
theorem dX1_latestDone_26 : decode cX1_latestDone 26 = .ok (.iinc 2 1, 3) := by decide +kernel
theorem dX1_latestDone_29 : decode cX1_latestDone 29 = .ok (.goto (-25), 3) := by decide +kernel
theorem dX1_latestDone_32 : decode cX1_latestDone 32 = .ok (.iload_n 1, 1) := by decide +kernel
theorem dX1_latestDone_33 : decode cX1_latestDone 33 = .ok (.ireturn, 1) := by decide +kernel
theorem dX1_isQuiet_0 : decode cX1_isQuiet 0 = .ok (.aload_n 0, 1) := by decide +kernel
theorem dX1_isQuiet_1 : decode cX1_isQuiet 1 = .ok (.getfield 49, 3) := by decide +kernel
theorem dX1_isQuiet_4 : decode cX1_isQuiet 4 = .ok (.aload_n 0, 1) := by decide +kernel
theorem dX1_isQuiet_5 : decode cX1_isQuiet 5 = .ok (.getfield 18, 3) := by decide +kernel
theorem dX1_isQuiet_8 : decode cX1_isQuiet 8 = .ok (.if_icmp .ge 5, 3) := by decide +kernel
theorem dX1_isQuiet_11 : decode cX1_isQuiet 11 = .ok (.iconst 0, 1) := by decide +kernel
theorem dX1_isQuiet_12 : decode cX1_isQuiet 12 = .ok (.ireturn, 1) := by decide +kernel
theorem dX1_isQuiet_13 : decode cX1_isQuiet 13 = .ok (.iconst 0, 1) := by decide +kernel
theorem dX1_isQuiet_14 : decode cX1_isQuiet 14 = .ok (.istore_n 1, 1) := by decide +kernel
theorem dX1_isQuiet_15 : decode cX1_isQuiet 15 = .ok (.iload_n 1, 1) := by decide +kernel
theorem dX1_isQuiet_16 : decode cX1_isQuiet 16 = .ok (.aload_n 0, 1) := by decide +kernel
theorem dX1_isQuiet_17 : decode cX1_isQuiet 17 = .ok (.getfield 15, 3) := by decide +kernel
theorem dX1_isQuiet_20 : decode cX1_isQuiet 20 = .ok (.if_icmp .ge 44, 3) := by decide +kernel
theorem dX1_isQuiet_23 : decode cX1_isQuiet 23 = .ok (.aload_n 0, 1) := by decide +kernel
theorem dX1_isQuiet_24 : decode cX1_isQuiet 24 = .ok (.getfield 54, 3) := by decide +kernel
theorem dX1_isQuiet_27 : decode cX1_isQuiet 27 = .ok (.iload_n 1, 1) := by decide +kernel
theorem dX1_isQuiet_28 : decode cX1_isQuiet 28 = .ok (.aaload, 1) := by decide +kernel
theorem dX1_isQuiet_29 : decode cX1_isQuiet 29 = .ok (.astore_n 2, 1) := by decide +kernel
theorem dX1_isQuiet_30 : decode cX1_isQuiet 30 = .ok (.aload_n 2, 1) := by decide +kernel
theorem dX1_isQuiet_31 : decode cX1_isQuiet 31 = .ok (.getfield 162, 3) := by decide +kernel
theorem dX1_isQuiet_34 : decode cX1_isQuiet 34 = .ok (.ifCond .eq 24, 3) := by decide +kernel
theorem dX1_isQuiet_37 : decode cX1_isQuiet 37 = .ok (.aload_n 2, 1) := by decide +kernel
theorem dX1_isQuiet_38 : decode cX1_isQuiet 38 = .ok (.getfield 159, 3) := by decide +kernel
theorem dX1_isQuiet_41 : decode cX1_isQuiet 41 = .ok (.ifCond .gt 15, 3) := by decide +kernel
theorem dX1_isQuiet_44 : decode cX1_isQuiet 44 = .ok (.aload_n 2, 1) := by decide +kernel
theorem dX1_isQuiet_45 : decode cX1_isQuiet 45 = .ok (.getfield 151, 3) := by decide +kernel
theorem dX1_isQuiet_48 : decode cX1_isQuiet 48 = .ok (.aload_n 0, 1) := by decide +kernel
theorem dX1_isQuiet_49 : decode cX1_isQuiet 49 = .ok (.aload_n 2, 1) := by decide +kernel
theorem dX1_isQuiet_50 : decode cX1_isQuiet 50 = .ok (.invokevirtual 178, 3) := by decide +kernel
theorem dX1_isQuiet_53 : decode cX1_isQuiet 53 = .ok (.if_icmp .eq 5, 3) := by decide +kernel
theorem dX1_isQuiet_56 : decode cX1_isQuiet 56 = .ok (.iconst 0, 1) := by decide +kernel
theorem dX1_isQuiet_57 : decode cX1_isQuiet 57 = .ok (.ireturn, 1) := by decide +kernel
theorem dX1_isQuiet_58 : decode cX1_isQuiet 58 = .ok (.iinc 1 1, 3) := by decide +kernel
theorem dX1_isQuiet_61 : decode cX1_isQuiet 61 = .ok (.goto (-46), 3) := by decide +kernel
theorem dX1_isQuiet_64 : decode cX1_isQuiet 64 = .ok (.iconst 1, 1) := by decide +kernel
theorem dX1_isQuiet_65 : decode cX1_isQuiet 65 = .ok (.ireturn, 1) := by decide +kernel
theorem dX1_overtaken_0 : decode cX1_overtaken 0 = .ok (.iconst 0, 1) := by decide +kernel
theorem dX1_overtaken_1 : decode cX1_overtaken 1 = .ok (.istore_n 1, 1) := by decide +kernel
theorem dX1_overtaken_2 : decode cX1_overtaken 2 = .ok (.iconst 0, 1) := by decide +kernel
theorem dX1_overtaken_3 : decode cX1_overtaken 3 = .ok (.istore_n 2, 1) := by decide +kernel
theorem dX1_overtaken_4 : decode cX1_overtaken 4 = .ok (.iload_n 2, 1) := by decide +kernel
theorem dX1_overtaken_5 : decode cX1_overtaken 5 = .ok (.aload_n 0, 1) := by decide +kernel
theorem dX1_overtaken_6 : decode cX1_overtaken 6 = .ok (.getfield 18, 3) := by decide +kernel
theorem dX1_overtaken_9 : decode cX1_overtaken 9 = .ok (.if_icmp .ge 134, 3) := by decide +kernel
theorem dX1_overtaken_12 : decode cX1_overtaken 12 = .ok (.iload_n 2, 1) := by decide +kernel
theorem dX1_overtaken_13 : decode cX1_overtaken 13 = .ok (.iconst 1, 1) := by decide +kernel
theorem dX1_overtaken_14 : decode cX1_overtaken 14 = .ok (.iadd, 1) := by decide +kernel
theorem dX1_overtaken_15 : decode cX1_overtaken 15 = .ok (.istore_n 3, 1) := by decide +kernel
theorem dX1_overtaken_16 : decode cX1_overtaken 16 = .ok (.iload_n 3, 1) := by decide +kernel
theorem dX1_overtaken_17 : decode cX1_overtaken 17 = .ok (.aload_n 0, 1) := by decide +kernel
theorem dX1_overtaken_18 : decode cX1_overtaken 18 = .ok (.getfield 18, 3) := by decide +kernel
theorem dX1_overtaken_21 : decode cX1_overtaken 21 = .ok (.if_icmp .ge 116, 3) := by decide +kernel
theorem dX1_overtaken_24 : decode cX1_overtaken 24 = .ok (.aload_n 0, 1) := by decide +kernel
theorem dX1_overtaken_25 : decode cX1_overtaken 25 = .ok (.getfield 60, 3) := by decide +kernel
theorem dX1_overtaken_28 : decode cX1_overtaken 28 = .ok (.iload_n 2, 1) := by decide +kernel
theorem dX1_overtaken_29 : decode cX1_overtaken 29 = .ok (.aaload, 1) := by decide +kernel
theorem dX1_overtaken_30 : decode cX1_overtaken 30 = .ok (.getfield 110, 3) := by decide +kernel
theorem dX1_overtaken_33 : decode cX1_overtaken 33 = .ok (.aload_n 0, 1) := by decide +kernel
theorem dX1_overtaken_34 : decode cX1_overtaken 34 = .ok (.getfield 60, 3) := by decide +kernel
theorem dX1_overtaken_37 : decode cX1_overtaken 37 = .ok (.iload_n 3, 1) := by decide +kernel
theorem dX1_overtaken_38 : decode cX1_overtaken 38 = .ok (.aaload, 1) := by decide +kernel
theorem dX1_overtaken_39 : decode cX1_overtaken 39 = .ok (.getfield 110, 3) := by decide +kernel
theorem dX1_overtaken_42 : decode cX1_overtaken 42 = .ok (.if_icmp .gt 7, 3) := by decide +kernel
theorem dX1_overtaken_45 : decode cX1_overtaken 45 = .ok (.iconst 1, 1) := by decide +kernel
theorem dX1_overtaken_46 : decode cX1_overtaken 46 = .ok (.goto 4, 3) := by decide +kernel
theorem dX1_overtaken_49 : decode cX1_overtaken 49 = .ok (.iconst 0, 1) := by decide +kernel
theorem dX1_overtaken_50 : decode cX1_overtaken 50 = .ok (.istore 4, 2) := by decide +kernel
theorem dX1_overtaken_52 : decode cX1_overtaken 52 = .ok (.iload 4, 2) := by decide +kernel
theorem dX1_overtaken_54 : decode cX1_overtaken 54 = .ok (.ifCond .eq 12, 3) := by decide +kernel
theorem dX1_overtaken_57 : decode cX1_overtaken 57 = .ok (.aload_n 0, 1) := by decide +kernel
theorem dX1_overtaken_58 : decode cX1_overtaken 58 = .ok (.getfield 60, 3) := by decide +kernel
theorem dX1_overtaken_61 : decode cX1_overtaken 61 = .ok (.iload_n 2, 1) := by decide +kernel
theorem dX1_overtaken_62 : decode cX1_overtaken 62 = .ok (.aaload, 1) := by decide +kernel
theorem dX1_overtaken_63 : decode cX1_overtaken 63 = .ok (.goto 9, 3) := by decide +kernel
theorem dX1_overtaken_66 : decode cX1_overtaken 66 = .ok (.aload_n 0, 1) := by decide +kernel
theorem dX1_overtaken_67 : decode cX1_overtaken 67 = .ok (.getfield 60, 3) := by decide +kernel
theorem dX1_overtaken_70 : decode cX1_overtaken 70 = .ok (.iload_n 3, 1) := by decide +kernel
theorem dX1_overtaken_71 : decode cX1_overtaken 71 = .ok (.aaload, 1) := by decide +kernel
theorem dX1_overtaken_72 : decode cX1_overtaken 72 = .ok (.astore 5, 2) := by decide +kernel
theorem dX1_overtaken_74 : decode cX1_overtaken 74 = .ok (.iload 4, 2) := by decide +kernel
theorem dX1_overtaken_76 : decode cX1_overtaken 76 = .ok (.ifCond .eq 12, 3) := by decide +kernel
theorem dX1_overtaken_79 : decode cX1_overtaken 79 = .ok (.aload_n 0, 1) := by decide +kernel
theorem dX1_overtaken_80 : decode cX1_overtaken 80 = .ok (.getfield 60, 3) := by decide +kernel
theorem dX1_overtaken_83 : decode cX1_overtaken 83 = .ok (.iload_n 3, 1) := by decide +kernel
theorem dX1_overtaken_84 : decode cX1_overtaken 84 = .ok (.aaload, 1) := by decide +kernel
theorem dX1_overtaken_85 : decode cX1_overtaken 85 = .ok (.goto 9, 3) := by decide +kernel
theorem dX1_overtaken_88 : decode cX1_overtaken 88 = .ok (.aload_n 0, 1) := by decide +kernel
theorem dX1_overtaken_89 : decode cX1_overtaken 89 = .ok (.getfield 60, 3) := by decide +kernel
theorem dX1_overtaken_92 : decode cX1_overtaken 92 = .ok (.iload_n 2, 1) := by decide +kernel
theorem dX1_overtaken_93 : decode cX1_overtaken 93 = .ok (.aaload, 1) := by decide +kernel
theorem dX1_overtaken_94 : decode cX1_overtaken 94 = .ok (.astore 6, 2) := by decide +kernel
theorem dX1_overtaken_96 : decode cX1_overtaken 96 = .ok (.aload 5, 2) := by decide +kernel
theorem dX1_overtaken_98 : decode cX1_overtaken 98 = .ok (.aload 6, 2) := by decide +kernel
theorem dX1_overtaken_100 : decode cX1_overtaken 100 = .ok (.invokestatic 241, 3) := by decide +kernel
theorem dX1_overtaken_103 : decode cX1_overtaken 103 = .ok (.ifCond .eq 28, 3) := by decide +kernel
theorem dX1_overtaken_106 : decode cX1_overtaken 106 = .ok (.aload 6, 2) := by decide +kernel
theorem dX1_overtaken_108 : decode cX1_overtaken 108 = .ok (.getfield 245, 3) := by decide +kernel
theorem dX1_overtaken_111 : decode cX1_overtaken 111 = .ok (.iconst (-1), 1) := by decide +kernel
theorem dX1_overtaken_112 : decode cX1_overtaken 112 = .ok (.if_icmp .eq 19, 3) := by decide +kernel
theorem dX1_overtaken_115 : decode cX1_overtaken 115 = .ok (.aload 6, 2) := by decide +kernel
theorem dX1_overtaken_117 : decode cX1_overtaken 117 = .ok (.getfield 245, 3) := by decide +kernel
theorem dX1_overtaken_120 : decode cX1_overtaken 120 = .ok (.aload 5, 2) := by decide +kernel
theorem dX1_overtaken_122 : decode cX1_overtaken 122 = .ok (.getfield 245, 3) := by decide +kernel
theorem dX1_overtaken_125 : decode cX1_overtaken 125 = .ok (.if_icmp .ge 6, 3) := by decide +kernel
theorem dX1_overtaken_128 : decode cX1_overtaken 128 = .ok (.iinc 1 1, 3) := by decide +kernel
theorem dX1_overtaken_131 : decode cX1_overtaken 131 = .ok (.iinc 3 1, 3) := by decide +kernel
theorem dX1_overtaken_134 : decode cX1_overtaken 134 = .ok (.goto (-118), 3) := by decide +kernel
theorem dX1_overtaken_137 : decode cX1_overtaken 137 = .ok (.iinc 2 1, 3) := by decide +kernel
theorem dX1_overtaken_140 : decode cX1_overtaken 140 = .ok (.goto (-136), 3) := by decide +kernel
theorem dX1_overtaken_143 : decode cX1_overtaken 143 = .ok (.iload_n 1, 1) := by decide +kernel
theorem dX1_overtaken_144 : decode cX1_overtaken 144 = .ok (.ireturn, 1) := by decide +kernel
theorem dX1_init_0 : decode cX1_init 0 = .ok (.aload_n 0, 1) := by decide +kernel
theorem dX1_init_1 : decode cX1_init 1 = .ok (.invokespecial 3, 3) := by decide +kernel
theorem dX1_init_4 : decode cX1_init 4 = .ok (.aload_n 0, 1) := by decide +kernel
theorem dX1_init_5 : decode cX1_init 5 = .ok (.bipush 8, 2) := by decide +kernel
theorem dX1_init_7 : decode cX1_init 7 = .ok (.putfield 9, 3) := by decide +kernel
theorem dX1_init_10 : decode cX1_init 10 = .ok (.aload_n 0, 1) := by decide +kernel
theorem dX1_init_11 : decode cX1_init 11 = .ok (.iconst 0, 1) := by decide +kernel
theorem dX1_init_12 : decode cX1_init 12 = .ok (.putfield 15, 3) := by decide +kernel
theorem dX1_init_15 : decode cX1_init 15 = .ok (.aload_n 0, 1) := by decide +kernel
theorem dX1_init_16 : decode cX1_init 16 = .ok (.iconst 0, 1) := by decide +kernel
theorem dX1_init_17 : decode cX1_init 17 = .ok (.putfield 18, 3) := by decide +kernel
theorem dX1_init_20 : decode cX1_init 20 = .ok (.aload_n 0, 1) := by decide +kernel
theorem dX1_init_21 : decode cX1_init 21 = .ok (.iconst 2, 1) := by decide +kernel
theorem dX1_init_22 : decode cX1_init 22 = .ok (.putfield 21, 3) := by decide +kernel
theorem dX1_init_25 : decode cX1_init 25 = .ok (.aload_n 0, 1) := by decide +kernel
theorem dX1_init_26 : decode cX1_init 26 = .ok (.iconst 0, 1) := by decide +kernel
theorem dX1_init_27 : decode cX1_init 27 = .ok (.putfield 24, 3) := by decide +kernel
theorem dX1_init_30 : decode cX1_init 30 = .ok (.aload_n 0, 1) := by decide +kernel
theorem dX1_init_31 : decode cX1_init 31 = .ok (.iconst 1, 1) := by decide +kernel
theorem dX1_init_32 : decode cX1_init 32 = .ok (.putfield 27, 3) := by decide +kernel
theorem dX1_init_35 : decode cX1_init 35 = .ok (.aload_n 0, 1) := by decide +kernel
theorem dX1_init_36 : decode cX1_init 36 = .ok (.iconst 0, 1) := by decide +kernel
theorem dX1_init_37 : decode cX1_init 37 = .ok (.putfield 30, 3) := by decide +kernel
theorem dX1_init_40 : decode cX1_init 40 = .ok (.aload_n 0, 1) := by decide +kernel
theorem dX1_init_41 : decode cX1_init 41 = .ok (.iconst 0, 1) := by decide +kernel
theorem dX1_init_42 : decode cX1_init 42 = .ok (.putfield 33, 3) := by decide +kernel
theorem dX1_init_45 : decode cX1_init 45 = .ok (.aload_n 0, 1) := by decide +kernel
theorem dX1_init_46 : decode cX1_init 46 = .ok (.iconst 0, 1) := by decide +kernel
theorem dX1_init_47 : decode cX1_init 47 = .ok (.putfield 36, 3) := by decide +kernel
theorem dX1_init_50 : decode cX1_init 50 = .ok (.aload_n 0, 1) := by decide +kernel
theorem dX1_init_51 : decode cX1_init 51 = .ok (.iconst (-1), 1) := by decide +kernel
theorem dX1_init_52 : decode cX1_init 52 = .ok (.putfield 40, 3) := by decide +kernel
theorem dX1_init_55 : decode cX1_init 55 = .ok (.aload_n 0, 1) := by decide +kernel
theorem dX1_init_56 : decode cX1_init 56 = .ok (.iconst 0, 1) := by decide +kernel
theorem dX1_init_57 : decode cX1_init 57 = .ok (.putfield 43, 3) := by decide +kernel
theorem dX1_init_60 : decode cX1_init 60 = .ok (.aload_n 0, 1) := by decide +kernel
theorem dX1_init_61 : decode cX1_init 61 = .ok (.iconst 0, 1) := by decide +kernel
theorem dX1_init_62 : decode cX1_init 62 = .ok (.putfield 46, 3) := by decide +kernel
theorem dX1_init_65 : decode cX1_init 65 = .ok (.aload_n 0, 1) := by decide +kernel
theorem dX1_init_66 : decode cX1_init 66 = .ok (.iconst 0, 1) := by decide +kernel
theorem dX1_init_67 : decode cX1_init 67 = .ok (.putfield 49, 3) := by decide +kernel
theorem dX1_init_70 : decode cX1_init 70 = .ok (.aload_n 0, 1) := by decide +kernel
theorem dX1_init_71 : decode cX1_init 71 = .ok (.iconst 4, 1) := by decide +kernel
theorem dX1_init_72 : decode cX1_init 72 = .ok (.anewarray 52, 3) := by decide +kernel
theorem dX1_init_75 : decode cX1_init 75 = .ok (.putfield 54, 3) := by decide +kernel
theorem dX1_init_78 : decode cX1_init 78 = .ok (.aload_n 0, 1) := by decide +kernel
theorem dX1_init_79 : decode cX1_init 79 = .ok (.bipush 24, 2) := by decide +kernel
theorem dX1_init_81 : decode cX1_init 81 = .ok (.anewarray 58, 3) := by decide +kernel
theorem dX1_init_84 : decode cX1_init 84 = .ok (.putfield 60, 3) := by decide +kernel
theorem dX1_init_87 : decode cX1_init 87 = .ok (.aload_n 0, 1) := by decide +kernel
theorem dX1_init_88 : decode cX1_init 88 = .ok (.new 52, 3) := by decide +kernel
theorem dX1_init_91 : decode cX1_init 91 = .ok (.dup, 1) := by decide +kernel
theorem dX1_init_92 : decode cX1_init 92 = .ok (.invokespecial 64, 3) := by decide +kernel
theorem dX1_init_95 : decode cX1_init 95 = .ok (.putfield 65, 3) := by decide +kernel
theorem dX1_init_98 : decode cX1_init 98 = .ok (.iconst 0, 1) := by decide +kernel
theorem dX1_init_99 : decode cX1_init 99 = .ok (.istore_n 1, 1) := by decide +kernel
theorem dX1_init_100 : decode cX1_init 100 = .ok (.iload_n 1, 1) := by decide +kernel
theorem dX1_init_101 : decode cX1_init 101 = .ok (.iconst 4, 1) := by decide +kernel
theorem dX1_init_102 : decode cX1_init 102 = .ok (.if_icmp .ge 22, 3) := by decide +kernel
theorem dX1_init_105 : decode cX1_init 105 = .ok (.aload_n 0, 1) := by decide +kernel
theorem dX1_init_106 : decode cX1_init 106 = .ok (.getfield 54, 3) := by decide +kernel
theorem dX1_init_109 : decode cX1_init 109 = .ok (.iload_n 1, 1) := by decide +kernel
theorem dX1_init_110 : decode cX1_init 110 = .ok (.new 52, 3) := by decide +kernel
theorem dX1_init_113 : decode cX1_init 113 = .ok (.dup, 1) := by decide +kernel
theorem dX1_init_114 : decode cX1_init 114 = .ok (.invokespecial 64, 3) := by decide +kernel
theorem dX1_init_117 : decode cX1_init 117 = .ok (.aastore, 1) := by decide +kernel
theorem dX1_init_118 : decode cX1_init 118 = .ok (.iinc 1 1, 3) := by decide +kernel
theorem dX1_init_121 : decode cX1_init 121 = .ok (.goto (-21), 3) := by decide +kernel
theorem dX1_init_124 : decode cX1_init 124 = .ok (.iconst 0, 1) := by decide +kernel
theorem dX1_init_125 : decode cX1_init 125 = .ok (.istore_n 1, 1) := by decide +kernel
theorem dX1_init_126 : decode cX1_init 126 = .ok (.iload_n 1, 1) := by decide +kernel
theorem dX1_init_127 : decode cX1_init 127 = .ok (.bipush 24, 2) := by decide +kernel
theorem dX1_init_129 : decode cX1_init 129 = .ok (.if_icmp .ge 22, 3) := by decide +kernel
theorem dX1_init_132 : decode cX1_init 132 = .ok (.aload_n 0, 1) := by decide +kernel
theorem dX1_init_133 : decode cX1_init 133 = .ok (.getfield 60, 3) := by decide +kernel
theorem dX1_init_136 : decode cX1_init 136 = .ok (.iload_n 1, 1) := by decide +kernel
theorem dX1_init_137 : decode cX1_init 137 = .ok (.new 58, 3) := by decide +kernel
theorem dX1_init_140 : decode cX1_init 140 = .ok (.dup, 1) := by decide +kernel
theorem dX1_init_141 : decode cX1_init 141 = .ok (.invokespecial 69, 3) := by decide +kernel
theorem dX1_init_144 : decode cX1_init 144 = .ok (.aastore, 1) := by decide +kernel
theorem dX1_init_145 : decode cX1_init 145 = .ok (.iinc 1 1, 3) := by decide +kernel
theorem dX1_init_148 : decode cX1_init 148 = .ok (.goto (-22), 3) := by decide +kernel
theorem dX1_init_151 : decode cX1_init 151 = .ok (.return_, 1) := by decide +kernel
theorem dX1_addCar_0 : decode cX1_addCar 0 = .ok (.aload_n 0, 1) := by decide +kernel
theorem dX1_addCar_1 : decode cX1_addCar 1 = .ok (.getfield 15, 3) := by decide +kernel
theorem dX1_addCar_4 : decode cX1_addCar 4 = .ok (.iconst 4, 1) := by decide +kernel
theorem dX1_addCar_5 : decode cX1_addCar 5 = .ok (.if_icmp .ge 28, 3) := by decide +kernel
theorem dX1_addCar_8 : decode cX1_addCar 8 = .ok (.aload_n 0, 1) := by decide +kernel
theorem dX1_addCar_9 : decode cX1_addCar 9 = .ok (.getfield 54, 3) := by decide +kernel
theorem dX1_addCar_12 : decode cX1_addCar 12 = .ok (.aload_n 0, 1) := by decide +kernel
theorem dX1_addCar_13 : decode cX1_addCar 13 = .ok (.getfield 15, 3) := by decide +kernel
theorem dX1_addCar_16 : decode cX1_addCar 16 = .ok (.aaload, 1) := by decide +kernel
theorem dX1_addCar_17 : decode cX1_addCar 17 = .ok (.iload_n 1, 1) := by decide +kernel
theorem dX1_addCar_18 : decode cX1_addCar 18 = .ok (.iload_n 2, 1) := by decide +kernel
theorem dX1_addCar_19 : decode cX1_addCar 19 = .ok (.iload_n 3, 1) := by decide +kernel
theorem dX1_addCar_20 : decode cX1_addCar 20 = .ok (.invokevirtual 77, 3) := by decide +kernel
theorem dX1_addCar_23 : decode cX1_addCar 23 = .ok (.aload_n 0, 1) := by decide +kernel
theorem dX1_addCar_24 : decode cX1_addCar 24 = .ok (.dup, 1) := by decide +kernel
theorem dX1_addCar_25 : decode cX1_addCar 25 = .ok (.getfield 15, 3) := by decide +kernel
theorem dX1_addCar_28 : decode cX1_addCar 28 = .ok (.iconst 1, 1) := by decide +kernel
theorem dX1_addCar_29 : decode cX1_addCar 29 = .ok (.iadd, 1) := by decide +kernel
theorem dX1_addCar_30 : decode cX1_addCar 30 = .ok (.putfield 15, 3) := by decide +kernel
theorem dX1_addCar_33 : decode cX1_addCar 33 = .ok (.return_, 1) := by decide +kernel
theorem dX1_addByHand_0 : decode cX1_addByHand 0 = .ok (.aload_n 0, 1) := by decide +kernel
theorem dX1_addByHand_1 : decode cX1_addByHand 1 = .ok (.aload_n 0, 1) := by decide +kernel
theorem dX1_addByHand_2 : decode cX1_addByHand 2 = .ok (.getfield 33, 3) := by decide +kernel
theorem dX1_addByHand_5 : decode cX1_addByHand 5 = .ok (.iload_n 1, 1) := by decide +kernel
theorem dX1_addByHand_6 : decode cX1_addByHand 6 = .ok (.iload_n 2, 1) := by decide +kernel
theorem dX1_addByHand_7 : decode cX1_addByHand 7 = .ok (.iload_n 3, 1) := by decide +kernel
theorem dX1_addByHand_8 : decode cX1_addByHand 8 = .ok (.invokevirtual 84, 3) := by decide +kernel
theorem dX1_addByHand_11 : decode cX1_addByHand 11 = .ok (.aload_n 0, 1) := by decide +kernel
theorem dX1_addByHand_12 : decode cX1_addByHand 12 = .ok (.aload_n 0, 1) := by decide +kernel
theorem dX1_addByHand_13 : decode cX1_addByHand 13 = .ok (.getfield 60, 3) := by decide +kernel
theorem dX1_addByHand_16 : decode cX1_addByHand 16 = .ok (.aload_n 0, 1) := by decide +kernel
theorem dX1_addByHand_17 : decode cX1_addByHand 17 = .ok (.getfield 18, 3) := by decide +kernel
theorem dX1_addByHand_20 : decode cX1_addByHand 20 = .ok (.iconst 1, 1) := by decide +kernel
theorem dX1_addByHand_21 : decode cX1_addByHand 21 = .ok (.isub, 1) := by decide +kernel
theorem dX1_addByHand_22 : decode cX1_addByHand 22 = .ok (.aaload, 1) := by decide +kernel
theorem dX1_addByHand_23 : decode cX1_addByHand 23 = .ok (.invokevirtual 87, 3) := by decide +kernel
theorem dX1_addByHand_26 : decode cX1_addByHand 26 = .ok (.aload_n 0, 1) := by decide +kernel
theorem dX1_addByHand_27 : decode cX1_addByHand 27 = .ok (.getfield 18, 3) := by decide +kernel
theorem dX1_addByHand_30 : decode cX1_addByHand 30 = .ok (.iconst 1, 1) := by decide +kernel
theorem dX1_addByHand_31 : decode cX1_addByHand 31 = .ok (.isub, 1) := by decide +kernel
theorem dX1_addByHand_32 : decode cX1_addByHand 32 = .ok (.ireturn, 1) := by decide +kernel
theorem dX1_costOf_0 : decode cX1_costOf 0 = .ok (.aload_n 0, 1) := by decide +kernel
theorem dX1_costOf_1 : decode cX1_costOf 1 = .ok (.getfield 65, 3) := by decide +kernel
theorem dX1_costOf_4 : decode cX1_costOf 4 = .ok (.aload_n 1, 1) := by decide +kernel
theorem dX1_costOf_5 : decode cX1_costOf 5 = .ok (.invokevirtual 70, 3) := by decide +kernel
theorem dX1_costOf_8 : decode cX1_costOf 8 = .ok (.aload_n 0, 1) := by decide +kernel
theorem dX1_costOf_9 : decode cX1_costOf 9 = .ok (.getfield 65, 3) := by decide +kernel
theorem dX1_costOf_12 : decode cX1_costOf 12 = .ok (.dup, 1) := by decide +kernel
theorem dX1_costOf_13 : decode cX1_costOf 13 = .ok (.getfield 144, 3) := by decide +kernel
theorem dX1_costOf_16 : decode cX1_costOf 16 = .ok (.lconst 1, 1) := by decide +kernel
theorem dX1_costOf_17 : decode cX1_costOf 17 = .ok (.iload_n 2, 1) := by decide +kernel
theorem dX1_costOf_18 : decode cX1_costOf 18 = .ok (.lshl, 1) := by decide +kernel
theorem dX1_costOf_19 : decode cX1_costOf 19 = .ok (.lor, 1) := by decide +kernel
theorem dX1_costOf_20 : decode cX1_costOf 20 = .ok (.putfield 144, 3) := by decide +kernel
theorem dX1_costOf_23 : decode cX1_costOf 23 = .ok (.aload_n 0, 1) := by decide +kernel
theorem dX1_costOf_24 : decode cX1_costOf 24 = .ok (.aload_n 1, 1) := by decide +kernel
theorem dX1_costOf_25 : decode cX1_costOf 25 = .ok (.invokevirtual 178, 3) := by decide +kernel
theorem dX1_costOf_28 : decode cX1_costOf 28 = .ok (.istore_n 3, 1) := by decide +kernel
theorem dX1_costOf_29 : decode cX1_costOf 29 = .ok (.iload_n 2, 1) := by decide +kernel
theorem dX1_costOf_30 : decode cX1_costOf 30 = .ok (.iconst 2, 1) := by decide +kernel
theorem dX1_costOf_31 : decode cX1_costOf 31 = .ok (.iand, 1) := by decide +kernel
theorem dX1_costOf_32 : decode cX1_costOf 32 = .ok (.ifCond .ne 7, 3) := by decide +kernel
theorem dX1_costOf_35 : decode cX1_costOf 35 = .ok (.iconst 1, 1) := by decide +kernel
theorem dX1_costOf_36 : decode cX1_costOf 36 = .ok (.goto 4, 3) := by decide +kernel
theorem dX1_costOf_39 : decode cX1_costOf 39 = .ok (.iconst (-1), 1) := by decide +kernel
theorem dX1_costOf_40 : decode cX1_costOf 40 = .ok (.istore 4, 2) := by decide +kernel
theorem dX1_costOf_42 : decode cX1_costOf 42 = .ok (.iconst 0, 1) := by decide +kernel
theorem dX1_costOf_43 : decode cX1_costOf 43 = .ok (.istore 5, 2) := by decide +kernel
theorem dX1_costOf_45 : decode cX1_costOf 45 = .ok (.iload 5, 2) := by decide +kernel
theorem dX1_costOf_47 : decode cX1_costOf 47 = .ok (.bipush 60, 2) := by decide +kernel
theorem dX1_costOf_49 : decode cX1_costOf 49 = .ok (.if_icmp .ge 49, 3) := by decide +kernel
theorem dX1_costOf_52 : decode cX1_costOf 52 = .ok (.aload_n 0, 1) := by decide +kernel
theorem dX1_costOf_53 : decode cX1_costOf 53 = .ok (.getfield 65, 3) := by decide +kernel
theorem dX1_costOf_56 : decode cX1_costOf 56 = .ok (.aload_n 0, 1) := by decide +kernel
theorem dX1_costOf_57 : decode cX1_costOf 57 = .ok (.iload_n 3, 1) := by decide +kernel
theorem dX1_costOf_58 : decode cX1_costOf 58 = .ok (.invokevirtual 182, 3) := by decide +kernel
theorem dX1_costOf_61 : decode cX1_costOf 61 = .ok (.ifCond .eq 31, 3) := by decide +kernel
theorem dX1_costOf_64 : decode cX1_costOf 64 = .ok (.aload_n 0, 1) := by decide +kernel
theorem dX1_costOf_65 : decode cX1_costOf 65 = .ok (.getfield 65, 3) := by decide +kernel
theorem dX1_costOf_68 : decode cX1_costOf 68 = .ok (.getfield 151, 3) := by decide +kernel
theorem dX1_costOf_71 : decode cX1_costOf 71 = .ok (.iload_n 2, 1) := by decide +kernel
theorem dX1_costOf_72 : decode cX1_costOf 72 = .ok (.iconst 4, 1) := by decide +kernel
theorem dX1_costOf_73 : decode cX1_costOf 73 = .ok (.idiv, 1) := by decide +kernel
theorem dX1_costOf_74 : decode cX1_costOf 74 = .ok (.if_icmp .ne 18, 3) := by decide +kernel
theorem dX1_costOf_77 : decode cX1_costOf 77 = .ok (.aload_n 0, 1) := by decide +kernel
theorem dX1_costOf_78 : decode cX1_costOf 78 = .ok (.getfield 65, 3) := by decide +kernel
theorem dX1_costOf_81 : decode cX1_costOf 81 = .ok (.getfield 186, 3) := by decide +kernel
theorem dX1_costOf_84 : decode cX1_costOf 84 = .ok (.iload 4, 2) := by decide +kernel
theorem dX1_costOf_86 : decode cX1_costOf 86 = .ok (.if_icmp .ne 6, 3) := by decide +kernel
theorem dX1_costOf_89 : decode cX1_costOf 89 = .ok (.iload 5, 2) := by decide +kernel
theorem dX1_costOf_91 : decode cX1_costOf 91 = .ok (.ireturn, 1) := by decide +kernel
theorem dX1_costOf_92 : decode cX1_costOf 92 = .ok (.iinc 5 1, 3) := by decide +kernel
theorem dX1_costOf_95 : decode cX1_costOf 95 = .ok (.goto (-50), 3) := by decide +kernel
theorem dX1_costOf_98 : decode cX1_costOf 98 = .ok (.bipush 60, 2) := by decide +kernel
theorem dX1_costOf_100 : decode cX1_costOf 100 = .ok (.ireturn, 1) := by decide +kernel
set_option maxRecDepth 20000 in
set_option maxHeartbeats 4000000 in
theorem vX1_costOf_0 {l : Launch} {x : CX} {a0 : Nat} {a1 : Nat} {x2 : Int32} {h : PH} {rc rs n0 : Nat} {Q : Option Value → PH → Prop} {X : String → PH → Prop}
    (K : ((hK h a0).1 = 1) ∧ ∃ b2, (hR h a0 15 = some b2) ∧ ((hK h b2).1 = 2) ∧ ∃ (q4 : PH → Prop), CV l x mX2_copyFrom 0 0 0 [.ref b2, .ref a1] h q4 ∧ ∀ (h7 : PH), q4 h7 → ((hK h7 a0).1 = 1) ∧ ∃ b9, (hR h7 a0 15 = some b9) ∧ ((hK h7 b9).1 = 2) ∧ ∃ (q12 : Int32 → PH → Prop), CI l x mX1_restOf 0 0 0 [.ref a0, .ref a1] (sL h7 b9 12 ((hL h7 b9 12) ||| (lsh 1 x2))) q12 ∧ ∀ (r15 : Int32) (h14 : PH), q12 r15 h14 → Gm l x mX1_costOf 2 45 [(0, .ref a0), (1, .ref a1), (2, .int x2), (3, .int r15), (4, .int (if (x2 &&& 2) = 0 then 1 else (-1) : Int32)), (5, .int 0)] [] h14 rc rs n0 Q X) :
    Gm l x mX1_costOf 2 0 [(0, .ref a0), (1, .ref a1), (2, .int x2)] [] h rc rs n0 Q X := by
  refine g_aload_n dX1_costOf_0 rfl 0 rfl ?_
  obtain ⟨e1, b2, e3, K⟩ := K
  refine g_get (c := 1) (k := 15) (v := .ref b2) dX1_costOf_1 fc_1 (by decide) (by decide) bw_224 (congrArg pr e3) e1 ?_
  refine g_aload_n dX1_costOf_4 rfl 1 rfl ?_
  obtain ⟨e6, K⟩ := K
  obtain ⟨q4, C5, K⟩ := K
  refine g_callV (M' := mX2_copyFrom) (b := b2) (As := [.ref a1]) (rest := []) dX1_costOf_5 bw_456 bw_457 bw_458 bw_3 bw_459 ⟨by decide +kernel, by decide +kernel, show (parseMethodDescriptor mX2_copyFrom.1.desc).map (fun d => d.parameters.length) = some 1 by decide +kernel⟩ (by decide) (by decide) (Nat.le_of_ble_eq_true rfl) fc_2 (by decide) rfl e6 C5 (Nat.zero_le _) (Nat.zero_le _) (fun _ _ h => h) ?_
  rintro _ h7 ⟨rfl, K1⟩ -
  replace K := K h7 K1
  show Gm l x mX1_costOf 2 8 [(0, .ref a0), (1, .ref a1), (2, .int x2)] [] h7 rc rs n0 Q X
  refine g_aload_n dX1_costOf_8 rfl 0 rfl ?_
  obtain ⟨e8, b9, e10, K⟩ := K
  refine g_get (c := 1) (k := 15) (v := .ref b9) dX1_costOf_9 fc_1 (by decide) (by decide) bw_224 (congrArg pr e10) e8 ?_
  refine g_dup dX1_costOf_12 rfl ?_
  obtain ⟨e11, K⟩ := K
  refine g_get (c := 2) (k := 12) (v := .long (hL h7 b9 12)) dX1_costOf_13 fc_2 (by decide) (by decide) bw_81 rfl e11 ?_
  refine g_lconst (v := 1) dX1_costOf_16 (by decide) ?_
  refine g_iload_n dX1_costOf_17 rfl 2 rfl ?_
  refine g_lshl dX1_costOf_18 ?_
  refine g_lor dX1_costOf_19 ?_
  refine g_putl (c := 2) (k := 12) dX1_costOf_20 fc_2 (by decide) (by decide) bw_81 (Or.inl rfl) rfl e11 ?_
  refine g_aload_n dX1_costOf_23 rfl 0 rfl ?_
  refine g_aload_n dX1_costOf_24 rfl 1 rfl ?_
  obtain ⟨q12, C13, K⟩ := K
  refine g_callV (M' := mX1_restOf) (b := a0) (As := [.ref a1]) (rest := []) dX1_costOf_25 bw_476 bw_478 bs_4 bw_2 bw_479 ⟨by decide +kernel, by decide +kernel, show (parseMethodDescriptor mX1_restOf.1.desc).map (fun d => d.parameters.length) = some 1 by decide +kernel⟩ (by decide) (by decide) (Nat.le_of_ble_eq_true rfl) fc_1 (by decide) rfl (kkL e8) C13 (Nat.zero_le _) (Nat.zero_le _) (fun _ _ h => h) ?_
  rintro _ h14 ⟨r15, rfl, K1⟩ -
  replace K := K r15 h14 K1
  show Gm l x mX1_costOf 2 28 [(0, .ref a0), (1, .ref a1), (2, .int x2)] [.int r15] h14 rc rs n0 Q X
  refine g_istore_n (lv' := [(0, .ref a0), (1, .ref a1), (2, .int x2), (3, .int r15)]) dX1_costOf_28 rfl (by decide) rfl ?_
  refine g_iload_n dX1_costOf_29 rfl 2 rfl ?_
  refine g_iconst (v := 2) dX1_costOf_30 (by decide) ?_
  refine g_iand dX1_costOf_31 ?_
  have KJ : Gm l x mX1_costOf 2 40 [(0, .ref a0), (1, .ref a1), (2, .int x2), (3, .int r15)] [.int (if (x2 &&& 2) = 0 then 1 else (-1) : Int32)] h14 rc rs n0 Q X := by
    refine g_istore (lv' := [(0, .ref a0), (1, .ref a1), (2, .int x2), (3, .int r15), (4, .int (if (x2 &&& 2) = 0 then 1 else (-1) : Int32))]) dX1_costOf_40 (by decide) rfl ?_
    refine g_iconst (v := 0) dX1_costOf_42 (by decide) ?_
    refine g_istore (lv' := [(0, .ref a0), (1, .ref a1), (2, .int x2), (3, .int r15), (4, .int (if (x2 &&& 2) = 0 then 1 else (-1) : Int32)), (5, .int 0)]) dX1_costOf_43 (by decide) rfl ?_
    exact K
  refine g_if_ne (tgt := 39) dX1_costOf_32 (by decide) (fun c16 => ?_) (fun c16 => ?_)
  · refine g_iconst (v := (-1)) dX1_costOf_39 (by decide) ?_
    first | (simp only [if_neg c16] at KJ; with_reducible exact KJ) | (simp only [if_neg c16, ite_true, ite_false, eq_self] at KJ; with_reducible exact KJ) | (simp only [if_neg c16, reduceIte, eq_self] at KJ; exact KJ) | exact KJ
  · refine g_iconst (v := 1) dX1_costOf_35 (by decide) ?_
    refine g_goto (tgt := 40) dX1_costOf_36 (by decide) ?_
    first | (simp only [if_pos c16] at KJ; with_reducible exact KJ) | (simp only [if_pos c16, ite_true, ite_false, eq_self] at KJ; with_reducible exact KJ) | (simp only [if_pos c16, reduceIte, eq_self] at KJ; exact KJ) | exact KJ
set_option maxRecDepth 20000 in
set_option maxHeartbeats 4000000 in
theorem vX1_costOf_45 {l : Launch} {x : CX} {a0 : Nat} {a1 : Nat} {x2 : Int32} {x3 : Int32} {x4 : Int32} {x5 : Int32} {h : PH} {rc rs n0 : Nat} {Q : Option Value → PH → Prop} {X : String → PH → Prop}
    (K : ((60 ≤ x5 → Q (some (.int 60)) h) ∧ (¬ 60 ≤ x5 → ((hK h a0).1 = 1) ∧ ∃ b3, (hR h a0 15 = some b3) ∧ ((hK h b3).1 = 2) ∧ ∃ (q5 : Int32 → PH → Prop), CI l x mX2_move 1 0 0 [.ref b3, .ref a0, .int x3] h q5 ∧ ∀ (r9 : Int32) (h8 : PH), q5 r9 h8 → ((r9 = 0 → Gm l x mX1_costOf 2 45 [(0, .ref a0), (1, .ref a1), (2, .int x2), (3, .int x3), (4, .int x4), (5, .int (x5 + 1))] [] h8 rc rs n0 Q X) ∧ (¬ r9 = 0 → ((hK h8 a0).1 = 1) ∧ ∃ b12, (hR h8 a0 15 = some b12) ∧ ((hK h8 b12).1 = 2) ∧ ((¬ (hI h8 b12 3) = (x2 / 4) → Gm l x mX1_costOf 2 45 [(0, .ref a0), (1, .ref a1), (2, .int x2), (3, .int x3), (4, .int x4), (5, .int (x5 + 1))] [] h8 rc rs n0 Q X) ∧ ((hI h8 b12 3) = (x2 / 4) → ((¬ (hI h8 b12 4) = x4 → Gm l x mX1_costOf 2 45 [(0, .ref a0), (1, .ref a1), (2, .int x2), (3, .int x3), (4, .int x4), (5, .int (x5 + 1))] [] h8 rc rs n0 Q X) ∧ ((hI h8 b12 4) = x4 → Q (some (.int x5)) h8))))))))) :
    Gm l x mX1_costOf 2 45 [(0, .ref a0), (1, .ref a1), (2, .int x2), (3, .int x3), (4, .int x4), (5, .int x5)] [] h rc rs n0 Q X := by
  refine g_iload dX1_costOf_45 5 rfl ?_
  refine g_bipush (v := 60) dX1_costOf_47 (by decide) ?_
  refine g_icmp_ge (tgt := 98) dX1_costOf_49 (by decide) (fun c1 => ?_) (fun c1 => ?_)
  · replace K := K.1 c1
    refine g_bipush (v := 60) dX1_costOf_98 (by decide) ?_
    exact g_iret dX1_costOf_100 rfl K
  · replace K := K.2 c1
    refine g_aload_n dX1_costOf_52 rfl 0 rfl ?_
    obtain ⟨e2, b3, e4, K⟩ := K
    refine g_get (c := 1) (k := 15) (v := .ref b3) dX1_costOf_53 fc_1 (by decide) (by decide) bw_224 (congrArg pr e4) e2 ?_
    refine g_aload_n dX1_costOf_56 rfl 0 rfl ?_
    refine g_iload_n dX1_costOf_57 rfl 3 rfl ?_
    obtain ⟨e7, K⟩ := K
    obtain ⟨q5, C6, K⟩ := K
    refine g_callV (M' := mX2_move) (b := b3) (As := [.ref a0, .int x3]) (rest := []) dX1_costOf_58 bw_555 bw_556 bw_557 bw_3 bw_558 ⟨by decide +kernel, by decide +kernel, show (parseMethodDescriptor mX2_move.1.desc).map (fun d => d.parameters.length) = some 2 by decide +kernel⟩ (by decide) (by decide) (Nat.le_of_ble_eq_true rfl) fc_2 (by decide) rfl e7 C6 (Nat.zero_le _) (Nat.zero_le _) (fun _ _ h => h) ?_
    rintro _ h8 ⟨r9, rfl, K1⟩ -
    replace K := K r9 h8 K1
    show Gm l x mX1_costOf 2 61 [(0, .ref a0), (1, .ref a1), (2, .int x2), (3, .int x3), (4, .int x4), (5, .int x5)] [.int r9] h8 rc rs n0 Q X
    refine g_if_eq (tgt := 92) dX1_costOf_61 (by decide) (fun c10 => ?_) (fun c10 => ?_)
    · replace K := K.1 c10
      refine g_iinc (v := (x5 + 1)) (lv' := [(0, .ref a0), (1, .ref a1), (2, .int x2), (3, .int x3), (4, .int x4), (5, .int (x5 + 1))]) dX1_costOf_92 5 rfl (by rfl) (by decide) rfl ?_
      refine g_goto (tgt := 45) dX1_costOf_95 (by decide) ?_
      exact K
    · replace K := K.2 c10
      refine g_aload_n dX1_costOf_64 rfl 0 rfl ?_
      obtain ⟨e11, b12, e13, K⟩ := K
      refine g_get (c := 1) (k := 15) (v := .ref b12) dX1_costOf_65 fc_1 (by decide) (by decide) bw_224 (congrArg pr e13) e11 ?_
      obtain ⟨e14, K⟩ := K
      refine g_get (c := 2) (k := 3) (v := .int (hI h8 b12 3)) dX1_costOf_68 fc_2 (by decide) (by decide) bw_59 rfl e14 ?_
      refine g_iload_n dX1_costOf_71 rfl 2 rfl ?_
      refine g_iconst (v := 4) dX1_costOf_72 (by decide) ?_
      refine g_idiv dX1_costOf_73 (by decide) ?_
      refine g_icmp_ne (tgt := 92) dX1_costOf_74 (by decide) (fun c15 => ?_) (fun c15 => ?_)
      · replace K := K.1 c15
        refine g_iinc (v := (x5 + 1)) (lv' := [(0, .ref a0), (1, .ref a1), (2, .int x2), (3, .int x3), (4, .int x4), (5, .int (x5 + 1))]) dX1_costOf_92 5 rfl (by rfl) (by decide) rfl ?_
        refine g_goto (tgt := 45) dX1_costOf_95 (by decide) ?_
        exact K
      · replace K := K.2 c15
        refine g_aload_n dX1_costOf_77 rfl 0 rfl ?_
        refine g_get (c := 1) (k := 15) (v := .ref b12) dX1_costOf_78 fc_1 (by decide) (by decide) bw_224 (congrArg pr e13) e11 ?_
        refine g_get (c := 2) (k := 4) (v := .int (hI h8 b12 4)) dX1_costOf_81 fc_2 (by decide) (by decide) bw_62 rfl e14 ?_
        refine g_iload dX1_costOf_84 4 rfl ?_
        refine g_icmp_ne (tgt := 92) dX1_costOf_86 (by decide) (fun c16 => ?_) (fun c16 => ?_)
        · replace K := K.1 c16
          refine g_iinc (v := (x5 + 1)) (lv' := [(0, .ref a0), (1, .ref a1), (2, .int x2), (3, .int x3), (4, .int x4), (5, .int (x5 + 1))]) dX1_costOf_92 5 rfl (by rfl) (by decide) rfl ?_
          refine g_goto (tgt := 45) dX1_costOf_95 (by decide) ?_
          exact K
        · replace K := K.2 c16
          refine g_iload dX1_costOf_89 5 rfl ?_
          exact g_iret dX1_costOf_91 rfl K
theorem dX1_moveCars_0 : decode cX1_moveCars 0 = .ok (.iconst 0, 1) := by decide +kernel
theorem dX1_moveCars_1 : decode cX1_moveCars 1 = .ok (.istore_n 1, 1) := by decide +kernel
theorem dX1_moveCars_2 : decode cX1_moveCars 2 = .ok (.iload_n 1, 1) := by decide +kernel
theorem dX1_moveCars_3 : decode cX1_moveCars 3 = .ok (.aload_n 0, 1) := by decide +kernel
theorem dX1_moveCars_4 : decode cX1_moveCars 4 = .ok (.getfield 15, 3) := by decide +kernel
theorem dX1_moveCars_7 : decode cX1_moveCars 7 = .ok (.if_icmp .ge 51, 3) := by decide +kernel
theorem dX1_moveCars_10 : decode cX1_moveCars 10 = .ok (.aload_n 0, 1) := by decide +kernel
theorem dX1_moveCars_11 : decode cX1_moveCars 11 = .ok (.getfield 54, 3) := by decide +kernel
theorem dX1_moveCars_14 : decode cX1_moveCars 14 = .ok (.iload_n 1, 1) := by decide +kernel
theorem dX1_moveCars_15 : decode cX1_moveCars 15 = .ok (.aaload, 1) := by decide +kernel
theorem dX1_moveCars_16 : decode cX1_moveCars 16 = .ok (.astore_n 2, 1) := by decide +kernel
theorem dX1_moveCars_17 : decode cX1_moveCars 17 = .ok (.aload_n 2, 1) := by decide +kernel
theorem dX1_moveCars_18 : decode cX1_moveCars 18 = .ok (.getfield 162, 3) := by decide +kernel
theorem dX1_moveCars_21 : decode cX1_moveCars 21 = .ok (.ifCond .eq 31, 3) := by decide +kernel
theorem dX1_moveCars_24 : decode cX1_moveCars 24 = .ok (.aload_n 2, 1) := by decide +kernel
theorem dX1_moveCars_25 : decode cX1_moveCars 25 = .ok (.iconst 0, 1) := by decide +kernel
theorem dX1_moveCars_26 : decode cX1_moveCars 26 = .ok (.putfield 187, 3) := by decide +kernel
theorem dX1_moveCars_29 : decode cX1_moveCars 29 = .ok (.aload_n 2, 1) := by decide +kernel
theorem dX1_moveCars_30 : decode cX1_moveCars 30 = .ok (.iconst 0, 1) := by decide +kernel
theorem dX1_moveCars_31 : decode cX1_moveCars 31 = .ok (.putfield 190, 3) := by decide +kernel
theorem dX1_moveCars_34 : decode cX1_moveCars 34 = .ok (.aload_n 2, 1) := by decide +kernel
theorem dX1_moveCars_35 : decode cX1_moveCars 35 = .ok (.aload_n 0, 1) := by decide +kernel
theorem dX1_moveCars_36 : decode cX1_moveCars 36 = .ok (.aload_n 0, 1) := by decide +kernel
theorem dX1_moveCars_37 : decode cX1_moveCars 37 = .ok (.aload_n 2, 1) := by decide +kernel
theorem dX1_moveCars_38 : decode cX1_moveCars 38 = .ok (.invokevirtual 178, 3) := by decide +kernel
theorem dX1_moveCars_41 : decode cX1_moveCars 41 = .ok (.invokevirtual 182, 3) := by decide +kernel
theorem dX1_moveCars_44 : decode cX1_moveCars 44 = .ok (.ifCond .eq 8, 3) := by decide +kernel
theorem dX1_moveCars_47 : decode cX1_moveCars 47 = .ok (.aload_n 0, 1) := by decide +kernel
theorem dX1_moveCars_48 : decode cX1_moveCars 48 = .ok (.iload_n 1, 1) := by decide +kernel
theorem dX1_moveCars_49 : decode cX1_moveCars 49 = .ok (.invokevirtual 193, 3) := by decide +kernel
theorem dX1_moveCars_52 : decode cX1_moveCars 52 = .ok (.iinc 1 1, 3) := by decide +kernel
theorem dX1_moveCars_55 : decode cX1_moveCars 55 = .ok (.goto (-53), 3) := by decide +kernel
theorem dX1_moveCars_58 : decode cX1_moveCars 58 = .ok (.return_, 1) := by decide +kernel
theorem dX1_flee_0 : decode cX1_flee 0 = .ok (.aload_n 0, 1) := by decide +kernel
theorem dX1_flee_1 : decode cX1_flee 1 = .ok (.ldc2_w 176, 3) := by decide +kernel
theorem dX1_flee_4 : decode cX1_flee 4 = .ok (.invokevirtual 172, 3) := by decide +kernel
theorem dX1_flee_7 : decode cX1_flee 7 = .ok (.iconst 0, 1) := by decide +kernel
theorem dX1_flee_8 : decode cX1_flee 8 = .ok (.istore_n 1, 1) := by decide +kernel
theorem dX1_flee_9 : decode cX1_flee 9 = .ok (.iload_n 1, 1) := by decide +kernel
theorem dX1_flee_10 : decode cX1_flee 10 = .ok (.aload_n 0, 1) := by decide +kernel
theorem dX1_flee_11 : decode cX1_flee 11 = .ok (.getfield 15, 3) := by decide +kernel
theorem dX1_flee_14 : decode cX1_flee 14 = .ok (.if_icmp .ge 58, 3) := by decide +kernel
theorem dX1_flee_17 : decode cX1_flee 17 = .ok (.aload_n 0, 1) := by decide +kernel
theorem dX1_flee_18 : decode cX1_flee 18 = .ok (.getfield 54, 3) := by decide +kernel
theorem dX1_flee_21 : decode cX1_flee 21 = .ok (.iload_n 1, 1) := by decide +kernel
theorem dX1_flee_22 : decode cX1_flee 22 = .ok (.aaload, 1) := by decide +kernel
theorem dX1_flee_23 : decode cX1_flee 23 = .ok (.astore_n 2, 1) := by decide +kernel
theorem dX1_flee_24 : decode cX1_flee 24 = .ok (.aload_n 2, 1) := by decide +kernel
theorem dX1_flee_25 : decode cX1_flee 25 = .ok (.getfield 162, 3) := by decide +kernel
theorem dX1_flee_28 : decode cX1_flee 28 = .ok (.ifCond .eq 38, 3) := by decide +kernel
theorem dX1_flee_31 : decode cX1_flee 31 = .ok (.aload_n 2, 1) := by decide +kernel
theorem dX1_flee_32 : decode cX1_flee 32 = .ok (.iconst 0, 1) := by decide +kernel
theorem dX1_flee_33 : decode cX1_flee 33 = .ok (.putfield 159, 3) := by decide +kernel
theorem dX1_flee_36 : decode cX1_flee 36 = .ok (.aload_n 2, 1) := by decide +kernel
theorem dX1_flee_37 : decode cX1_flee 37 = .ok (.getfield 151, 3) := by decide +kernel
theorem dX1_flee_40 : decode cX1_flee 40 = .ok (.ifCond .le 16, 3) := by decide +kernel
theorem dX1_flee_43 : decode cX1_flee 43 = .ok (.aload_n 2, 1) := by decide +kernel
theorem dX1_flee_44 : decode cX1_flee 44 = .ok (.iconst (-1), 1) := by decide +kernel
theorem dX1_flee_45 : decode cX1_flee 45 = .ok (.putfield 186, 3) := by decide +kernel
theorem dX1_flee_48 : decode cX1_flee 48 = .ok (.aload_n 2, 1) := by decide +kernel
theorem dX1_flee_49 : decode cX1_flee 49 = .ok (.iconst 0, 1) := by decide +kernel
theorem dX1_flee_50 : decode cX1_flee 50 = .ok (.invokevirtual 209, 3) := by decide +kernel
theorem dX1_flee_53 : decode cX1_flee 53 = .ok (.goto 13, 3) := by decide +kernel
theorem dX1_flee_56 : decode cX1_flee 56 = .ok (.aload_n 2, 1) := by decide +kernel
theorem dX1_flee_57 : decode cX1_flee 57 = .ok (.iconst 0, 1) := by decide +kernel
theorem dX1_flee_58 : decode cX1_flee 58 = .ok (.putfield 186, 3) := by decide +kernel
theorem dX1_flee_61 : decode cX1_flee 61 = .ok (.aload_n 0, 1) := by decide +kernel
theorem dX1_flee_62 : decode cX1_flee 62 = .ok (.aload_n 2, 1) := by decide +kernel
theorem dX1_flee_63 : decode cX1_flee 63 = .ok (.invokevirtual 212, 3) := by decide +kernel
theorem dX1_flee_66 : decode cX1_flee 66 = .ok (.iinc 1 1, 3) := by decide +kernel
theorem dX1_flee_69 : decode cX1_flee 69 = .ok (.goto (-60), 3) := by decide +kernel
theorem dX1_flee_72 : decode cX1_flee 72 = .ok (.return_, 1) := by decide +kernel
theorem dX1_putOutOfService_0 : decode cX1_putOutOfService 0 = .ok (.aload_n 0, 1) := by decide +kernel
theorem dX1_putOutOfService_1 : decode cX1_putOutOfService 1 = .ok (.getfield 54, 3) := by decide +kernel
theorem dX1_putOutOfService_4 : decode cX1_putOutOfService 4 = .ok (.iload_n 1, 1) := by decide +kernel
theorem dX1_putOutOfService_5 : decode cX1_putOutOfService 5 = .ok (.aaload, 1) := by decide +kernel
theorem dX1_putOutOfService_6 : decode cX1_putOutOfService 6 = .ok (.astore_n 2, 1) := by decide +kernel
theorem dX1_putOutOfService_7 : decode cX1_putOutOfService 7 = .ok (.aload_n 0, 1) := by decide +kernel
theorem dX1_putOutOfService_8 : decode cX1_putOutOfService 8 = .ok (.aload_n 2, 1) := by decide +kernel
theorem dX1_putOutOfService_9 : decode cX1_putOutOfService 9 = .ok (.invokevirtual 212, 3) := by decide +kernel
theorem dX1_putOutOfService_12 : decode cX1_putOutOfService 12 = .ok (.aload_n 2, 1) := by decide +kernel
theorem dX1_putOutOfService_13 : decode cX1_putOutOfService 13 = .ok (.iconst 0, 1) := by decide +kernel
theorem dX1_putOutOfService_14 : decode cX1_putOutOfService 14 = .ok (.putfield 159, 3) := by decide +kernel
theorem dX1_putOutOfService_17 : decode cX1_putOutOfService 17 = .ok (.aload_n 2, 1) := by decide +kernel
theorem dX1_putOutOfService_18 : decode cX1_putOutOfService 18 = .ok (.iconst 0, 1) := by decide +kernel
theorem dX1_putOutOfService_19 : decode cX1_putOutOfService 19 = .ok (.putfield 186, 3) := by decide +kernel
theorem dX1_putOutOfService_22 : decode cX1_putOutOfService 22 = .ok (.aload_n 2, 1) := by decide +kernel
theorem dX1_putOutOfService_23 : decode cX1_putOutOfService 23 = .ok (.lconst 0, 1) := by decide +kernel
theorem dX1_putOutOfService_24 : decode cX1_putOutOfService 24 = .ok (.putfield 144, 3) := by decide +kernel
theorem dX1_putOutOfService_27 : decode cX1_putOutOfService 27 = .ok (.aload_n 2, 1) := by decide +kernel
theorem dX1_putOutOfService_28 : decode cX1_putOutOfService 28 = .ok (.iconst 0, 1) := by decide +kernel
theorem dX1_putOutOfService_29 : decode cX1_putOutOfService 29 = .ok (.putfield 162, 3) := by decide +kernel
theorem dX1_putOutOfService_32 : decode cX1_putOutOfService 32 = .ok (.return_, 1) := by decide +kernel
theorem dX1_isAsleep_0 : decode cX1_isAsleep 0 = .ok (.aload_n 0, 1) := by decide +kernel
theorem dX1_isAsleep_1 : decode cX1_isAsleep 1 = .ok (.invokevirtual 238, 3) := by decide +kernel
theorem dX1_isAsleep_4 : decode cX1_isAsleep 4 = .ok (.istore_n 1, 1) := by decide +kernel
theorem dX1_isAsleep_5 : decode cX1_isAsleep 5 = .ok (.iconst 0, 1) := by decide +kernel
theorem dX1_isAsleep_6 : decode cX1_isAsleep 6 = .ok (.istore_n 2, 1) := by decide +kernel
theorem dX1_isAsleep_7 : decode cX1_isAsleep 7 = .ok (.iload_n 2, 1) := by decide +kernel
theorem dX1_isAsleep_8 : decode cX1_isAsleep 8 = .ok (.aload_n 0, 1) := by decide +kernel
theorem dX1_isAsleep_9 : decode cX1_isAsleep 9 = .ok (.getfield 15, 3) := by decide +kernel
theorem dX1_isAsleep_12 : decode cX1_isAsleep 12 = .ok (.if_icmp .ge 31, 3) := by decide +kernel
theorem dX1_isAsleep_15 : decode cX1_isAsleep 15 = .ok (.iload_n 1, 1) := by decide +kernel
theorem dX1_isAsleep_16 : decode cX1_isAsleep 16 = .ok (.ifCond .eq 19, 3) := by decide +kernel
theorem dX1_isAsleep_19 : decode cX1_isAsleep 19 = .ok (.aload_n 0, 1) := by decide +kernel
theorem dX1_isAsleep_20 : decode cX1_isAsleep 20 = .ok (.getfield 54, 3) := by decide +kernel
theorem dX1_isAsleep_23 : decode cX1_isAsleep 23 = .ok (.iload_n 2, 1) := by decide +kernel
theorem dX1_isAsleep_24 : decode cX1_isAsleep 24 = .ok (.aaload, 1) := by decide +kernel
theorem dX1_isAsleep_25 : decode cX1_isAsleep 25 = .ok (.getfield 186, 3) := by decide +kernel
theorem dX1_isAsleep_28 : decode cX1_isAsleep 28 = .ok (.ifCond .ne 7, 3) := by decide +kernel
theorem dX1_isAsleep_31 : decode cX1_isAsleep 31 = .ok (.iconst 1, 1) := by decide +kernel
theorem dX1_isAsleep_32 : decode cX1_isAsleep 32 = .ok (.goto 4, 3) := by decide +kernel
theorem dX1_isAsleep_35 : decode cX1_isAsleep 35 = .ok (.iconst 0, 1) := by decide +kernel
theorem dX1_isAsleep_36 : decode cX1_isAsleep 36 = .ok (.istore_n 1, 1) := by decide +kernel
theorem dX1_isAsleep_37 : decode cX1_isAsleep 37 = .ok (.iinc 2 1, 3) := by decide +kernel
theorem dX1_isAsleep_40 : decode cX1_isAsleep 40 = .ok (.goto (-33), 3) := by decide +kernel
theorem dX1_isAsleep_43 : decode cX1_isAsleep 43 = .ok (.iload_n 1, 1) := by decide +kernel
theorem dX1_isAsleep_44 : decode cX1_isAsleep 44 = .ok (.ireturn, 1) := by decide +kernel
theorem dX1_give_0 : decode cX1_give 0 = .ok (.iload_n 1, 1) := by decide +kernel
theorem dX1_give_1 : decode cX1_give 1 = .ok (.iconst 1, 1) := by decide +kernel
theorem dX1_give_2 : decode cX1_give 2 = .ok (.iand, 1) := by decide +kernel
theorem dX1_give_3 : decode cX1_give 3 = .ok (.ifCond .ne 7, 3) := by decide +kernel
theorem dX1_give_6 : decode cX1_give 6 = .ok (.iconst 1, 1) := by decide +kernel
theorem dX1_give_7 : decode cX1_give 7 = .ok (.goto 4, 3) := by decide +kernel
theorem dX1_give_10 : decode cX1_give 10 = .ok (.iconst 2, 1) := by decide +kernel
theorem dX1_give_11 : decode cX1_give 11 = .ok (.istore_n 2, 1) := by decide +kernel
theorem dX1_give_12 : decode cX1_give 12 = .ok (.iconst (-1), 1) := by decide +kernel
theorem dX1_give_13 : decode cX1_give 13 = .ok (.istore_n 3, 1) := by decide +kernel
theorem dX1_give_14 : decode cX1_give 14 = .ok (.iconst 0, 1) := by decide +kernel
theorem dX1_give_15 : decode cX1_give 15 = .ok (.istore 4, 2) := by decide +kernel
theorem dX1_give_17 : decode cX1_give 17 = .ok (.iconst 0, 1) := by decide +kernel
theorem dX1_give_18 : decode cX1_give 18 = .ok (.istore 5, 2) := by decide +kernel
theorem dX1_give_20 : decode cX1_give 20 = .ok (.iload 5, 2) := by decide +kernel
theorem dX1_give_22 : decode cX1_give 22 = .ok (.aload_n 0, 1) := by decide +kernel
theorem dX1_give_23 : decode cX1_give 23 = .ok (.getfield 15, 3) := by decide +kernel
theorem dX1_give_26 : decode cX1_give 26 = .ok (.if_icmp .ge 130, 3) := by decide +kernel
theorem dX1_give_29 : decode cX1_give 29 = .ok (.aload_n 0, 1) := by decide +kernel
theorem dX1_give_30 : decode cX1_give 30 = .ok (.getfield 27, 3) := by decide +kernel
theorem dX1_give_33 : decode cX1_give 33 = .ok (.ifCond .ne 20, 3) := by decide +kernel
theorem dX1_give_36 : decode cX1_give 36 = .ok (.aload_n 0, 1) := by decide +kernel
theorem dX1_give_37 : decode cX1_give 37 = .ok (.getfield 40, 3) := by decide +kernel
theorem dX1_give_40 : decode cX1_give 40 = .ok (.iconst 1, 1) := by decide +kernel
theorem dX1_give_41 : decode cX1_give 41 = .ok (.iadd, 1) := by decide +kernel
theorem dX1_give_42 : decode cX1_give 42 = .ok (.iload 5, 2) := by decide +kernel
theorem dX1_give_44 : decode cX1_give 44 = .ok (.iadd, 1) := by decide +kernel
theorem dX1_give_45 : decode cX1_give 45 = .ok (.aload_n 0, 1) := by decide +kernel
theorem dX1_give_46 : decode cX1_give 46 = .ok (.getfield 15, 3) := by decide +kernel
theorem dX1_give_49 : decode cX1_give 49 = .ok (.irem, 1) := by decide +kernel
theorem dX1_give_50 : decode cX1_give 50 = .ok (.goto 5, 3) := by decide +kernel
theorem dX1_give_53 : decode cX1_give 53 = .ok (.iload 5, 2) := by decide +kernel
theorem dX1_give_55 : decode cX1_give 55 = .ok (.istore 6, 2) := by decide +kernel
theorem dX1_give_57 : decode cX1_give 57 = .ok (.aload_n 0, 1) := by decide +kernel
theorem dX1_give_58 : decode cX1_give 58 = .ok (.getfield 54, 3) := by decide +kernel
theorem dX1_give_61 : decode cX1_give 61 = .ok (.iload 6, 2) := by decide +kernel
theorem dX1_give_63 : decode cX1_give 63 = .ok (.aaload, 1) := by decide +kernel
theorem dX1_give_64 : decode cX1_give 64 = .ok (.astore 7, 2) := by decide +kernel
theorem dX1_give_66 : decode cX1_give 66 = .ok (.aload 7, 2) := by decide +kernel
theorem dX1_give_68 : decode cX1_give 68 = .ok (.getfield 162, 3) := by decide +kernel
theorem dX1_give_71 : decode cX1_give 71 = .ok (.ifCond .eq 79, 3) := by decide +kernel
theorem dX1_give_74 : decode cX1_give 74 = .ok (.aload 7, 2) := by decide +kernel
theorem dX1_give_76 : decode cX1_give 76 = .ok (.iload_n 2, 1) := by decide +kernel
theorem dX1_give_77 : decode cX1_give 77 = .ok (.invokevirtual 165, 3) := by decide +kernel
theorem dX1_give_80 : decode cX1_give 80 = .ok (.ifCond .ne 6, 3) := by decide +kernel
theorem dX1_give_83 : decode cX1_give 83 = .ok (.goto 67, 3) := by decide +kernel
theorem dX1_give_86 : decode cX1_give 86 = .ok (.iconst 0, 1) := by decide +kernel
theorem dX1_give_87 : decode cX1_give 87 = .ok (.istore 8, 2) := by decide +kernel
theorem dX1_give_89 : decode cX1_give 89 = .ok (.aload_n 0, 1) := by decide +kernel
theorem dX1_give_90 : decode cX1_give 90 = .ok (.getfield 27, 3) := by decide +kernel
theorem dX1_give_93 : decode cX1_give 93 = .ok (.iconst 1, 1) := by decide +kernel
theorem dX1_give_94 : decode cX1_give 94 = .ok (.if_icmp .ne 20, 3) := by decide +kernel
theorem dX1_give_97 : decode cX1_give 97 = .ok (.aload 7, 2) := by decide +kernel
theorem dX1_give_99 : decode cX1_give 99 = .ok (.getfield 151, 3) := by decide +kernel
theorem dX1_give_102 : decode cX1_give 102 = .ok (.iload_n 1, 1) := by decide +kernel
theorem dX1_give_103 : decode cX1_give 103 = .ok (.iconst 4, 1) := by decide +kernel
theorem dX1_give_104 : decode cX1_give 104 = .ok (.idiv, 1) := by decide +kernel
theorem dX1_give_105 : decode cX1_give 105 = .ok (.isub, 1) := by decide +kernel
theorem dX1_give_106 : decode cX1_give 106 = .ok (.invokestatic 154, 3) := by decide +kernel
theorem dX1_give_109 : decode cX1_give 109 = .ok (.istore 8, 2) := by decide +kernel
theorem dX1_give_111 : decode cX1_give 111 = .ok (.goto 20, 3) := by decide +kernel
theorem dX1_give_114 : decode cX1_give 114 = .ok (.aload_n 0, 1) := by decide +kernel
theorem dX1_give_115 : decode cX1_give 115 = .ok (.getfield 27, 3) := by decide +kernel
theorem dX1_give_118 : decode cX1_give 118 = .ok (.iconst 2, 1) := by decide +kernel
theorem dX1_give_119 : decode cX1_give 119 = .ok (.if_icmp .ne 12, 3) := by decide +kernel
theorem dX1_give_122 : decode cX1_give 122 = .ok (.aload_n 0, 1) := by decide +kernel
theorem dX1_give_123 : decode cX1_give 123 = .ok (.aload 7, 2) := by decide +kernel
theorem dX1_give_125 : decode cX1_give 125 = .ok (.iload_n 1, 1) := by decide +kernel
theorem dX1_give_126 : decode cX1_give 126 = .ok (.invokevirtual 168, 3) := by decide +kernel
theorem dX1_give_129 : decode cX1_give 129 = .ok (.istore 8, 2) := by decide +kernel
theorem dX1_give_131 : decode cX1_give 131 = .ok (.iload_n 3, 1) := by decide +kernel
theorem dX1_give_132 : decode cX1_give 132 = .ok (.iconst (-1), 1) := by decide +kernel
theorem dX1_give_133 : decode cX1_give 133 = .ok (.if_icmp .eq 10, 3) := by decide +kernel
theorem dX1_give_136 : decode cX1_give 136 = .ok (.iload 8, 2) := by decide +kernel
theorem dX1_give_138 : decode cX1_give 138 = .ok (.iload 4, 2) := by decide +kernel
theorem dX1_give_140 : decode cX1_give 140 = .ok (.if_icmp .ge 10, 3) := by decide +kernel
theorem dX1_give_143 : decode cX1_give 143 = .ok (.iload 6, 2) := by decide +kernel
theorem dX1_give_145 : decode cX1_give 145 = .ok (.istore_n 3, 1) := by decide +kernel
theorem dX1_give_146 : decode cX1_give 146 = .ok (.iload 8, 2) := by decide +kernel
theorem dX1_give_148 : decode cX1_give 148 = .ok (.istore 4, 2) := by decide +kernel
theorem dX1_give_150 : decode cX1_give 150 = .ok (.iinc 5 1, 3) := by decide +kernel
theorem dX1_give_153 : decode cX1_give 153 = .ok (.goto (-133), 3) := by decide +kernel
theorem dX1_give_156 : decode cX1_give 156 = .ok (.aload_n 0, 1) := by decide +kernel
theorem dX1_give_157 : decode cX1_give 157 = .ok (.lconst 1, 1) := by decide +kernel
theorem dX1_give_158 : decode cX1_give 158 = .ok (.iload_n 1, 1) := by decide +kernel
theorem dX1_give_159 : decode cX1_give 159 = .ok (.lshl, 1) := by decide +kernel
theorem dX1_give_160 : decode cX1_give 160 = .ok (.invokevirtual 172, 3) := by decide +kernel
theorem dX1_give_163 : decode cX1_give 163 = .ok (.iload_n 3, 1) := by decide +kernel
theorem dX1_give_164 : decode cX1_give 164 = .ok (.iconst (-1), 1) := by decide +kernel
theorem dX1_give_165 : decode cX1_give 165 = .ok (.if_icmp .eq 39, 3) := by decide +kernel
theorem dX1_give_168 : decode cX1_give 168 = .ok (.aload_n 0, 1) := by decide +kernel
theorem dX1_give_169 : decode cX1_give 169 = .ok (.getfield 54, 3) := by decide +kernel
theorem dX1_give_172 : decode cX1_give 172 = .ok (.iload_n 3, 1) := by decide +kernel
theorem dX1_give_173 : decode cX1_give 173 = .ok (.aaload, 1) := by decide +kernel
theorem dX1_give_174 : decode cX1_give 174 = .ok (.dup, 1) := by decide +kernel
theorem dX1_give_175 : decode cX1_give 175 = .ok (.getfield 144, 3) := by decide +kernel
theorem dX1_give_178 : decode cX1_give 178 = .ok (.lconst 1, 1) := by decide +kernel
theorem dX1_give_179 : decode cX1_give 179 = .ok (.iload_n 1, 1) := by decide +kernel
theorem dX1_give_180 : decode cX1_give 180 = .ok (.lshl, 1) := by decide +kernel
theorem dX1_give_181 : decode cX1_give 181 = .ok (.lor, 1) := by decide +kernel
theorem dX1_give_182 : decode cX1_give 182 = .ok (.putfield 144, 3) := by decide +kernel
theorem dX1_give_185 : decode cX1_give 185 = .ok (.aload_n 0, 1) := by decide +kernel
theorem dX1_give_186 : decode cX1_give 186 = .ok (.aload_n 0, 1) := by decide +kernel
theorem dX1_give_187 : decode cX1_give 187 = .ok (.getfield 27, 3) := by decide +kernel
theorem dX1_give_190 : decode cX1_give 190 = .ok (.ifCond .ne 7, 3) := by decide +kernel
theorem dX1_give_193 : decode cX1_give 193 = .ok (.iload_n 3, 1) := by decide +kernel
theorem dX1_give_194 : decode cX1_give 194 = .ok (.goto 7, 3) := by decide +kernel
theorem dX1_give_197 : decode cX1_give 197 = .ok (.aload_n 0, 1) := by decide +kernel
theorem dX1_give_198 : decode cX1_give 198 = .ok (.getfield 40, 3) := by decide +kernel
theorem dX1_give_201 : decode cX1_give 201 = .ok (.putfield 40, 3) := by decide +kernel
theorem dX1_give_204 : decode cX1_give 204 = .ok (.return_, 1) := by decide +kernel
theorem dX1_pass_0 : decode cX1_pass 0 = .ok (.iconst 0, 1) := by decide +kernel
theorem dX1_pass_1 : decode cX1_pass 1 = .ok (.istore_n 2, 1) := by decide +kernel
theorem dX1_pass_2 : decode cX1_pass 2 = .ok (.iload_n 2, 1) := by decide +kernel
theorem dX1_pass_3 : decode cX1_pass 3 = .ok (.iload_n 1, 1) := by decide +kernel
theorem dX1_pass_4 : decode cX1_pass 4 = .ok (.if_icmp .ge 233, 3) := by decide +kernel
theorem dX1_pass_7 : decode cX1_pass 7 = .ok (.aload_n 0, 1) := by decide +kernel
theorem dX1_pass_8 : decode cX1_pass 8 = .ok (.getfield 36, 3) := by decide +kernel
theorem dX1_pass_11 : decode cX1_pass 11 = .ok (.ifCond .ne 34, 3) := by decide +kernel
theorem dX1_pass_14 : decode cX1_pass 14 = .ok (.aload_n 0, 1) := by decide +kernel
theorem dX1_pass_15 : decode cX1_pass 15 = .ok (.getfield 49, 3) := by decide +kernel
theorem dX1_pass_18 : decode cX1_pass 18 = .ok (.aload_n 0, 1) := by decide +kernel
theorem dX1_pass_19 : decode cX1_pass 19 = .ok (.getfield 18, 3) := by decide +kernel
theorem dX1_pass_22 : decode cX1_pass 22 = .ok (.if_icmp .ne 23, 3) := by decide +kernel
theorem dX1_pass_25 : decode cX1_pass 25 = .ok (.aload_n 0, 1) := by decide +kernel
theorem dX1_pass_26 : decode cX1_pass 26 = .ok (.invokevirtual 103, 3) := by decide +kernel
theorem dX1_pass_29 : decode cX1_pass 29 = .ok (.ifCond .eq 16, 3) := by decide +kernel
theorem dX1_pass_32 : decode cX1_pass 32 = .ok (.aload_n 0, 1) := by decide +kernel
theorem dX1_pass_33 : decode cX1_pass 33 = .ok (.dup, 1) := by decide +kernel
theorem dX1_pass_34 : decode cX1_pass 34 = .ok (.getfield 33, 3) := by decide +kernel
theorem dX1_pass_37 : decode cX1_pass 37 = .ok (.iload_n 1, 1) := by decide +kernel
theorem dX1_pass_38 : decode cX1_pass 38 = .ok (.iload_n 2, 1) := by decide +kernel
theorem dX1_pass_39 : decode cX1_pass 39 = .ok (.isub, 1) := by decide +kernel
theorem dX1_pass_40 : decode cX1_pass 40 = .ok (.iadd, 1) := by decide +kernel
theorem dX1_pass_41 : decode cX1_pass 41 = .ok (.putfield 33, 3) := by decide +kernel
theorem dX1_pass_44 : decode cX1_pass 44 = .ok (.return_, 1) := by decide +kernel
theorem dX1_pass_45 : decode cX1_pass 45 = .ok (.iconst 0, 1) := by decide +kernel
theorem dX1_pass_46 : decode cX1_pass 46 = .ok (.istore_n 3, 1) := by decide +kernel
theorem dX1_pass_47 : decode cX1_pass 47 = .ok (.iload_n 3, 1) := by decide +kernel
theorem dX1_pass_48 : decode cX1_pass 48 = .ok (.aload_n 0, 1) := by decide +kernel
theorem dX1_pass_49 : decode cX1_pass 49 = .ok (.getfield 18, 3) := by decide +kernel
theorem dX1_pass_52 : decode cX1_pass 52 = .ok (.if_icmp .ge 47, 3) := by decide +kernel
theorem dX1_pass_55 : decode cX1_pass 55 = .ok (.aload_n 0, 1) := by decide +kernel
theorem dX1_pass_56 : decode cX1_pass 56 = .ok (.getfield 60, 3) := by decide +kernel
theorem dX1_pass_59 : decode cX1_pass 59 = .ok (.iload_n 3, 1) := by decide +kernel
theorem dX1_pass_60 : decode cX1_pass 60 = .ok (.aaload, 1) := by decide +kernel
theorem dX1_pass_61 : decode cX1_pass 61 = .ok (.getfield 107, 3) := by decide +kernel
theorem dX1_pass_64 : decode cX1_pass 64 = .ok (.ifCond .ne 29, 3) := by decide +kernel
theorem dX1_pass_67 : decode cX1_pass 67 = .ok (.aload_n 0, 1) := by decide +kernel
theorem dX1_pass_68 : decode cX1_pass 68 = .ok (.getfield 60, 3) := by decide +kernel
theorem dX1_pass_71 : decode cX1_pass 71 = .ok (.iload_n 3, 1) := by decide +kernel
theorem dX1_pass_72 : decode cX1_pass 72 = .ok (.aaload, 1) := by decide +kernel
theorem dX1_pass_73 : decode cX1_pass 73 = .ok (.getfield 110, 3) := by decide +kernel
theorem dX1_pass_76 : decode cX1_pass 76 = .ok (.aload_n 0, 1) := by decide +kernel
theorem dX1_pass_77 : decode cX1_pass 77 = .ok (.getfield 33, 3) := by decide +kernel
theorem dX1_pass_80 : decode cX1_pass 80 = .ok (.if_icmp .ne 13, 3) := by decide +kernel
theorem dX1_pass_83 : decode cX1_pass 83 = .ok (.aload_n 0, 1) := by decide +kernel
theorem dX1_pass_84 : decode cX1_pass 84 = .ok (.aload_n 0, 1) := by decide +kernel
theorem dX1_pass_85 : decode cX1_pass 85 = .ok (.getfield 60, 3) := by decide +kernel
theorem dX1_pass_88 : decode cX1_pass 88 = .ok (.iload_n 3, 1) := by decide +kernel
theorem dX1_pass_89 : decode cX1_pass 89 = .ok (.aaload, 1) := by decide +kernel
theorem dX1_pass_90 : decode cX1_pass 90 = .ok (.invokevirtual 87, 3) := by decide +kernel
theorem dX1_pass_93 : decode cX1_pass 93 = .ok (.iinc 3 1, 3) := by decide +kernel
theorem dX1_pass_96 : decode cX1_pass 96 = .ok (.goto (-49), 3) := by decide +kernel
theorem dX1_pass_99 : decode cX1_pass 99 = .ok (.aload_n 0, 1) := by decide +kernel
theorem dX1_pass_100 : decode cX1_pass 100 = .ok (.getfield 36, 3) := by decide +kernel
theorem dX1_pass_103 : decode cX1_pass 103 = .ok (.ifCond .eq 10, 3) := by decide +kernel
theorem dX1_pass_106 : decode cX1_pass 106 = .ok (.aload_n 0, 1) := by decide +kernel
theorem dX1_pass_107 : decode cX1_pass 107 = .ok (.invokevirtual 111, 3) := by decide +kernel
theorem dX1_pass_110 : decode cX1_pass 110 = .ok (.goto 67, 3) := by decide +kernel
theorem dX1_pass_113 : decode cX1_pass 113 = .ok (.aload_n 0, 1) := by decide +kernel
theorem dX1_pass_114 : decode cX1_pass 114 = .ok (.invokevirtual 114, 3) := by decide +kernel
theorem dX1_pass_117 : decode cX1_pass 117 = .ok (.lstore_n 3, 1) := by decide +kernel
theorem dX1_pass_118 : decode cX1_pass 118 = .ok (.iconst 0, 1) := by decide +kernel
theorem dX1_pass_119 : decode cX1_pass 119 = .ok (.istore 5, 2) := by decide +kernel
theorem dX1_pass_121 : decode cX1_pass 121 = .ok (.iload 5, 2) := by decide +kernel
theorem dX1_pass_123 : decode cX1_pass 123 = .ok (.iconst 4, 1) := by decide +kernel
theorem dX1_pass_124 : decode cX1_pass 124 = .ok (.aload_n 0, 1) := by decide +kernel
theorem dX1_pass_125 : decode cX1_pass 125 = .ok (.getfield 9, 3) := by decide +kernel
theorem dX1_pass_128 : decode cX1_pass 128 = .ok (.imul, 1) := by decide +kernel
theorem dX1_pass_129 : decode cX1_pass 129 = .ok (.if_icmp .ge 44, 3) := by decide +kernel
theorem dX1_pass_132 : decode cX1_pass 132 = .ok (.lload_n 3, 1) := by decide +kernel
theorem dX1_pass_133 : decode cX1_pass 133 = .ok (.iload 5, 2) := by decide +kernel
theorem dX1_pass_135 : decode cX1_pass 135 = .ok (.lushr, 1) := by decide +kernel
theorem dX1_pass_136 : decode cX1_pass 136 = .ok (.lconst 0, 1) := by decide +kernel
theorem dX1_pass_137 : decode cX1_pass 137 = .ok (.lcmp, 1) := by decide +kernel
theorem dX1_pass_138 : decode cX1_pass 138 = .ok (.ifCond .eq 35, 3) := by decide +kernel
theorem dX1_pass_141 : decode cX1_pass 141 = .ok (.lload_n 3, 1) := by decide +kernel
theorem dX1_pass_142 : decode cX1_pass 142 = .ok (.iload 5, 2) := by decide +kernel
theorem dX1_pass_144 : decode cX1_pass 144 = .ok (.lushr, 1) := by decide +kernel
theorem dX1_pass_145 : decode cX1_pass 145 = .ok (.lconst 1, 1) := by decide +kernel
theorem dX1_pass_146 : decode cX1_pass 146 = .ok (.land, 1) := by decide +kernel
theorem dX1_pass_147 : decode cX1_pass 147 = .ok (.lconst 0, 1) := by decide +kernel
theorem dX1_pass_148 : decode cX1_pass 148 = .ok (.lcmp, 1) := by decide +kernel
theorem dX1_pass_149 : decode cX1_pass 149 = .ok (.ifCond .eq 18, 3) := by decide +kernel
theorem dX1_pass_152 : decode cX1_pass 152 = .ok (.aload_n 0, 1) := by decide +kernel
theorem dX1_pass_153 : decode cX1_pass 153 = .ok (.iload 5, 2) := by decide +kernel
theorem dX1_pass_155 : decode cX1_pass 155 = .ok (.invokevirtual 118, 3) := by decide +kernel
theorem dX1_pass_158 : decode cX1_pass 158 = .ok (.ifCond .eq 9, 3) := by decide +kernel
theorem dX1_pass_161 : decode cX1_pass 161 = .ok (.aload_n 0, 1) := by decide +kernel
theorem dX1_pass_162 : decode cX1_pass 162 = .ok (.iload 5, 2) := by decide +kernel
theorem dX1_pass_164 : decode cX1_pass 164 = .ok (.invokevirtual 122, 3) := by decide +kernel
theorem dX1_pass_167 : decode cX1_pass 167 = .ok (.iinc 5 1, 3) := by decide +kernel
theorem dX1_pass_170 : decode cX1_pass 170 = .ok (.goto (-49), 3) := by decide +kernel
theorem dX1_pass_173 : decode cX1_pass 173 = .ok (.aload_n 0, 1) := by decide +kernel
theorem dX1_pass_174 : decode cX1_pass 174 = .ok (.invokevirtual 125, 3) := by decide +kernel
theorem dX1_pass_177 : decode cX1_pass 177 = .ok (.aload_n 0, 1) := by decide +kernel
theorem dX1_pass_178 : decode cX1_pass 178 = .ok (.dup, 1) := by decide +kernel
theorem dX1_pass_179 : decode cX1_pass 179 = .ok (.getfield 33, 3) := by decide +kernel
theorem dX1_pass_182 : decode cX1_pass 182 = .ok (.iconst 1, 1) := by decide +kernel
theorem dX1_pass_183 : decode cX1_pass 183 = .ok (.iadd, 1) := by decide +kernel
theorem dX1_pass_184 : decode cX1_pass 184 = .ok (.putfield 33, 3) := by decide +kernel
theorem dX1_pass_187 : decode cX1_pass 187 = .ok (.iconst 0, 1) := by decide +kernel
theorem dX1_pass_188 : decode cX1_pass 188 = .ok (.istore_n 3, 1) := by decide +kernel
theorem dX1_pass_189 : decode cX1_pass 189 = .ok (.iload_n 3, 1) := by decide +kernel
theorem dX1_pass_190 : decode cX1_pass 190 = .ok (.aload_n 0, 1) := by decide +kernel
theorem dX1_pass_191 : decode cX1_pass 191 = .ok (.getfield 18, 3) := by decide +kernel
theorem dX1_pass_194 : decode cX1_pass 194 = .ok (.if_icmp .ge 37, 3) := by decide +kernel
theorem dX1_pass_197 : decode cX1_pass 197 = .ok (.aload_n 0, 1) := by decide +kernel
theorem dX1_pass_198 : decode cX1_pass 198 = .ok (.getfield 60, 3) := by decide +kernel
theorem dX1_pass_201 : decode cX1_pass 201 = .ok (.iload_n 3, 1) := by decide +kernel
theorem dX1_pass_202 : decode cX1_pass 202 = .ok (.aaload, 1) := by decide +kernel
theorem dX1_pass_203 : decode cX1_pass 203 = .ok (.getfield 107, 3) := by decide +kernel
theorem dX1_pass_206 : decode cX1_pass 206 = .ok (.iconst 1, 1) := by decide +kernel
theorem dX1_pass_207 : decode cX1_pass 207 = .ok (.if_icmp .ne 18, 3) := by decide +kernel
theorem dX1_pass_210 : decode cX1_pass 210 = .ok (.aload_n 0, 1) := by decide +kernel
theorem dX1_pass_211 : decode cX1_pass 211 = .ok (.getfield 60, 3) := by decide +kernel
theorem dX1_pass_214 : decode cX1_pass 214 = .ok (.iload_n 3, 1) := by decide +kernel
theorem dX1_pass_215 : decode cX1_pass 215 = .ok (.aaload, 1) := by decide +kernel
theorem dX1_pass_216 : decode cX1_pass 216 = .ok (.dup, 1) := by decide +kernel
theorem dX1_pass_217 : decode cX1_pass 217 = .ok (.getfield 128, 3) := by decide +kernel
theorem dX1_pass_220 : decode cX1_pass 220 = .ok (.iconst 1, 1) := by decide +kernel
theorem dX1_pass_221 : decode cX1_pass 221 = .ok (.iadd, 1) := by decide +kernel
theorem dX1_pass_222 : decode cX1_pass 222 = .ok (.putfield 128, 3) := by decide +kernel
theorem dX1_pass_225 : decode cX1_pass 225 = .ok (.iinc 3 1, 3) := by decide +kernel
theorem dX1_pass_228 : decode cX1_pass 228 = .ok (.goto (-39), 3) := by decide +kernel
theorem dX1_pass_231 : decode cX1_pass 231 = .ok (.iinc 2 1, 3) := by decide +kernel
theorem dX1_pass_234 : decode cX1_pass 234 = .ok (.goto (-232), 3) := by decide +kernel
theorem dX1_pass_237 : decode cX1_pass 237 = .ok (.return_, 1) := by decide +kernel
