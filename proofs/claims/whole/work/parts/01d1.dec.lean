theorem dX5_tells_23 : decode cX5_tells 23 = .ok (.istore_n 2, 1) := by decide +kernel
theorem dX5_tells_24 : decode cX5_tells 24 = .ok (.aload_n 0, 1) := by decide +kernel
theorem dX5_tells_25 : decode cX5_tells 25 = .ok (.iconst 0, 1) := by decide +kernel
theorem dX5_tells_26 : decode cX5_tells 26 = .ok (.invokevirtual 229, 3) := by decide +kernel
theorem dX5_tells_29 : decode cX5_tells 29 = .ok (.istore_n 3, 1) := by decide +kernel
theorem dX5_tells_30 : decode cX5_tells 30 = .ok (.iconst 1, 1) := by decide +kernel
theorem dX5_tells_31 : decode cX5_tells 31 = .ok (.istore 4, 2) := by decide +kernel
theorem dX5_tells_33 : decode cX5_tells 33 = .ok (.iload 4, 2) := by decide +kernel
theorem dX5_tells_35 : decode cX5_tells 35 = .ok (.iconst 4, 1) := by decide +kernel
theorem dX5_tells_36 : decode cX5_tells 36 = .ok (.if_icmp .ge 29, 3) := by decide +kernel
theorem dX5_tells_39 : decode cX5_tells 39 = .ok (.aload_n 0, 1) := by decide +kernel
theorem dX5_tells_40 : decode cX5_tells 40 = .ok (.iload 4, 2) := by decide +kernel
theorem dX5_tells_42 : decode cX5_tells 42 = .ok (.invokevirtual 229, 3) := by decide +kernel
theorem dX5_tells_45 : decode cX5_tells 45 = .ok (.istore 5, 2) := by decide +kernel
theorem dX5_tells_47 : decode cX5_tells 47 = .ok (.iload 5, 2) := by decide +kernel
theorem dX5_tells_49 : decode cX5_tells 49 = .ok (.iload_n 3, 1) := by decide +kernel
theorem dX5_tells_50 : decode cX5_tells 50 = .ok (.if_icmp .ge 9, 3) := by decide +kernel
theorem dX5_tells_53 : decode cX5_tells 53 = .ok (.iload 5, 2) := by decide +kernel
theorem dX5_tells_55 : decode cX5_tells 55 = .ok (.istore_n 3, 1) := by decide +kernel
theorem dX5_tells_56 : decode cX5_tells 56 = .ok (.iload 4, 2) := by decide +kernel
theorem dX5_tells_58 : decode cX5_tells 58 = .ok (.istore_n 2, 1) := by decide +kernel
theorem dX5_tells_59 : decode cX5_tells 59 = .ok (.iinc 4 1, 3) := by decide +kernel
theorem dX5_tells_62 : decode cX5_tells 62 = .ok (.goto (-29), 3) := by decide +kernel
theorem dX5_tells_65 : decode cX5_tells 65 = .ok (.iload_n 1, 1) := by decide +kernel
theorem dX5_tells_66 : decode cX5_tells 66 = .ok (.ifCond .ne 7, 3) := by decide +kernel
theorem dX5_tells_69 : decode cX5_tells 69 = .ok (.iload_n 2, 1) := by decide +kernel
theorem dX5_tells_70 : decode cX5_tells 70 = .ok (.goto 4, 3) := by decide +kernel
theorem dX5_tells_73 : decode cX5_tells 73 = .ok (.iload_n 3, 1) := by decide +kernel
theorem dX5_tells_74 : decode cX5_tells 74 = .ok (.ireturn, 1) := by decide +kernel
theorem dX5_mostAlike_0 : decode cX5_mostAlike 0 = .ok (.iconst 0, 1) := by decide +kernel
theorem dX5_mostAlike_1 : decode cX5_mostAlike 1 = .ok (.istore_n 2, 1) := by decide +kernel
theorem dX5_mostAlike_2 : decode cX5_mostAlike 2 = .ok (.iload_n 2, 1) := by decide +kernel
theorem dX5_mostAlike_3 : decode cX5_mostAlike 3 = .ok (.aload_n 0, 1) := by decide +kernel
theorem dX5_mostAlike_4 : decode cX5_mostAlike 4 = .ok (.getfield 10, 3) := by decide +kernel
theorem dX5_mostAlike_7 : decode cX5_mostAlike 7 = .ok (.getfield 78, 3) := by decide +kernel
theorem dX5_mostAlike_10 : decode cX5_mostAlike 10 = .ok (.if_icmp .ge 31, 3) := by decide +kernel
theorem dX5_mostAlike_13 : decode cX5_mostAlike 13 = .ok (.aload_n 0, 1) := by decide +kernel
theorem dX5_mostAlike_14 : decode cX5_mostAlike 14 = .ok (.getfield 36, 3) := by decide +kernel
theorem dX5_mostAlike_17 : decode cX5_mostAlike 17 = .ok (.iload_n 2, 1) := by decide +kernel
theorem dX5_mostAlike_18 : decode cX5_mostAlike 18 = .ok (.aload_n 0, 1) := by decide +kernel
theorem dX5_mostAlike_19 : decode cX5_mostAlike 19 = .ok (.getfield 10, 3) := by decide +kernel
theorem dX5_mostAlike_22 : decode cX5_mostAlike 22 = .ok (.getfield 86, 3) := by decide +kernel
theorem dX5_mostAlike_25 : decode cX5_mostAlike 25 = .ok (.iload_n 2, 1) := by decide +kernel
theorem dX5_mostAlike_26 : decode cX5_mostAlike 26 = .ok (.aaload, 1) := by decide +kernel
theorem dX5_mostAlike_27 : decode cX5_mostAlike 27 = .ok (.getfield 102, 3) := by decide +kernel
theorem dX5_mostAlike_30 : decode cX5_mostAlike 30 = .ok (.iload_n 1, 1) := by decide +kernel
theorem dX5_mostAlike_31 : decode cX5_mostAlike 31 = .ok (.invokevirtual 141, 3) := by decide +kernel
theorem dX5_mostAlike_34 : decode cX5_mostAlike 34 = .ok (.iastore, 1) := by decide +kernel
theorem dX5_mostAlike_35 : decode cX5_mostAlike 35 = .ok (.iinc 2 1, 3) := by decide +kernel
theorem dX5_mostAlike_38 : decode cX5_mostAlike 38 = .ok (.goto (-36), 3) := by decide +kernel
theorem dX5_mostAlike_41 : decode cX5_mostAlike 41 = .ok (.iconst 0, 1) := by decide +kernel
theorem dX5_mostAlike_42 : decode cX5_mostAlike 42 = .ok (.istore_n 2, 1) := by decide +kernel
theorem dX5_mostAlike_43 : decode cX5_mostAlike 43 = .ok (.iconst 0, 1) := by decide +kernel
theorem dX5_mostAlike_44 : decode cX5_mostAlike 44 = .ok (.istore_n 3, 1) := by decide +kernel
theorem dX5_mostAlike_45 : decode cX5_mostAlike 45 = .ok (.iload_n 3, 1) := by decide +kernel
theorem dX5_mostAlike_46 : decode cX5_mostAlike 46 = .ok (.aload_n 0, 1) := by decide +kernel
theorem dX5_mostAlike_47 : decode cX5_mostAlike 47 = .ok (.getfield 10, 3) := by decide +kernel
theorem dX5_mostAlike_50 : decode cX5_mostAlike 50 = .ok (.getfield 78, 3) := by decide +kernel
theorem dX5_mostAlike_53 : decode cX5_mostAlike 53 = .ok (.if_icmp .ge 66, 3) := by decide +kernel
theorem dX5_mostAlike_56 : decode cX5_mostAlike 56 = .ok (.iconst 0, 1) := by decide +kernel
theorem dX5_mostAlike_57 : decode cX5_mostAlike 57 = .ok (.istore 4, 2) := by decide +kernel
theorem dX5_mostAlike_59 : decode cX5_mostAlike 59 = .ok (.iconst 0, 1) := by decide +kernel
theorem dX5_mostAlike_60 : decode cX5_mostAlike 60 = .ok (.istore 5, 2) := by decide +kernel
theorem dX5_mostAlike_62 : decode cX5_mostAlike 62 = .ok (.iload 5, 2) := by decide +kernel
theorem dX5_mostAlike_64 : decode cX5_mostAlike 64 = .ok (.aload_n 0, 1) := by decide +kernel
theorem dX5_mostAlike_65 : decode cX5_mostAlike 65 = .ok (.getfield 10, 3) := by decide +kernel
theorem dX5_mostAlike_68 : decode cX5_mostAlike 68 = .ok (.getfield 78, 3) := by decide +kernel
theorem dX5_mostAlike_71 : decode cX5_mostAlike 71 = .ok (.if_icmp .ge 35, 3) := by decide +kernel
theorem dX5_mostAlike_74 : decode cX5_mostAlike 74 = .ok (.iload 4, 2) := by decide +kernel
theorem dX5_mostAlike_76 : decode cX5_mostAlike 76 = .ok (.aload_n 0, 1) := by decide +kernel
theorem dX5_mostAlike_77 : decode cX5_mostAlike 77 = .ok (.getfield 36, 3) := by decide +kernel
theorem dX5_mostAlike_80 : decode cX5_mostAlike 80 = .ok (.iload 5, 2) := by decide +kernel
theorem dX5_mostAlike_82 : decode cX5_mostAlike 82 = .ok (.iaload, 1) := by decide +kernel
theorem dX5_mostAlike_83 : decode cX5_mostAlike 83 = .ok (.aload_n 0, 1) := by decide +kernel
theorem dX5_mostAlike_84 : decode cX5_mostAlike 84 = .ok (.getfield 36, 3) := by decide +kernel
theorem dX5_mostAlike_87 : decode cX5_mostAlike 87 = .ok (.iload_n 3, 1) := by decide +kernel
theorem dX5_mostAlike_88 : decode cX5_mostAlike 88 = .ok (.iaload, 1) := by decide +kernel
theorem dX5_mostAlike_89 : decode cX5_mostAlike 89 = .ok (.if_icmp .ne 7, 3) := by decide +kernel
theorem dX5_mostAlike_92 : decode cX5_mostAlike 92 = .ok (.iconst 1, 1) := by decide +kernel
theorem dX5_mostAlike_93 : decode cX5_mostAlike 93 = .ok (.goto 4, 3) := by decide +kernel
theorem dX5_mostAlike_96 : decode cX5_mostAlike 96 = .ok (.iconst 0, 1) := by decide +kernel
theorem dX5_mostAlike_97 : decode cX5_mostAlike 97 = .ok (.iadd, 1) := by decide +kernel
theorem dX5_mostAlike_98 : decode cX5_mostAlike 98 = .ok (.istore 4, 2) := by decide +kernel
theorem dX5_mostAlike_100 : decode cX5_mostAlike 100 = .ok (.iinc 5 1, 3) := by decide +kernel
theorem dX5_mostAlike_103 : decode cX5_mostAlike 103 = .ok (.goto (-41), 3) := by decide +kernel
theorem dX5_mostAlike_106 : decode cX5_mostAlike 106 = .ok (.iload_n 2, 1) := by decide +kernel
theorem dX5_mostAlike_107 : decode cX5_mostAlike 107 = .ok (.iload 4, 2) := by decide +kernel
theorem dX5_mostAlike_109 : decode cX5_mostAlike 109 = .ok (.invokestatic 232, 3) := by decide +kernel
theorem dX5_mostAlike_112 : decode cX5_mostAlike 112 = .ok (.istore_n 2, 1) := by decide +kernel
theorem dX5_mostAlike_113 : decode cX5_mostAlike 113 = .ok (.iinc 3 1, 3) := by decide +kernel
theorem dX5_mostAlike_116 : decode cX5_mostAlike 116 = .ok (.goto (-71), 3) := by decide +kernel
theorem dX5_mostAlike_119 : decode cX5_mostAlike 119 = .ok (.iload_n 2, 1) := by decide +kernel
theorem dX5_mostAlike_120 : decode cX5_mostAlike 120 = .ok (.ireturn, 1) := by decide +kernel
theorem dX5_lent_0 : decode cX5_lent 0 = .ok (.aload_n 0, 1) := by decide +kernel
theorem dX5_lent_1 : decode cX5_lent 1 = .ok (.getfield 10, 3) := by decide +kernel
theorem dX5_lent_4 : decode cX5_lent 4 = .ok (.iload_n 2, 1) := by decide +kernel
theorem dX5_lent_5 : decode cX5_lent 5 = .ok (.invokevirtual 79, 3) := by decide +kernel
theorem dX5_lent_8 : decode cX5_lent 8 = .ok (.ifCond .ne 6, 3) := by decide +kernel
theorem dX5_lent_11 : decode cX5_lent 11 = .ok (.ldc 237, 2) := by decide +kernel
theorem dX5_lent_13 : decode cX5_lent 13 = .ok (.ireturn, 1) := by decide +kernel
theorem dX5_lent_14 : decode cX5_lent 14 = .ok (.aload_n 0, 1) := by decide +kernel
theorem dX5_lent_15 : decode cX5_lent 15 = .ok (.iload_n 1, 1) := by decide +kernel
theorem dX5_lent_16 : decode cX5_lent 16 = .ok (.invokevirtual 83, 3) := by decide +kernel
theorem dX5_lent_19 : decode cX5_lent 19 = .ok (.istore_n 3, 1) := by decide +kernel
theorem dX5_lent_20 : decode cX5_lent 20 = .ok (.iload_n 3, 1) := by decide +kernel
theorem dX5_lent_21 : decode cX5_lent 21 = .ok (.ifCond .eq 8, 3) := by decide +kernel
theorem dX5_lent_24 : decode cX5_lent 24 = .ok (.ldc 238, 2) := by decide +kernel
theorem dX5_lent_26 : decode cX5_lent 26 = .ok (.iload_n 3, 1) := by decide +kernel
theorem dX5_lent_27 : decode cX5_lent 27 = .ok (.iadd, 1) := by decide +kernel
theorem dX5_lent_28 : decode cX5_lent 28 = .ok (.ireturn, 1) := by decide +kernel
theorem dX5_lent_29 : decode cX5_lent 29 = .ok (.aload_n 0, 1) := by decide +kernel
theorem dX5_lent_30 : decode cX5_lent 30 = .ok (.getfield 42, 3) := by decide +kernel
theorem dX5_lent_33 : decode cX5_lent 33 = .ok (.iload_n 1, 1) := by decide +kernel
theorem dX5_lent_34 : decode cX5_lent 34 = .ok (.aaload, 1) := by decide +kernel
theorem dX5_lent_35 : decode cX5_lent 35 = .ok (.getfield 90, 3) := by decide +kernel
theorem dX5_lent_38 : decode cX5_lent 38 = .ok (.istore 4, 2) := by decide +kernel
theorem dX5_lent_40 : decode cX5_lent 40 = .ok (.aload_n 0, 1) := by decide +kernel
theorem dX5_lent_41 : decode cX5_lent 41 = .ok (.getfield 42, 3) := by decide +kernel
theorem dX5_lent_44 : decode cX5_lent 44 = .ok (.iload_n 1, 1) := by decide +kernel
theorem dX5_lent_45 : decode cX5_lent 45 = .ok (.aaload, 1) := by decide +kernel
theorem dX5_lent_46 : decode cX5_lent 46 = .ok (.getfield 93, 3) := by decide +kernel
theorem dX5_lent_49 : decode cX5_lent 49 = .ok (.istore 5, 2) := by decide +kernel
theorem dX5_lent_51 : decode cX5_lent 51 = .ok (.iload 5, 2) := by decide +kernel
theorem dX5_lent_53 : decode cX5_lent 53 = .ok (.iconst 4, 1) := by decide +kernel
theorem dX5_lent_54 : decode cX5_lent 54 = .ok (.irem, 1) := by decide +kernel
theorem dX5_lent_55 : decode cX5_lent 55 = .ok (.istore 6, 2) := by decide +kernel
theorem dX5_lent_57 : decode cX5_lent 57 = .ok (.aload_n 0, 1) := by decide +kernel
theorem dX5_lent_58 : decode cX5_lent 58 = .ok (.getfield 32, 3) := by decide +kernel
theorem dX5_lent_61 : decode cX5_lent 61 = .ok (.aload_n 0, 1) := by decide +kernel
theorem dX5_lent_62 : decode cX5_lent 62 = .ok (.getfield 10, 3) := by decide +kernel
theorem dX5_lent_65 : decode cX5_lent 65 = .ok (.getfield 86, 3) := by decide +kernel
theorem dX5_lent_68 : decode cX5_lent 68 = .ok (.iload_n 2, 1) := by decide +kernel
theorem dX5_lent_69 : decode cX5_lent 69 = .ok (.aaload, 1) := by decide +kernel
theorem dX5_lent_70 : decode cX5_lent 70 = .ok (.getfield 102, 3) := by decide +kernel
theorem dX5_lent_73 : decode cX5_lent 73 = .ok (.invokevirtual 212, 3) := by decide +kernel
theorem dX5_lent_76 : decode cX5_lent 76 = .ok (.aload_n 0, 1) := by decide +kernel
theorem dX5_lent_77 : decode cX5_lent 77 = .ok (.getfield 32, 3) := by decide +kernel
theorem dX5_lent_80 : decode cX5_lent 80 = .ok (.iload 4, 2) := by decide +kernel
theorem dX5_lent_82 : decode cX5_lent 82 = .ok (.iload 5, 2) := by decide +kernel
theorem dX5_lent_84 : decode cX5_lent 84 = .ok (.invokevirtual 239, 3) := by decide +kernel
theorem dX5_lent_87 : decode cX5_lent 87 = .ok (.aload_n 0, 1) := by decide +kernel
theorem dX5_lent_88 : decode cX5_lent 88 = .ok (.getfield 32, 3) := by decide +kernel
theorem dX5_lent_91 : decode cX5_lent 91 = .ok (.iload 6, 2) := by decide +kernel
theorem dX5_lent_93 : decode cX5_lent 93 = .ok (.invokevirtual 141, 3) := by decide +kernel
theorem dX5_lent_96 : decode cX5_lent 96 = .ok (.istore 7, 2) := by decide +kernel
theorem dX5_lent_98 : decode cX5_lent 98 = .ok (.aload_n 0, 1) := by decide +kernel
theorem dX5_lent_99 : decode cX5_lent 99 = .ok (.getfield 32, 3) := by decide +kernel
theorem dX5_lent_102 : decode cX5_lent 102 = .ok (.invokevirtual 219, 3) := by decide +kernel
theorem dX5_lent_105 : decode cX5_lent 105 = .ok (.aload_n 0, 1) := by decide +kernel
theorem dX5_lent_106 : decode cX5_lent 106 = .ok (.getfield 32, 3) := by decide +kernel
theorem dX5_lent_109 : decode cX5_lent 109 = .ok (.iload 4, 2) := by decide +kernel
theorem dX5_lent_111 : decode cX5_lent 111 = .ok (.iload 5, 2) := by decide +kernel
theorem dX5_lent_113 : decode cX5_lent 113 = .ok (.invokevirtual 239, 3) := by decide +kernel
theorem dX5_lent_116 : decode cX5_lent 116 = .ok (.iload 7, 2) := by decide +kernel
theorem dX5_lent_118 : decode cX5_lent 118 = .ok (.aload_n 0, 1) := by decide +kernel
theorem dX5_lent_119 : decode cX5_lent 119 = .ok (.getfield 32, 3) := by decide +kernel
theorem dX5_lent_122 : decode cX5_lent 122 = .ok (.iload 6, 2) := by decide +kernel
theorem dX5_lent_124 : decode cX5_lent 124 = .ok (.invokevirtual 141, 3) := by decide +kernel
theorem dX5_lent_127 : decode cX5_lent 127 = .ok (.isub, 1) := by decide +kernel
theorem dX5_lent_128 : decode cX5_lent 128 = .ok (.ireturn, 1) := by decide +kernel
theorem dX5_gone_0 : decode cX5_gone 0 = .ok (.iload_n 1, 1) := by decide +kernel
theorem dX5_gone_1 : decode cX5_gone 1 = .ok (.invokestatic 243, 3) := by decide +kernel
theorem dX5_gone_4 : decode cX5_gone 4 = .ok (.ifCond .ne 17, 3) := by decide +kernel
theorem dX5_gone_7 : decode cX5_gone 7 = .ok (.iload_n 2, 1) := by decide +kernel
theorem dX5_gone_8 : decode cX5_gone 8 = .ok (.invokestatic 199, 3) := by decide +kernel
theorem dX5_gone_11 : decode cX5_gone 11 = .ok (.ifCond .ne 10, 3) := by decide +kernel
theorem dX5_gone_14 : decode cX5_gone 14 = .ok (.iload_n 3, 1) := by decide +kernel
theorem dX5_gone_15 : decode cX5_gone 15 = .ok (.invokestatic 157, 3) := by decide +kernel
theorem dX5_gone_18 : decode cX5_gone 18 = .ok (.ifCond .eq 5, 3) := by decide +kernel
theorem dX5_gone_21 : decode cX5_gone 21 = .ok (.iconst (-1), 1) := by decide +kernel
theorem dX5_gone_22 : decode cX5_gone 22 = .ok (.ireturn, 1) := by decide +kernel
theorem dX5_gone_23 : decode cX5_gone 23 = .ok (.lconst 1, 1) := by decide +kernel
theorem dX5_gone_24 : decode cX5_gone 24 = .ok (.lstore 4, 2) := by decide +kernel
theorem dX5_gone_26 : decode cX5_gone 26 = .ok (.lconst 1, 1) := by decide +kernel
theorem dX5_gone_27 : decode cX5_gone 27 = .ok (.lstore 6, 2) := by decide +kernel
theorem dX5_gone_29 : decode cX5_gone 29 = .ok (.iconst 0, 1) := by decide +kernel
theorem dX5_gone_30 : decode cX5_gone 30 = .ok (.istore 8, 2) := by decide +kernel
theorem dX5_gone_32 : decode cX5_gone 32 = .ok (.iload 8, 2) := by decide +kernel
theorem dX5_gone_34 : decode cX5_gone 34 = .ok (.bipush 12, 2) := by decide +kernel
theorem dX5_gone_36 : decode cX5_gone 36 = .ok (.if_icmp .ge 42, 3) := by decide +kernel
theorem dX5_gone_39 : decode cX5_gone 39 = .ok (.ldc2_w 160, 3) := by decide +kernel
theorem dX5_gone_42 : decode cX5_gone 42 = .ok (.lload 4, 2) := by decide +kernel
theorem dX5_gone_44 : decode cX5_gone 44 = .ok (.lmul, 1) := by decide +kernel
theorem dX5_gone_45 : decode cX5_gone 45 = .ok (.iload_n 3, 1) := by decide +kernel
theorem dX5_gone_46 : decode cX5_gone 46 = .ok (.i2l, 1) := by decide +kernel
theorem dX5_gone_47 : decode cX5_gone 47 = .ok (.lload 6, 2) := by decide +kernel
theorem dX5_gone_49 : decode cX5_gone 49 = .ok (.lmul, 1) := by decide +kernel
theorem dX5_gone_50 : decode cX5_gone 50 = .ok (.lcmp, 1) := by decide +kernel
theorem dX5_gone_51 : decode cX5_gone 51 = .ok (.ifCond .lt 27, 3) := by decide +kernel
theorem dX5_gone_54 : decode cX5_gone 54 = .ok (.lload 4, 2) := by decide +kernel
theorem dX5_gone_56 : decode cX5_gone 56 = .ok (.iload_n 1, 1) := by decide +kernel
theorem dX5_gone_57 : decode cX5_gone 57 = .ok (.invokestatic 246, 3) := by decide +kernel
theorem dX5_gone_60 : decode cX5_gone 60 = .ok (.i2l, 1) := by decide +kernel
theorem dX5_gone_61 : decode cX5_gone 61 = .ok (.lmul, 1) := by decide +kernel
theorem dX5_gone_62 : decode cX5_gone 62 = .ok (.lstore 4, 2) := by decide +kernel
theorem dX5_gone_64 : decode cX5_gone 64 = .ok (.lload 6, 2) := by decide +kernel
theorem dX5_gone_66 : decode cX5_gone 66 = .ok (.ldc2_w 249, 3) := by decide +kernel
theorem dX5_gone_69 : decode cX5_gone 69 = .ok (.lmul, 1) := by decide +kernel
theorem dX5_gone_70 : decode cX5_gone 70 = .ok (.lstore 6, 2) := by decide +kernel
theorem dX5_gone_72 : decode cX5_gone 72 = .ok (.iinc 8 1, 3) := by decide +kernel
theorem dX5_gone_75 : decode cX5_gone 75 = .ok (.goto (-43), 3) := by decide +kernel
theorem dX5_gone_78 : decode cX5_gone 78 = .ok (.iload 8, 2) := by decide +kernel
theorem dX5_gone_80 : decode cX5_gone 80 = .ok (.ireturn, 1) := by decide +kernel
theorem dX5_seeded_0 : decode cX5_seeded 0 = .ok (.iload_n 1, 1) := by decide +kernel
theorem dX5_seeded_1 : decode cX5_seeded 1 = .ok (.iconst 1, 1) := by decide +kernel
theorem dX5_seeded_2 : decode cX5_seeded 2 = .ok (.if_icmp .lt 16, 3) := by decide +kernel
theorem dX5_seeded_5 : decode cX5_seeded 5 = .ok (.iload_n 1, 1) := by decide +kernel
theorem dX5_seeded_6 : decode cX5_seeded 6 = .ok (.bipush 12, 2) := by decide +kernel
theorem dX5_seeded_8 : decode cX5_seeded 8 = .ok (.if_icmp .gt 10, 3) := by decide +kernel
theorem dX5_seeded_11 : decode cX5_seeded 11 = .ok (.iload_n 3, 1) := by decide +kernel
theorem dX5_seeded_12 : decode cX5_seeded 12 = .ok (.invokestatic 120, 3) := by decide +kernel
theorem dX5_seeded_15 : decode cX5_seeded 15 = .ok (.ifCond .eq 5, 3) := by decide +kernel
theorem dX5_seeded_18 : decode cX5_seeded 18 = .ok (.iconst (-1), 1) := by decide +kernel
theorem dX5_seeded_19 : decode cX5_seeded 19 = .ok (.ireturn, 1) := by decide +kernel
theorem dX5_seeded_20 : decode cX5_seeded 20 = .ok (.aload_n 0, 1) := by decide +kernel
theorem dX5_seeded_21 : decode cX5_seeded 21 = .ok (.getfield 32, 3) := by decide +kernel
theorem dX5_seeded_24 : decode cX5_seeded 24 = .ok (.invokevirtual 219, 3) := by decide +kernel
theorem dX5_seeded_27 : decode cX5_seeded 27 = .ok (.iload_n 2, 1) := by decide +kernel
theorem dX5_seeded_28 : decode cX5_seeded 28 = .ok (.istore 4, 2) := by decide +kernel
theorem dX5_seeded_30 : decode cX5_seeded 30 = .ok (.iconst 0, 1) := by decide +kernel
theorem dX5_seeded_31 : decode cX5_seeded 31 = .ok (.istore 5, 2) := by decide +kernel
theorem dX5_seeded_33 : decode cX5_seeded 33 = .ok (.iload 5, 2) := by decide +kernel
theorem dX5_seeded_35 : decode cX5_seeded 35 = .ok (.iload_n 1, 1) := by decide +kernel
theorem dX5_seeded_36 : decode cX5_seeded 36 = .ok (.if_icmp .ge 50, 3) := by decide +kernel
theorem dX5_seeded_39 : decode cX5_seeded 39 = .ok (.iload 4, 2) := by decide +kernel
theorem dX5_seeded_41 : decode cX5_seeded 41 = .ok (.invokestatic 251, 3) := by decide +kernel
theorem dX5_seeded_44 : decode cX5_seeded 44 = .ok (.istore 4, 2) := by decide +kernel
theorem dX5_seeded_46 : decode cX5_seeded 46 = .ok (.iload 4, 2) := by decide +kernel
theorem dX5_seeded_48 : decode cX5_seeded 48 = .ok (.invokestatic 254, 3) := by decide +kernel
theorem dX5_seeded_51 : decode cX5_seeded 51 = .ok (.bipush 8, 2) := by decide +kernel
theorem dX5_seeded_53 : decode cX5_seeded 53 = .ok (.irem, 1) := by decide +kernel
theorem dX5_seeded_54 : decode cX5_seeded 54 = .ok (.istore 6, 2) := by decide +kernel
theorem dX5_seeded_56 : decode cX5_seeded 56 = .ok (.iload 4, 2) := by decide +kernel
theorem dX5_seeded_58 : decode cX5_seeded 58 = .ok (.invokestatic 251, 3) := by decide +kernel
theorem dX5_seeded_61 : decode cX5_seeded 61 = .ok (.istore 4, 2) := by decide +kernel
theorem dX5_seeded_63 : decode cX5_seeded 63 = .ok (.aload_n 0, 1) := by decide +kernel
theorem dX5_seeded_64 : decode cX5_seeded 64 = .ok (.getfield 32, 3) := by decide +kernel
theorem dX5_seeded_67 : decode cX5_seeded 67 = .ok (.iload 6, 2) := by decide +kernel
theorem dX5_seeded_69 : decode cX5_seeded 69 = .ok (.iload 4, 2) := by decide +kernel
theorem dX5_seeded_71 : decode cX5_seeded 71 = .ok (.invokestatic 254, 3) := by decide +kernel
theorem dX5_seeded_74 : decode cX5_seeded 74 = .ok (.bipush 10, 2) := by decide +kernel
theorem dX5_seeded_76 : decode cX5_seeded 76 = .ok (.irem, 1) := by decide +kernel
theorem dX5_seeded_77 : decode cX5_seeded 77 = .ok (.invokevirtual 239, 3) := by decide +kernel
theorem dX5_seeded_80 : decode cX5_seeded 80 = .ok (.iinc 5 1, 3) := by decide +kernel
theorem dX5_seeded_83 : decode cX5_seeded 83 = .ok (.goto (-50), 3) := by decide +kernel
theorem dX5_seeded_86 : decode cX5_seeded 86 = .ok (.aload_n 0, 1) := by decide +kernel
theorem dX5_seeded_87 : decode cX5_seeded 87 = .ok (.getfield 32, 3) := by decide +kernel
theorem dX5_seeded_90 : decode cX5_seeded 90 = .ok (.iload_n 3, 1) := by decide +kernel
theorem dX5_seeded_91 : decode cX5_seeded 91 = .ok (.invokevirtual 141, 3) := by decide +kernel
theorem dX5_seeded_94 : decode cX5_seeded 94 = .ok (.ireturn, 1) := by decide +kernel
theorem dX5_judge_0 : decode cX5_judge 0 = .ok (.aload_n 0, 1) := by decide +kernel
theorem dX5_judge_1 : decode cX5_judge 1 = .ok (.iload_n 1, 1) := by decide +kernel
theorem dX5_judge_2 : decode cX5_judge 2 = .ok (.invokevirtual 257, 3) := by decide +kernel
theorem dX5_judge_5 : decode cX5_judge 5 = .ok (.istore_n 2, 1) := by decide +kernel
theorem dX5_judge_6 : decode cX5_judge 6 = .ok (.iload_n 2, 1) := by decide +kernel
theorem dX5_judge_7 : decode cX5_judge 7 = .ok (.ifCond .eq 5, 3) := by decide +kernel
theorem dX5_judge_10 : decode cX5_judge 10 = .ok (.iload_n 2, 1) := by decide +kernel
theorem dX5_judge_11 : decode cX5_judge 11 = .ok (.ireturn, 1) := by decide +kernel
theorem dX5_judge_12 : decode cX5_judge 12 = .ok (.aload_n 0, 1) := by decide +kernel
theorem dX5_judge_13 : decode cX5_judge 13 = .ok (.getfield 42, 3) := by decide +kernel
theorem dX5_judge_16 : decode cX5_judge 16 = .ok (.iload_n 1, 1) := by decide +kernel
theorem dX5_judge_17 : decode cX5_judge 17 = .ok (.aaload, 1) := by decide +kernel
theorem dX5_judge_18 : decode cX5_judge 18 = .ok (.astore_n 3, 1) := by decide +kernel
theorem dX5_judge_19 : decode cX5_judge 19 = .ok (.iconst 4, 1) := by decide +kernel
theorem dX5_judge_20 : decode cX5_judge 20 = .ok (.aload_n 0, 1) := by decide +kernel
theorem dX5_judge_21 : decode cX5_judge 21 = .ok (.getfield 10, 3) := by decide +kernel
theorem dX5_judge_24 : decode cX5_judge 24 = .ok (.getfield 78, 3) := by decide +kernel
theorem dX5_judge_27 : decode cX5_judge 27 = .ok (.imul, 1) := by decide +kernel
theorem dX5_judge_28 : decode cX5_judge 28 = .ok (.istore 4, 2) := by decide +kernel
theorem dX5_judge_30 : decode cX5_judge 30 = .ok (.iload 4, 2) := by decide +kernel
theorem dX5_judge_32 : decode cX5_judge 32 = .ok (.aload_n 3, 1) := by decide +kernel
theorem dX5_judge_33 : decode cX5_judge 33 = .ok (.getfield 59, 3) := by decide +kernel
theorem dX5_judge_36 : decode cX5_judge 36 = .ok (.invokestatic 260, 3) := by decide +kernel
theorem dX5_judge_39 : decode cX5_judge 39 = .ok (.istore 5, 2) := by decide +kernel
theorem dX5_judge_41 : decode cX5_judge 41 = .ok (.aload_n 3, 1) := by decide +kernel
theorem dX5_judge_42 : decode cX5_judge 42 = .ok (.invokevirtual 263, 3) := by decide +kernel
theorem dX5_judge_45 : decode cX5_judge 45 = .ok (.istore 6, 2) := by decide +kernel
theorem dX5_judge_47 : decode cX5_judge 47 = .ok (.iconst 0, 1) := by decide +kernel
theorem dX5_judge_48 : decode cX5_judge 48 = .ok (.istore 7, 2) := by decide +kernel
theorem dX5_judge_50 : decode cX5_judge 50 = .ok (.iload 7, 2) := by decide +kernel
theorem dX5_judge_52 : decode cX5_judge 52 = .ok (.iload 5, 2) := by decide +kernel
theorem dX5_judge_54 : decode cX5_judge 54 = .ok (.if_icmp .ge 55, 3) := by decide +kernel
theorem dX5_judge_57 : decode cX5_judge 57 = .ok (.aload_n 3, 1) := by decide +kernel
theorem dX5_judge_58 : decode cX5_judge 58 = .ok (.getfield 266, 3) := by decide +kernel
theorem dX5_judge_61 : decode cX5_judge 61 = .ok (.iload 7, 2) := by decide +kernel
theorem dX5_judge_63 : decode cX5_judge 63 = .ok (.iaload, 1) := by decide +kernel
theorem dX5_judge_64 : decode cX5_judge 64 = .ok (.istore 8, 2) := by decide +kernel
theorem dX5_judge_66 : decode cX5_judge 66 = .ok (.iload 8, 2) := by decide +kernel
theorem dX5_judge_68 : decode cX5_judge 68 = .ok (.iload 6, 2) := by decide +kernel
theorem dX5_judge_70 : decode cX5_judge 70 = .ok (.if_icmp .eq 33, 3) := by decide +kernel
theorem dX5_judge_73 : decode cX5_judge 73 = .ok (.iload 8, 2) := by decide +kernel
theorem dX5_judge_75 : decode cX5_judge 75 = .ok (.aload_n 0, 1) := by decide +kernel
theorem dX5_judge_76 : decode cX5_judge 76 = .ok (.getfield 10, 3) := by decide +kernel
theorem dX5_judge_79 : decode cX5_judge 79 = .ok (.getfield 86, 3) := by decide +kernel
theorem dX5_judge_82 : decode cX5_judge 82 = .ok (.iload 7, 2) := by decide +kernel
theorem dX5_judge_84 : decode cX5_judge 84 = .ok (.iconst 4, 1) := by decide +kernel
theorem dX5_judge_85 : decode cX5_judge 85 = .ok (.idiv, 1) := by decide +kernel
theorem dX5_judge_86 : decode cX5_judge 86 = .ok (.aaload, 1) := by decide +kernel
theorem dX5_judge_87 : decode cX5_judge 87 = .ok (.getfield 102, 3) := by decide +kernel
theorem dX5_judge_90 : decode cX5_judge 90 = .ok (.iload 7, 2) := by decide +kernel
theorem dX5_judge_92 : decode cX5_judge 92 = .ok (.iconst 4, 1) := by decide +kernel
theorem dX5_judge_93 : decode cX5_judge 93 = .ok (.irem, 1) := by decide +kernel
theorem dX5_judge_94 : decode cX5_judge 94 = .ok (.invokevirtual 141, 3) := by decide +kernel
theorem dX5_judge_97 : decode cX5_judge 97 = .ok (.if_icmp .eq 6, 3) := by decide +kernel
theorem dX5_judge_100 : decode cX5_judge 100 = .ok (.iload 7, 2) := by decide +kernel
theorem dX5_judge_102 : decode cX5_judge 102 = .ok (.ireturn, 1) := by decide +kernel
theorem dX5_judge_103 : decode cX5_judge 103 = .ok (.iinc 7 1, 3) := by decide +kernel
theorem dX5_judge_106 : decode cX5_judge 106 = .ok (.goto (-56), 3) := by decide +kernel
theorem dX5_judge_109 : decode cX5_judge 109 = .ok (.aload_n 3, 1) := by decide +kernel
theorem dX5_judge_110 : decode cX5_judge 110 = .ok (.getfield 59, 3) := by decide +kernel
theorem dX5_judge_113 : decode cX5_judge 113 = .ok (.iload 4, 2) := by decide +kernel
theorem dX5_judge_115 : decode cX5_judge 115 = .ok (.if_icmp .ne 8, 3) := by decide +kernel
theorem dX5_judge_118 : decode cX5_judge 118 = .ok (.bipush (-4), 2) := by decide +kernel
theorem dX5_judge_120 : decode cX5_judge 120 = .ok (.goto 5, 3) := by decide +kernel
theorem dX5_judge_123 : decode cX5_judge 123 = .ok (.iload 5, 2) := by decide +kernel
theorem dX5_judge_125 : decode cX5_judge 125 = .ok (.ireturn, 1) := by decide +kernel
theorem dX5_image_0 : decode cX5_image 0 = .ok (.aload_n 0, 1) := by decide +kernel
theorem dX5_image_1 : decode cX5_image 1 = .ok (.getfield 19, 3) := by decide +kernel
theorem dX5_image_4 : decode cX5_image 4 = .ok (.aload_n 0, 1) := by decide +kernel
theorem dX5_image_5 : decode cX5_image 5 = .ok (.getfield 10, 3) := by decide +kernel
theorem dX5_image_8 : decode cX5_image 8 = .ok (.invokevirtual 55, 3) := by decide +kernel
theorem dX5_image_11 : decode cX5_image 11 = .ok (.aload_n 0, 1) := by decide +kernel
theorem dX5_image_12 : decode cX5_image 12 = .ok (.iconst 1, 1) := by decide +kernel
theorem dX5_image_13 : decode cX5_image 13 = .ok (.putfield 269, 3) := by decide +kernel
theorem dX5_image_16 : decode cX5_image 16 = .ok (.aload_n 0, 1) := by decide +kernel
theorem dX5_image_17 : decode cX5_image 17 = .ok (.getfield 10, 3) := by decide +kernel
theorem dX5_image_20 : decode cX5_image 20 = .ok (.getfield 78, 3) := by decide +kernel
theorem dX5_image_23 : decode cX5_image 23 = .ok (.ireturn, 1) := by decide +kernel
theorem dX5_restore_0 : decode cX5_restore 0 = .ok (.aload_n 0, 1) := by decide +kernel
theorem dX5_restore_1 : decode cX5_restore 1 = .ok (.getfield 269, 3) := by decide +kernel
theorem dX5_restore_4 : decode cX5_restore 4 = .ok (.ifCond .ne 6, 3) := by decide +kernel
theorem dX5_restore_7 : decode cX5_restore 7 = .ok (.bipush (-3), 2) := by decide +kernel
theorem dX5_restore_9 : decode cX5_restore 9 = .ok (.ireturn, 1) := by decide +kernel
theorem dX5_restore_10 : decode cX5_restore 10 = .ok (.aload_n 0, 1) := by decide +kernel
theorem dX5_restore_11 : decode cX5_restore 11 = .ok (.getfield 10, 3) := by decide +kernel
theorem dX5_restore_14 : decode cX5_restore 14 = .ok (.aload_n 0, 1) := by decide +kernel
theorem dX5_restore_15 : decode cX5_restore 15 = .ok (.getfield 19, 3) := by decide +kernel
theorem dX5_restore_18 : decode cX5_restore 18 = .ok (.invokevirtual 55, 3) := by decide +kernel
theorem dX5_restore_21 : decode cX5_restore 21 = .ok (.aload_n 0, 1) := by decide +kernel
theorem dX5_restore_22 : decode cX5_restore 22 = .ok (.getfield 10, 3) := by decide +kernel
theorem dX5_restore_25 : decode cX5_restore 25 = .ok (.getfield 78, 3) := by decide +kernel
theorem dX5_restore_28 : decode cX5_restore 28 = .ok (.ireturn, 1) := by decide +kernel
theorem dX5_count_0 : decode cX5_count 0 = .ok (.iload_n 1, 1) := by decide +kernel
theorem dX5_count_1 : decode cX5_count 1 = .ok (.ifCond .lt 8, 3) := by decide +kernel
theorem dX5_count_4 : decode cX5_count 4 = .ok (.iload_n 1, 1) := by decide +kernel
theorem dX5_count_5 : decode cX5_count 5 = .ok (.iconst 3, 1) := by decide +kernel
theorem dX5_count_6 : decode cX5_count 6 = .ok (.if_icmp .le 5, 3) := by decide +kernel
theorem dX5_count_9 : decode cX5_count 9 = .ok (.iconst (-1), 1) := by decide +kernel
theorem dX5_count_10 : decode cX5_count 10 = .ok (.ireturn, 1) := by decide +kernel
theorem dX5_count_11 : decode cX5_count 11 = .ok (.iload_n 1, 1) := by decide +kernel
theorem dX5_count_12 : decode cX5_count 12 = .ok (.ifCond .ne 11, 3) := by decide +kernel
theorem dX5_count_15 : decode cX5_count 15 = .ok (.aload_n 0, 1) := by decide +kernel
theorem dX5_count_16 : decode cX5_count 16 = .ok (.getfield 10, 3) := by decide +kernel
theorem dX5_count_19 : decode cX5_count 19 = .ok (.getfield 78, 3) := by decide +kernel
theorem dX5_count_22 : decode cX5_count 22 = .ok (.ireturn, 1) := by decide +kernel
theorem dX5_count_23 : decode cX5_count 23 = .ok (.iconst 0, 1) := by decide +kernel
theorem dX5_count_24 : decode cX5_count 24 = .ok (.istore_n 2, 1) := by decide +kernel
theorem dX5_count_25 : decode cX5_count 25 = .ok (.iconst 0, 1) := by decide +kernel
theorem dX5_count_26 : decode cX5_count 26 = .ok (.istore_n 3, 1) := by decide +kernel
theorem dX5_count_27 : decode cX5_count 27 = .ok (.iload_n 3, 1) := by decide +kernel
theorem dX5_count_28 : decode cX5_count 28 = .ok (.aload_n 0, 1) := by decide +kernel
theorem dX5_count_29 : decode cX5_count 29 = .ok (.getfield 10, 3) := by decide +kernel
theorem dX5_count_32 : decode cX5_count 32 = .ok (.getfield 78, 3) := by decide +kernel
theorem dX5_count_35 : decode cX5_count 35 = .ok (.if_icmp .ge 77, 3) := by decide +kernel
theorem dX5_count_38 : decode cX5_count 38 = .ok (.aload_n 0, 1) := by decide +kernel
theorem dX5_count_39 : decode cX5_count 39 = .ok (.getfield 10, 3) := by decide +kernel
theorem dX5_count_42 : decode cX5_count 42 = .ok (.getfield 86, 3) := by decide +kernel
theorem dX5_count_45 : decode cX5_count 45 = .ok (.iload_n 3, 1) := by decide +kernel
theorem dX5_count_46 : decode cX5_count 46 = .ok (.aaload, 1) := by decide +kernel
theorem dX5_count_47 : decode cX5_count 47 = .ok (.astore 4, 2) := by decide +kernel
theorem dX5_count_49 : decode cX5_count 49 = .ok (.iload_n 1, 1) := by decide +kernel
theorem dX5_count_50 : decode cX5_count 50 = .ok (.iconst 1, 1) := by decide +kernel
theorem dX5_count_51 : decode cX5_count 51 = .ok (.if_icmp .ne 17, 3) := by decide +kernel
theorem dX5_count_54 : decode cX5_count 54 = .ok (.iload_n 2, 1) := by decide +kernel
theorem dX5_count_55 : decode cX5_count 55 = .ok (.aload 4, 2) := by decide +kernel
theorem dX5_count_57 : decode cX5_count 57 = .ok (.getfield 102, 3) := by decide +kernel
theorem dX5_count_60 : decode cX5_count 60 = .ok (.getfield 105, 3) := by decide +kernel
theorem dX5_count_63 : decode cX5_count 63 = .ok (.iadd, 1) := by decide +kernel
theorem dX5_count_64 : decode cX5_count 64 = .ok (.istore_n 2, 1) := by decide +kernel
theorem dX5_count_65 : decode cX5_count 65 = .ok (.goto 41, 3) := by decide +kernel
theorem dX5_count_68 : decode cX5_count 68 = .ok (.iload_n 1, 1) := by decide +kernel
theorem dX5_count_69 : decode cX5_count 69 = .ok (.iconst 2, 1) := by decide +kernel
theorem dX5_count_70 : decode cX5_count 70 = .ok (.if_icmp .ne 27, 3) := by decide +kernel
theorem dX5_count_73 : decode cX5_count 73 = .ok (.iload_n 2, 1) := by decide +kernel
theorem dX5_count_74 : decode cX5_count 74 = .ok (.aload 4, 2) := by decide +kernel
theorem dX5_count_76 : decode cX5_count 76 = .ok (.getfield 102, 3) := by decide +kernel
theorem dX5_count_79 : decode cX5_count 79 = .ok (.invokevirtual 137, 3) := by decide +kernel
theorem dX5_count_82 : decode cX5_count 82 = .ok (.lconst 0, 1) := by decide +kernel
theorem dX5_count_83 : decode cX5_count 83 = .ok (.lcmp, 1) := by decide +kernel
theorem dX5_count_84 : decode cX5_count 84 = .ok (.ifCond .ne 7, 3) := by decide +kernel
theorem dX5_count_87 : decode cX5_count 87 = .ok (.iconst 1, 1) := by decide +kernel
theorem dX5_count_88 : decode cX5_count 88 = .ok (.goto 4, 3) := by decide +kernel
theorem dX5_count_91 : decode cX5_count 91 = .ok (.iconst 0, 1) := by decide +kernel
theorem dX5_count_92 : decode cX5_count 92 = .ok (.iadd, 1) := by decide +kernel
theorem dX5_count_93 : decode cX5_count 93 = .ok (.istore_n 2, 1) := by decide +kernel
theorem dX5_count_94 : decode cX5_count 94 = .ok (.goto 12, 3) := by decide +kernel
theorem dX5_count_97 : decode cX5_count 97 = .ok (.iload_n 2, 1) := by decide +kernel
theorem dX5_count_98 : decode cX5_count 98 = .ok (.aload 4, 2) := by decide +kernel
theorem dX5_count_100 : decode cX5_count 100 = .ok (.iconst 4, 1) := by decide +kernel
theorem dX5_count_101 : decode cX5_count 101 = .ok (.invokevirtual 273, 3) := by decide +kernel
theorem dX5_count_104 : decode cX5_count 104 = .ok (.iadd, 1) := by decide +kernel
theorem dX5_count_105 : decode cX5_count 105 = .ok (.istore_n 2, 1) := by decide +kernel
theorem dX5_count_106 : decode cX5_count 106 = .ok (.iinc 3 1, 3) := by decide +kernel
theorem dX5_count_109 : decode cX5_count 109 = .ok (.goto (-82), 3) := by decide +kernel
theorem dX5_count_112 : decode cX5_count 112 = .ok (.iload_n 2, 1) := by decide +kernel
theorem dX5_count_113 : decode cX5_count 113 = .ok (.ireturn, 1) := by decide +kernel
theorem dX5_keep_0 : decode cX5_keep 0 = .ok (.iload_n 1, 1) := by decide +kernel
theorem dX5_keep_1 : decode cX5_keep 1 = .ok (.invokestatic 183, 3) := by decide +kernel
theorem dX5_keep_4 : decode cX5_keep 4 = .ok (.ifCond .ne 10, 3) := by decide +kernel
theorem dX5_keep_7 : decode cX5_keep 7 = .ok (.iload_n 2, 1) := by decide +kernel
theorem dX5_keep_8 : decode cX5_keep 8 = .ok (.invokestatic 108, 3) := by decide +kernel
theorem dX5_keep_11 : decode cX5_keep 11 = .ok (.ifCond .eq 5, 3) := by decide +kernel
theorem dX5_keep_14 : decode cX5_keep 14 = .ok (.iconst (-1), 1) := by decide +kernel
theorem dX5_keep_15 : decode cX5_keep 15 = .ok (.ireturn, 1) := by decide +kernel
theorem dX5_keep_16 : decode cX5_keep 16 = .ok (.iload_n 2, 1) := by decide +kernel
theorem dX5_keep_17 : decode cX5_keep 17 = .ok (.ifCond .ne 14, 3) := by decide +kernel
theorem dX5_keep_20 : decode cX5_keep 20 = .ok (.aload_n 0, 1) := by decide +kernel
theorem dX5_keep_21 : decode cX5_keep 21 = .ok (.getfield 42, 3) := by decide +kernel
theorem dX5_keep_24 : decode cX5_keep 24 = .ok (.iload_n 1, 1) := by decide +kernel
theorem dX5_keep_25 : decode cX5_keep 25 = .ok (.aaload, 1) := by decide +kernel
theorem dX5_keep_26 : decode cX5_keep 26 = .ok (.invokevirtual 276, 3) := by decide +kernel
theorem dX5_keep_29 : decode cX5_keep 29 = .ok (.iconst 0, 1) := by decide +kernel
theorem dX5_keep_30 : decode cX5_keep 30 = .ok (.ireturn, 1) := by decide +kernel
theorem dX5_keep_31 : decode cX5_keep 31 = .ok (.iload_n 3, 1) := by decide +kernel
theorem dX5_keep_32 : decode cX5_keep 32 = .ok (.invokestatic 243, 3) := by decide +kernel
theorem dX5_keep_35 : decode cX5_keep 35 = .ok (.ifCond .ne 11, 3) := by decide +kernel
theorem dX5_keep_38 : decode cX5_keep 38 = .ok (.iload 4, 2) := by decide +kernel
theorem dX5_keep_40 : decode cX5_keep 40 = .ok (.invokestatic 199, 3) := by decide +kernel
theorem dX5_keep_43 : decode cX5_keep 43 = .ok (.ifCond .eq 5, 3) := by decide +kernel
theorem dX5_keep_46 : decode cX5_keep 46 = .ok (.iconst (-1), 1) := by decide +kernel
theorem dX5_keep_47 : decode cX5_keep 47 = .ok (.ireturn, 1) := by decide +kernel
theorem dX5_keep_48 : decode cX5_keep 48 = .ok (.aload_n 0, 1) := by decide +kernel
theorem dX5_keep_49 : decode cX5_keep 49 = .ok (.getfield 42, 3) := by decide +kernel
theorem dX5_keep_52 : decode cX5_keep 52 = .ok (.iload_n 1, 1) := by decide +kernel
theorem dX5_keep_53 : decode cX5_keep 53 = .ok (.aaload, 1) := by decide +kernel
theorem dX5_keep_54 : decode cX5_keep 54 = .ok (.iload_n 3, 1) := by decide +kernel
theorem dX5_keep_55 : decode cX5_keep 55 = .ok (.iload 4, 2) := by decide +kernel
theorem dX5_keep_57 : decode cX5_keep 57 = .ok (.invokevirtual 279, 3) := by decide +kernel
theorem dX5_keep_60 : decode cX5_keep 60 = .ok (.iconst 0, 1) := by decide +kernel
theorem dX5_keep_61 : decode cX5_keep 61 = .ok (.ireturn, 1) := by decide +kernel
theorem dX5_row_0 : decode cX5_row 0 = .ok (.iload_n 1, 1) := by decide +kernel
theorem dX5_row_1 : decode cX5_row 1 = .ok (.invokestatic 183, 3) := by decide +kernel
theorem dX5_row_4 : decode cX5_row 4 = .ok (.ifCond .ne 18, 3) := by decide +kernel
theorem dX5_row_7 : decode cX5_row 7 = .ok (.iload_n 2, 1) := by decide +kernel
theorem dX5_row_8 : decode cX5_row 8 = .ok (.ifCond .lt 14, 3) := by decide +kernel
theorem dX5_row_11 : decode cX5_row 11 = .ok (.iload_n 2, 1) := by decide +kernel
theorem dX5_row_12 : decode cX5_row 12 = .ok (.iconst 2, 1) := by decide +kernel
theorem dX5_row_13 : decode cX5_row 13 = .ok (.if_icmp .gt 9, 3) := by decide +kernel
theorem dX5_row_16 : decode cX5_row 16 = .ok (.iload_n 3, 1) := by decide +kernel
theorem dX5_row_17 : decode cX5_row 17 = .ok (.bipush 100, 2) := by decide +kernel
theorem dX5_row_19 : decode cX5_row 19 = .ok (.if_icmp .le 5, 3) := by decide +kernel
theorem dX5_row_22 : decode cX5_row 22 = .ok (.iconst (-1), 1) := by decide +kernel
theorem dX5_row_23 : decode cX5_row 23 = .ok (.ireturn, 1) := by decide +kernel
theorem dX5_row_24 : decode cX5_row 24 = .ok (.iload_n 3, 1) := by decide +kernel
theorem dX5_row_25 : decode cX5_row 25 = .ok (.ifCond .ge 6, 3) := by decide +kernel
theorem dX5_row_28 : decode cX5_row 28 = .ok (.bipush (-14), 2) := by decide +kernel
theorem dX5_row_30 : decode cX5_row 30 = .ok (.ireturn, 1) := by decide +kernel
theorem dX5_row_31 : decode cX5_row 31 = .ok (.aload_n 0, 1) := by decide +kernel
theorem dX5_row_32 : decode cX5_row 32 = .ok (.getfield 42, 3) := by decide +kernel
theorem dX5_row_35 : decode cX5_row 35 = .ok (.iload_n 1, 1) := by decide +kernel
theorem dX5_row_36 : decode cX5_row 36 = .ok (.aaload, 1) := by decide +kernel
theorem dX5_row_37 : decode cX5_row 37 = .ok (.iload_n 2, 1) := by decide +kernel
theorem dX5_row_38 : decode cX5_row 38 = .ok (.iload_n 3, 1) := by decide +kernel
theorem dX5_row_39 : decode cX5_row 39 = .ok (.invokevirtual 282, 3) := by decide +kernel
theorem dX5_row_42 : decode cX5_row 42 = .ok (.iconst 0, 1) := by decide +kernel
theorem dX5_row_43 : decode cX5_row 43 = .ok (.ireturn, 1) := by decide +kernel
theorem dX5_put_0 : decode cX5_put 0 = .ok (.aload_n 0, 1) := by decide +kernel
theorem dX5_put_1 : decode cX5_put 1 = .ok (.iload_n 1, 1) := by decide +kernel
theorem dX5_put_2 : decode cX5_put 2 = .ok (.invokevirtual 257, 3) := by decide +kernel
theorem dX5_put_5 : decode cX5_put 5 = .ok (.istore 4, 2) := by decide +kernel
theorem dX5_put_7 : decode cX5_put 7 = .ok (.iload 4, 2) := by decide +kernel
theorem dX5_put_9 : decode cX5_put 9 = .ok (.ifCond .eq 6, 3) := by decide +kernel
theorem dX5_put_12 : decode cX5_put 12 = .ok (.iload 4, 2) := by decide +kernel
theorem dX5_put_14 : decode cX5_put 14 = .ok (.ireturn, 1) := by decide +kernel
theorem dX5_put_15 : decode cX5_put 15 = .ok (.aload_n 0, 1) := by decide +kernel
theorem dX5_put_16 : decode cX5_put 16 = .ok (.getfield 42, 3) := by decide +kernel
theorem dX5_put_19 : decode cX5_put 19 = .ok (.iload_n 1, 1) := by decide +kernel
theorem dX5_put_20 : decode cX5_put 20 = .ok (.aaload, 1) := by decide +kernel
theorem dX5_put_21 : decode cX5_put 21 = .ok (.iload_n 2, 1) := by decide +kernel
theorem dX5_put_22 : decode cX5_put 22 = .ok (.invokevirtual 285, 3) := by decide +kernel
theorem dX5_put_25 : decode cX5_put 25 = .ok (.ifCond .ne 6, 3) := by decide +kernel
theorem dX5_put_28 : decode cX5_put 28 = .ok (.bipush (-13), 2) := by decide +kernel
theorem dX5_put_30 : decode cX5_put 30 = .ok (.ireturn, 1) := by decide +kernel
theorem dX5_put_31 : decode cX5_put 31 = .ok (.aload_n 0, 1) := by decide +kernel
theorem dX5_put_32 : decode cX5_put 32 = .ok (.getfield 42, 3) := by decide +kernel
theorem dX5_put_35 : decode cX5_put 35 = .ok (.iload_n 1, 1) := by decide +kernel
theorem dX5_put_36 : decode cX5_put 36 = .ok (.aaload, 1) := by decide +kernel
theorem dX5_put_37 : decode cX5_put 37 = .ok (.getfield 266, 3) := by decide +kernel
theorem dX5_put_40 : decode cX5_put 40 = .ok (.iload_n 2, 1) := by decide +kernel
theorem dX5_put_41 : decode cX5_put 41 = .ok (.aload_n 0, 1) := by decide +kernel
theorem dX5_put_42 : decode cX5_put 42 = .ok (.getfield 42, 3) := by decide +kernel
theorem dX5_put_45 : decode cX5_put 45 = .ok (.iload_n 1, 1) := by decide +kernel
theorem dX5_put_46 : decode cX5_put 46 = .ok (.aaload, 1) := by decide +kernel
theorem dX5_put_47 : decode cX5_put 47 = .ok (.iload_n 3, 1) := by decide +kernel
theorem dX5_put_48 : decode cX5_put 48 = .ok (.invokevirtual 288, 3) := by decide +kernel
theorem dX5_put_51 : decode cX5_put 51 = .ok (.iastore, 1) := by decide +kernel
theorem dX5_put_52 : decode cX5_put 52 = .ok (.iconst 0, 1) := by decide +kernel
theorem dX5_put_53 : decode cX5_put 53 = .ok (.ireturn, 1) := by decide +kernel
theorem dX5_element_0 : decode cX5_element 0 = .ok (.iload_n 1, 1) := by decide +kernel
theorem dX5_element_1 : decode cX5_element 1 = .ok (.invokestatic 183, 3) := by decide +kernel
theorem dX5_element_4 : decode cX5_element 4 = .ok (.ifCond .eq 11, 3) := by decide +kernel
theorem dX5_element_7 : decode cX5_element 7 = .ok (.new 291, 3) := by decide +kernel
theorem dX5_element_10 : decode cX5_element 10 = .ok (.dup, 1) := by decide +kernel
theorem dX5_element_11 : decode cX5_element 11 = .ok (.invokespecial 293, 3) := by decide +kernel
theorem dX5_element_14 : decode cX5_element 14 = .ok (.athrow, 1) := by decide +kernel
theorem dX5_element_15 : decode cX5_element 15 = .ok (.aload_n 0, 1) := by decide +kernel
theorem dX5_element_16 : decode cX5_element 16 = .ok (.getfield 42, 3) := by decide +kernel
theorem dX5_element_19 : decode cX5_element 19 = .ok (.iload_n 1, 1) := by decide +kernel
theorem dX5_element_20 : decode cX5_element 20 = .ok (.aaload, 1) := by decide +kernel
theorem dX5_element_21 : decode cX5_element 21 = .ok (.invokevirtual 294, 3) := by decide +kernel
theorem dX5_element_24 : decode cX5_element 24 = .ok (.ifCond .eq 16, 3) := by decide +kernel
theorem dX5_element_27 : decode cX5_element 27 = .ok (.aload_n 0, 1) := by decide +kernel
theorem dX5_element_28 : decode cX5_element 28 = .ok (.getfield 42, 3) := by decide +kernel
theorem dX5_element_31 : decode cX5_element 31 = .ok (.iload_n 1, 1) := by decide +kernel
theorem dX5_element_32 : decode cX5_element 32 = .ok (.aaload, 1) := by decide +kernel
theorem dX5_element_33 : decode cX5_element 33 = .ok (.iload_n 2, 1) := by decide +kernel
theorem dX5_element_34 : decode cX5_element 34 = .ok (.invokevirtual 285, 3) := by decide +kernel
theorem dX5_element_37 : decode cX5_element 37 = .ok (.ifCond .ne 11, 3) := by decide +kernel
theorem dX5_element_40 : decode cX5_element 40 = .ok (.new 297, 3) := by decide +kernel
theorem dX5_element_43 : decode cX5_element 43 = .ok (.dup, 1) := by decide +kernel
theorem dX5_element_44 : decode cX5_element 44 = .ok (.invokespecial 299, 3) := by decide +kernel
theorem dX5_element_47 : decode cX5_element 47 = .ok (.athrow, 1) := by decide +kernel
theorem dX5_element_48 : decode cX5_element 48 = .ok (.aload_n 0, 1) := by decide +kernel
theorem dX5_element_49 : decode cX5_element 49 = .ok (.getfield 42, 3) := by decide +kernel
theorem dX5_element_52 : decode cX5_element 52 = .ok (.iload_n 1, 1) := by decide +kernel
theorem dX5_element_53 : decode cX5_element 53 = .ok (.aaload, 1) := by decide +kernel
theorem dX5_element_54 : decode cX5_element 54 = .ok (.getfield 266, 3) := by decide +kernel
theorem dX5_element_57 : decode cX5_element 57 = .ok (.iload_n 2, 1) := by decide +kernel
theorem dX5_element_58 : decode cX5_element 58 = .ok (.iaload, 1) := by decide +kernel
theorem dX5_element_59 : decode cX5_element 59 = .ok (.i2l, 1) := by decide +kernel
theorem dX5_element_60 : decode cX5_element 60 = .ok (.lreturn, 1) := by decide +kernel
theorem dX5_copy_0 : decode cX5_copy 0 = .ok (.iload_n 1, 1) := by decide +kernel
theorem dX5_copy_1 : decode cX5_copy 1 = .ok (.invokestatic 183, 3) := by decide +kernel
theorem dX5_copy_4 : decode cX5_copy 4 = .ok (.ifCond .ne 10, 3) := by decide +kernel
theorem dX5_copy_7 : decode cX5_copy 7 = .ok (.iload_n 3, 1) := by decide +kernel
theorem dX5_copy_8 : decode cX5_copy 8 = .ok (.invokestatic 183, 3) := by decide +kernel
theorem dX5_copy_11 : decode cX5_copy 11 = .ok (.ifCond .eq 5, 3) := by decide +kernel
theorem dX5_copy_14 : decode cX5_copy 14 = .ok (.iconst (-1), 1) := by decide +kernel
theorem dX5_copy_15 : decode cX5_copy 15 = .ok (.ireturn, 1) := by decide +kernel
theorem dX5_copy_16 : decode cX5_copy 16 = .ok (.aload_n 0, 1) := by decide +kernel
theorem dX5_copy_17 : decode cX5_copy 17 = .ok (.getfield 42, 3) := by decide +kernel
theorem dX5_copy_20 : decode cX5_copy 20 = .ok (.iload_n 1, 1) := by decide +kernel
theorem dX5_copy_21 : decode cX5_copy 21 = .ok (.aaload, 1) := by decide +kernel
theorem dX5_copy_22 : decode cX5_copy 22 = .ok (.astore 6, 2) := by decide +kernel
theorem dX5_copy_24 : decode cX5_copy 24 = .ok (.aload_n 0, 1) := by decide +kernel
theorem dX5_copy_25 : decode cX5_copy 25 = .ok (.getfield 42, 3) := by decide +kernel
theorem dX5_copy_28 : decode cX5_copy 28 = .ok (.iload_n 3, 1) := by decide +kernel
theorem dX5_copy_29 : decode cX5_copy 29 = .ok (.aaload, 1) := by decide +kernel
theorem dX5_copy_30 : decode cX5_copy 30 = .ok (.astore 7, 2) := by decide +kernel
theorem dX5_copy_32 : decode cX5_copy 32 = .ok (.aload 6, 2) := by decide +kernel
theorem dX5_copy_34 : decode cX5_copy 34 = .ok (.invokevirtual 300, 3) := by decide +kernel
theorem dX5_copy_37 : decode cX5_copy 37 = .ok (.ifCond .ne 11, 3) := by decide +kernel
theorem dX5_copy_40 : decode cX5_copy 40 = .ok (.aload 7, 2) := by decide +kernel
theorem dX5_copy_42 : decode cX5_copy 42 = .ok (.invokevirtual 300, 3) := by decide +kernel
theorem dX5_copy_45 : decode cX5_copy 45 = .ok (.ifCond .eq 6, 3) := by decide +kernel
theorem dX5_copy_48 : decode cX5_copy 48 = .ok (.bipush (-11), 2) := by decide +kernel
theorem dX5_copy_50 : decode cX5_copy 50 = .ok (.ireturn, 1) := by decide +kernel
theorem dX5_copy_51 : decode cX5_copy 51 = .ok (.aload 6, 2) := by decide +kernel
theorem dX5_copy_53 : decode cX5_copy 53 = .ok (.invokevirtual 294, 3) := by decide +kernel
theorem dX5_copy_56 : decode cX5_copy 56 = .ok (.ifCond .eq 24, 3) := by decide +kernel
theorem dX5_copy_59 : decode cX5_copy 59 = .ok (.aload 7, 2) := by decide +kernel
theorem dX5_copy_61 : decode cX5_copy 61 = .ok (.invokevirtual 294, 3) := by decide +kernel
theorem dX5_copy_64 : decode cX5_copy 64 = .ok (.ifCond .eq 16, 3) := by decide +kernel
theorem dX5_copy_67 : decode cX5_copy 67 = .ok (.aload 6, 2) := by decide +kernel
theorem dX5_copy_69 : decode cX5_copy 69 = .ok (.getfield 303, 3) := by decide +kernel
theorem dX5_copy_72 : decode cX5_copy 72 = .ok (.aload 7, 2) := by decide +kernel
theorem dX5_copy_74 : decode cX5_copy 74 = .ok (.getfield 303, 3) := by decide +kernel
theorem dX5_copy_77 : decode cX5_copy 77 = .ok (.if_icmp .eq 6, 3) := by decide +kernel
theorem dX5_copy_80 : decode cX5_copy 80 = .ok (.bipush (-12), 2) := by decide +kernel
theorem dX5_copy_82 : decode cX5_copy 82 = .ok (.ireturn, 1) := by decide +kernel
theorem dX5_copy_83 : decode cX5_copy 83 = .ok (.aload 6, 2) := by decide +kernel
theorem dX5_copy_85 : decode cX5_copy 85 = .ok (.iload_n 2, 1) := by decide +kernel
theorem dX5_copy_86 : decode cX5_copy 86 = .ok (.iload 5, 2) := by decide +kernel
theorem dX5_copy_88 : decode cX5_copy 88 = .ok (.invokevirtual 306, 3) := by decide +kernel
theorem dX5_copy_91 : decode cX5_copy 91 = .ok (.ifCond .eq 15, 3) := by decide +kernel
theorem dX5_copy_94 : decode cX5_copy 94 = .ok (.aload 7, 2) := by decide +kernel
theorem dX5_copy_96 : decode cX5_copy 96 = .ok (.iload 4, 2) := by decide +kernel
theorem dX5_copy_98 : decode cX5_copy 98 = .ok (.iload 5, 2) := by decide +kernel
theorem dX5_copy_100 : decode cX5_copy 100 = .ok (.invokevirtual 306, 3) := by decide +kernel
theorem dX5_copy_103 : decode cX5_copy 103 = .ok (.ifCond .ne 6, 3) := by decide +kernel
theorem dX5_copy_106 : decode cX5_copy 106 = .ok (.bipush (-13), 2) := by decide +kernel
theorem dX5_copy_108 : decode cX5_copy 108 = .ok (.ireturn, 1) := by decide +kernel
theorem dX5_copy_109 : decode cX5_copy 109 = .ok (.aload 6, 2) := by decide +kernel
theorem dX5_copy_111 : decode cX5_copy 111 = .ok (.getfield 266, 3) := by decide +kernel
theorem dX5_copy_114 : decode cX5_copy 114 = .ok (.iload_n 2, 1) := by decide +kernel
theorem dX5_copy_115 : decode cX5_copy 115 = .ok (.aload 7, 2) := by decide +kernel
theorem dX5_copy_117 : decode cX5_copy 117 = .ok (.getfield 266, 3) := by decide +kernel
theorem dX5_copy_120 : decode cX5_copy 120 = .ok (.iload 4, 2) := by decide +kernel
theorem dX5_copy_122 : decode cX5_copy 122 = .ok (.iload 5, 2) := by decide +kernel
theorem dX5_copy_124 : decode cX5_copy 124 = .ok (.invokestatic 309, 3) := by decide +kernel
theorem dX5_copy_127 : decode cX5_copy 127 = .ok (.iload 5, 2) := by decide +kernel
theorem dX5_copy_129 : decode cX5_copy 129 = .ok (.ireturn, 1) := by decide +kernel
theorem dX5_price_0 : decode cX5_price 0 = .ok (.aload_n 0, 1) := by decide +kernel
theorem dX5_price_1 : decode cX5_price 1 = .ok (.iload_n 1, 1) := by decide +kernel
theorem dX5_price_2 : decode cX5_price 2 = .ok (.invokevirtual 83, 3) := by decide +kernel
theorem dX5_price_5 : decode cX5_price 5 = .ok (.istore_n 2, 1) := by decide +kernel
theorem dX5_price_6 : decode cX5_price 6 = .ok (.iload_n 2, 1) := by decide +kernel
theorem dX5_price_7 : decode cX5_price 7 = .ok (.ifCond .eq 7, 3) := by decide +kernel
theorem dX5_price_10 : decode cX5_price 10 = .ok (.iload_n 2, 1) := by decide +kernel
theorem dX5_price_11 : decode cX5_price 11 = .ok (.goto 24, 3) := by decide +kernel
theorem dX5_price_14 : decode cX5_price 14 = .ok (.aload_n 0, 1) := by decide +kernel
theorem dX5_price_15 : decode cX5_price 15 = .ok (.getfield 42, 3) := by decide +kernel
theorem dX5_price_18 : decode cX5_price 18 = .ok (.iload_n 1, 1) := by decide +kernel
theorem dX5_price_19 : decode cX5_price 19 = .ok (.aaload, 1) := by decide +kernel
theorem dX5_price_20 : decode cX5_price 20 = .ok (.getfield 90, 3) := by decide +kernel
theorem dX5_price_23 : decode cX5_price 23 = .ok (.aload_n 0, 1) := by decide +kernel
theorem dX5_price_24 : decode cX5_price 24 = .ok (.getfield 42, 3) := by decide +kernel
theorem dX5_price_27 : decode cX5_price 27 = .ok (.iload_n 1, 1) := by decide +kernel
theorem dX5_price_28 : decode cX5_price 28 = .ok (.aaload, 1) := by decide +kernel
theorem dX5_price_29 : decode cX5_price 29 = .ok (.getfield 93, 3) := by decide +kernel
theorem dX5_price_32 : decode cX5_price 32 = .ok (.invokestatic 315, 3) := by decide +kernel
theorem dX5_price_35 : decode cX5_price 35 = .ok (.ireturn, 1) := by decide +kernel
theorem dX5_toss_0 : decode cX5_toss 0 = .ok (.aload_n 0, 1) := by decide +kernel
theorem dX5_toss_1 : decode cX5_toss 1 = .ok (.iload_n 1, 1) := by decide +kernel
theorem dX5_toss_2 : decode cX5_toss 2 = .ok (.invokevirtual 83, 3) := by decide +kernel
theorem dX5_toss_5 : decode cX5_toss 5 = .ok (.istore_n 2, 1) := by decide +kernel
theorem dX5_toss_6 : decode cX5_toss 6 = .ok (.iload_n 2, 1) := by decide +kernel
theorem dX5_toss_7 : decode cX5_toss 7 = .ok (.ifCond .eq 5, 3) := by decide +kernel
theorem dX5_toss_10 : decode cX5_toss 10 = .ok (.iload_n 2, 1) := by decide +kernel
theorem dX5_toss_11 : decode cX5_toss 11 = .ok (.ireturn, 1) := by decide +kernel
theorem dX5_toss_12 : decode cX5_toss 12 = .ok (.aload_n 0, 1) := by decide +kernel
theorem dX5_toss_13 : decode cX5_toss 13 = .ok (.getfield 42, 3) := by decide +kernel
theorem dX5_toss_16 : decode cX5_toss 16 = .ok (.iload_n 1, 1) := by decide +kernel
theorem dX5_toss_17 : decode cX5_toss 17 = .ok (.aaload, 1) := by decide +kernel
theorem dX5_toss_18 : decode cX5_toss 18 = .ok (.getfield 90, 3) := by decide +kernel
theorem dX5_toss_21 : decode cX5_toss 21 = .ok (.istore_n 3, 1) := by decide +kernel
theorem dX5_toss_22 : decode cX5_toss 22 = .ok (.aload_n 0, 1) := by decide +kernel
theorem dX5_toss_23 : decode cX5_toss 23 = .ok (.getfield 42, 3) := by decide +kernel
theorem dX5_toss_26 : decode cX5_toss 26 = .ok (.iload_n 1, 1) := by decide +kernel
theorem dX5_toss_27 : decode cX5_toss 27 = .ok (.aaload, 1) := by decide +kernel
theorem dX5_toss_28 : decode cX5_toss 28 = .ok (.getfield 93, 3) := by decide +kernel
theorem dX5_toss_31 : decode cX5_toss 31 = .ok (.istore 4, 2) := by decide +kernel
theorem dX5_toss_33 : decode cX5_toss 33 = .ok (.iload_n 3, 1) := by decide +kernel
theorem dX5_toss_34 : decode cX5_toss 34 = .ok (.iconst 4, 1) := by decide +kernel
theorem dX5_toss_35 : decode cX5_toss 35 = .ok (.if_icmp .eq 8, 3) := by decide +kernel
theorem dX5_toss_38 : decode cX5_toss 38 = .ok (.iload 4, 2) := by decide +kernel
theorem dX5_toss_40 : decode cX5_toss 40 = .ok (.ifCond .ne 6, 3) := by decide +kernel
theorem dX5_toss_43 : decode cX5_toss 43 = .ok (.bipush (-15), 2) := by decide +kernel
theorem dX5_toss_45 : decode cX5_toss 45 = .ok (.ireturn, 1) := by decide +kernel
theorem dX5_toss_46 : decode cX5_toss 46 = .ok (.iload_n 3, 1) := by decide +kernel
theorem dX5_toss_47 : decode cX5_toss 47 = .ok (.bipush 6, 2) := by decide +kernel
theorem dX5_toss_49 : decode cX5_toss 49 = .ok (.if_icmp .ne 14, 3) := by decide +kernel
theorem dX5_toss_52 : decode cX5_toss 52 = .ok (.sipush 200, 3) := by decide +kernel
theorem dX5_toss_55 : decode cX5_toss 55 = .ok (.iload_n 3, 1) := by decide +kernel
theorem dX5_toss_56 : decode cX5_toss 56 = .ok (.iload 4, 2) := by decide +kernel
theorem dX5_toss_58 : decode cX5_toss 58 = .ok (.invokestatic 315, 3) := by decide +kernel
theorem dX5_toss_61 : decode cX5_toss 61 = .ok (.iadd, 1) := by decide +kernel
theorem dX5_toss_62 : decode cX5_toss 62 = .ok (.ireturn, 1) := by decide +kernel
theorem dX5_toss_63 : decode cX5_toss 63 = .ok (.iload_n 3, 1) := by decide +kernel
theorem dX5_toss_64 : decode cX5_toss 64 = .ok (.iconst 5, 1) := by decide +kernel
theorem dX5_toss_65 : decode cX5_toss 65 = .ok (.if_icmp .ne 11, 3) := by decide +kernel
theorem dX5_toss_68 : decode cX5_toss 68 = .ok (.iload 4, 2) := by decide +kernel
theorem dX5_toss_70 : decode cX5_toss 70 = .ok (.bipush 100, 2) := by decide +kernel
theorem dX5_toss_72 : decode cX5_toss 72 = .ok (.iadd, 1) := by decide +kernel
theorem dX5_toss_73 : decode cX5_toss 73 = .ok (.goto 5, 3) := by decide +kernel
theorem dX5_toss_76 : decode cX5_toss 76 = .ok (.iload 4, 2) := by decide +kernel
theorem dX5_toss_78 : decode cX5_toss 78 = .ok (.ireturn, 1) := by decide +kernel
theorem dX5_isNoTaste_0 : decode cX5_isNoTaste 0 = .ok (.iload_n 0, 1) := by decide +kernel
theorem dX5_isNoTaste_1 : decode cX5_isNoTaste 1 = .ok (.ifCond .lt 8, 3) := by decide +kernel
theorem dX5_isNoTaste_4 : decode cX5_isNoTaste 4 = .ok (.iload_n 0, 1) := by decide +kernel
theorem dX5_isNoTaste_5 : decode cX5_isNoTaste 5 = .ok (.iconst 4, 1) := by decide +kernel
theorem dX5_isNoTaste_6 : decode cX5_isNoTaste 6 = .ok (.if_icmp .lt 7, 3) := by decide +kernel
theorem dX5_isNoTaste_9 : decode cX5_isNoTaste 9 = .ok (.iconst 1, 1) := by decide +kernel
theorem dX5_isNoTaste_10 : decode cX5_isNoTaste 10 = .ok (.goto 4, 3) := by decide +kernel
theorem dX5_isNoTaste_13 : decode cX5_isNoTaste 13 = .ok (.iconst 0, 1) := by decide +kernel
theorem dX5_isNoTaste_14 : decode cX5_isNoTaste 14 = .ok (.ireturn, 1) := by decide +kernel
theorem dX5_isNoKind_0 : decode cX5_isNoKind 0 = .ok (.iload_n 0, 1) := by decide +kernel
theorem dX5_isNoKind_1 : decode cX5_isNoKind 1 = .ok (.ifCond .lt 9, 3) := by decide +kernel
theorem dX5_isNoKind_4 : decode cX5_isNoKind 4 = .ok (.iload_n 0, 1) := by decide +kernel
theorem dX5_isNoKind_5 : decode cX5_isNoKind 5 = .ok (.bipush 8, 2) := by decide +kernel
theorem dX5_isNoKind_7 : decode cX5_isNoKind 7 = .ok (.if_icmp .lt 7, 3) := by decide +kernel
theorem dX5_isNoKind_10 : decode cX5_isNoKind 10 = .ok (.iconst 1, 1) := by decide +kernel
theorem dX5_isNoKind_11 : decode cX5_isNoKind 11 = .ok (.goto 4, 3) := by decide +kernel
theorem dX5_isNoKind_14 : decode cX5_isNoKind 14 = .ok (.iconst 0, 1) := by decide +kernel
theorem dX5_isNoKind_15 : decode cX5_isNoKind 15 = .ok (.ireturn, 1) := by decide +kernel
theorem dX5_isNoFigure_0 : decode cX5_isNoFigure 0 = .ok (.iload_n 0, 1) := by decide +kernel
theorem dX5_isNoFigure_1 : decode cX5_isNoFigure 1 = .ok (.ifCond .lt 9, 3) := by decide +kernel
theorem dX5_isNoFigure_4 : decode cX5_isNoFigure 4 = .ok (.iload_n 0, 1) := by decide +kernel
theorem dX5_isNoFigure_5 : decode cX5_isNoFigure 5 = .ok (.bipush 10, 2) := by decide +kernel
theorem dX5_isNoFigure_7 : decode cX5_isNoFigure 7 = .ok (.if_icmp .lt 7, 3) := by decide +kernel
theorem dX5_isNoFigure_10 : decode cX5_isNoFigure 10 = .ok (.iconst 1, 1) := by decide +kernel
theorem dX5_isNoFigure_11 : decode cX5_isNoFigure 11 = .ok (.goto 4, 3) := by decide +kernel
theorem dX5_isNoFigure_14 : decode cX5_isNoFigure 14 = .ok (.iconst 0, 1) := by decide +kernel
theorem dX5_isNoFigure_15 : decode cX5_isNoFigure 15 = .ok (.ireturn, 1) := by decide +kernel
theorem dX5_isNoHalf_0 : decode cX5_isNoHalf 0 = .ok (.iload_n 0, 1) := by decide +kernel
theorem dX5_isNoHalf_1 : decode cX5_isNoHalf 1 = .ok (.ifCond .lt 8, 3) := by decide +kernel
theorem dX5_isNoHalf_4 : decode cX5_isNoHalf 4 = .ok (.iload_n 0, 1) := by decide +kernel
theorem dX5_isNoHalf_5 : decode cX5_isNoHalf 5 = .ok (.iconst 1, 1) := by decide +kernel
theorem dX5_isNoHalf_6 : decode cX5_isNoHalf 6 = .ok (.if_icmp .le 7, 3) := by decide +kernel
theorem dX5_isNoHalf_9 : decode cX5_isNoHalf 9 = .ok (.iconst 1, 1) := by decide +kernel
theorem dX5_isNoHalf_10 : decode cX5_isNoHalf 10 = .ok (.goto 4, 3) := by decide +kernel
theorem dX5_isNoHalf_13 : decode cX5_isNoHalf 13 = .ok (.iconst 0, 1) := by decide +kernel
theorem dX5_isNoHalf_14 : decode cX5_isNoHalf 14 = .ok (.ireturn, 1) := by decide +kernel
theorem dX5_isNoPercent_0 : decode cX5_isNoPercent 0 = .ok (.iload_n 0, 1) := by decide +kernel
theorem dX5_isNoPercent_1 : decode cX5_isNoPercent 1 = .ok (.ifCond .lt 9, 3) := by decide +kernel
theorem dX5_isNoPercent_4 : decode cX5_isNoPercent 4 = .ok (.iload_n 0, 1) := by decide +kernel
theorem dX5_isNoPercent_5 : decode cX5_isNoPercent 5 = .ok (.bipush 100, 2) := by decide +kernel
theorem dX5_isNoPercent_7 : decode cX5_isNoPercent 7 = .ok (.if_icmp .le 7, 3) := by decide +kernel
theorem dX5_isNoPercent_10 : decode cX5_isNoPercent 10 = .ok (.iconst 1, 1) := by decide +kernel
theorem dX5_isNoPercent_11 : decode cX5_isNoPercent 11 = .ok (.goto 4, 3) := by decide +kernel
theorem dX5_isNoPercent_14 : decode cX5_isNoPercent 14 = .ok (.iconst 0, 1) := by decide +kernel
theorem dX5_isNoPercent_15 : decode cX5_isNoPercent 15 = .ok (.ireturn, 1) := by decide +kernel
theorem dX5_isNoHundredth_0 : decode cX5_isNoHundredth 0 = .ok (.iload_n 0, 1) := by decide +kernel
theorem dX5_isNoHundredth_1 : decode cX5_isNoHundredth 1 = .ok (.iconst 1, 1) := by decide +kernel
theorem dX5_isNoHundredth_2 : decode cX5_isNoHundredth 2 = .ok (.if_icmp .lt 9, 3) := by decide +kernel
theorem dX5_isNoHundredth_5 : decode cX5_isNoHundredth 5 = .ok (.iload_n 0, 1) := by decide +kernel
theorem dX5_isNoHundredth_6 : decode cX5_isNoHundredth 6 = .ok (.bipush 100, 2) := by decide +kernel
theorem dX5_isNoHundredth_8 : decode cX5_isNoHundredth 8 = .ok (.if_icmp .le 7, 3) := by decide +kernel
theorem dX5_isNoHundredth_11 : decode cX5_isNoHundredth 11 = .ok (.iconst 1, 1) := by decide +kernel
theorem dX5_isNoHundredth_12 : decode cX5_isNoHundredth 12 = .ok (.goto 4, 3) := by decide +kernel
theorem dX5_isNoHundredth_15 : decode cX5_isNoHundredth 15 = .ok (.iconst 0, 1) := by decide +kernel
theorem dX5_isNoHundredth_16 : decode cX5_isNoHundredth 16 = .ok (.ireturn, 1) := by decide +kernel
theorem dX5_isNoBans_0 : decode cX5_isNoBans 0 = .ok (.iload_n 0, 1) := by decide +kernel
theorem dX5_isNoBans_1 : decode cX5_isNoBans 1 = .ok (.ifCond .lt 9, 3) := by decide +kernel
theorem dX5_isNoBans_4 : decode cX5_isNoBans 4 = .ok (.iload_n 0, 1) := by decide +kernel
theorem dX5_isNoBans_5 : decode cX5_isNoBans 5 = .ok (.bipush 15, 2) := by decide +kernel
theorem dX5_isNoBans_7 : decode cX5_isNoBans 7 = .ok (.if_icmp .le 7, 3) := by decide +kernel
theorem dX5_isNoBans_10 : decode cX5_isNoBans 10 = .ok (.iconst 1, 1) := by decide +kernel
theorem dX5_isNoBans_11 : decode cX5_isNoBans 11 = .ok (.goto 4, 3) := by decide +kernel
theorem dX5_isNoBans_14 : decode cX5_isNoBans 14 = .ok (.iconst 0, 1) := by decide +kernel
theorem dX5_isNoBans_15 : decode cX5_isNoBans 15 = .ok (.ireturn, 1) := by decide +kernel
theorem dX5_isNoShelf_0 : decode cX5_isNoShelf 0 = .ok (.iload_n 0, 1) := by decide +kernel
theorem dX5_isNoShelf_1 : decode cX5_isNoShelf 1 = .ok (.ifCond .lt 9, 3) := by decide +kernel
theorem dX5_isNoShelf_4 : decode cX5_isNoShelf 4 = .ok (.iload_n 0, 1) := by decide +kernel
theorem dX5_isNoShelf_5 : decode cX5_isNoShelf 5 = .ok (.bipush 8, 2) := by decide +kernel
theorem dX5_isNoShelf_7 : decode cX5_isNoShelf 7 = .ok (.if_icmp .lt 7, 3) := by decide +kernel
theorem dX5_isNoShelf_10 : decode cX5_isNoShelf 10 = .ok (.iconst 1, 1) := by decide +kernel
theorem dX5_isNoShelf_11 : decode cX5_isNoShelf 11 = .ok (.goto 4, 3) := by decide +kernel
theorem dX5_isNoShelf_14 : decode cX5_isNoShelf 14 = .ok (.iconst 0, 1) := by decide +kernel
theorem dX5_isNoShelf_15 : decode cX5_isNoShelf 15 = .ok (.ireturn, 1) := by decide +kernel
theorem dX5_dishRefusal_0 : decode cX5_dishRefusal 0 = .ok (.iload_n 1, 1) := by decide +kernel
theorem dX5_dishRefusal_1 : decode cX5_dishRefusal 1 = .ok (.invokestatic 183, 3) := by decide +kernel
theorem dX5_dishRefusal_4 : decode cX5_dishRefusal 4 = .ok (.ifCond .eq 5, 3) := by decide +kernel
theorem dX5_dishRefusal_7 : decode cX5_dishRefusal 7 = .ok (.iconst (-1), 1) := by decide +kernel
theorem dX5_dishRefusal_8 : decode cX5_dishRefusal 8 = .ok (.ireturn, 1) := by decide +kernel
theorem dX5_dishRefusal_9 : decode cX5_dishRefusal 9 = .ok (.aload_n 0, 1) := by decide +kernel
theorem dX5_dishRefusal_10 : decode cX5_dishRefusal 10 = .ok (.getfield 42, 3) := by decide +kernel
theorem dX5_dishRefusal_13 : decode cX5_dishRefusal 13 = .ok (.iload_n 1, 1) := by decide +kernel
theorem dX5_dishRefusal_14 : decode cX5_dishRefusal 14 = .ok (.aaload, 1) := by decide +kernel
theorem dX5_dishRefusal_15 : decode cX5_dishRefusal 15 = .ok (.invokevirtual 300, 3) := by decide +kernel
theorem dX5_dishRefusal_18 : decode cX5_dishRefusal 18 = .ok (.ifCond .eq 6, 3) := by decide +kernel
theorem dX5_dishRefusal_21 : decode cX5_dishRefusal 21 = .ok (.bipush (-11), 2) := by decide +kernel
theorem dX5_dishRefusal_23 : decode cX5_dishRefusal 23 = .ok (.ireturn, 1) := by decide +kernel
theorem dX5_dishRefusal_24 : decode cX5_dishRefusal 24 = .ok (.aload_n 0, 1) := by decide +kernel
theorem dX5_dishRefusal_25 : decode cX5_dishRefusal 25 = .ok (.getfield 42, 3) := by decide +kernel
theorem dX5_dishRefusal_28 : decode cX5_dishRefusal 28 = .ok (.iload_n 1, 1) := by decide +kernel
theorem dX5_dishRefusal_29 : decode cX5_dishRefusal 29 = .ok (.aaload, 1) := by decide +kernel
theorem dX5_dishRefusal_30 : decode cX5_dishRefusal 30 = .ok (.invokevirtual 294, 3) := by decide +kernel
theorem dX5_dishRefusal_33 : decode cX5_dishRefusal 33 = .ok (.ifCond .eq 8, 3) := by decide +kernel
theorem dX5_dishRefusal_36 : decode cX5_dishRefusal 36 = .ok (.bipush (-12), 2) := by decide +kernel
theorem dX5_dishRefusal_38 : decode cX5_dishRefusal 38 = .ok (.goto 4, 3) := by decide +kernel
theorem dX5_dishRefusal_41 : decode cX5_dishRefusal 41 = .ok (.iconst 0, 1) := by decide +kernel
theorem dX5_dishRefusal_42 : decode cX5_dishRefusal 42 = .ok (.ireturn, 1) := by decide +kernel
theorem dX5_rowRefusal_0 : decode cX5_rowRefusal 0 = .ok (.iload_n 1, 1) := by decide +kernel
theorem dX5_rowRefusal_1 : decode cX5_rowRefusal 1 = .ok (.invokestatic 183, 3) := by decide +kernel
theorem dX5_rowRefusal_4 : decode cX5_rowRefusal 4 = .ok (.ifCond .eq 5, 3) := by decide +kernel
theorem dX5_rowRefusal_7 : decode cX5_rowRefusal 7 = .ok (.iconst (-1), 1) := by decide +kernel
theorem dX5_rowRefusal_8 : decode cX5_rowRefusal 8 = .ok (.ireturn, 1) := by decide +kernel
theorem dX5_rowRefusal_9 : decode cX5_rowRefusal 9 = .ok (.aload_n 0, 1) := by decide +kernel
theorem dX5_rowRefusal_10 : decode cX5_rowRefusal 10 = .ok (.getfield 42, 3) := by decide +kernel
theorem dX5_rowRefusal_13 : decode cX5_rowRefusal 13 = .ok (.iload_n 1, 1) := by decide +kernel
theorem dX5_rowRefusal_14 : decode cX5_rowRefusal 14 = .ok (.aaload, 1) := by decide +kernel
theorem dX5_rowRefusal_15 : decode cX5_rowRefusal 15 = .ok (.invokevirtual 300, 3) := by decide +kernel
theorem dX5_rowRefusal_18 : decode cX5_rowRefusal 18 = .ok (.ifCond .eq 6, 3) := by decide +kernel
theorem dX5_rowRefusal_21 : decode cX5_rowRefusal 21 = .ok (.bipush (-11), 2) := by decide +kernel
theorem dX5_rowRefusal_23 : decode cX5_rowRefusal 23 = .ok (.ireturn, 1) := by decide +kernel
theorem dX5_rowRefusal_24 : decode cX5_rowRefusal 24 = .ok (.aload_n 0, 1) := by decide +kernel
theorem dX5_rowRefusal_25 : decode cX5_rowRefusal 25 = .ok (.getfield 42, 3) := by decide +kernel
theorem dX5_rowRefusal_28 : decode cX5_rowRefusal 28 = .ok (.iload_n 1, 1) := by decide +kernel
theorem dX5_rowRefusal_29 : decode cX5_rowRefusal 29 = .ok (.aaload, 1) := by decide +kernel
theorem dX5_rowRefusal_30 : decode cX5_rowRefusal 30 = .ok (.invokevirtual 294, 3) := by decide +kernel
theorem dX5_rowRefusal_33 : decode cX5_rowRefusal 33 = .ok (.ifCond .eq 7, 3) := by decide +kernel
theorem dX5_rowRefusal_36 : decode cX5_rowRefusal 36 = .ok (.iconst 0, 1) := by decide +kernel
theorem dX5_rowRefusal_37 : decode cX5_rowRefusal 37 = .ok (.goto 5, 3) := by decide +kernel
theorem dX5_rowRefusal_40 : decode cX5_rowRefusal 40 = .ok (.bipush (-12), 2) := by decide +kernel
theorem dX5_rowRefusal_42 : decode cX5_rowRefusal 42 = .ok (.ireturn, 1) := by decide +kernel
theorem dX5_bytesRefusal_0 : decode cX5_bytesRefusal 0 = .ok (.aload_n 0, 1) := by decide +kernel
theorem dX5_bytesRefusal_1 : decode cX5_bytesRefusal 1 = .ok (.iload_n 1, 1) := by decide +kernel
theorem dX5_bytesRefusal_2 : decode cX5_bytesRefusal 2 = .ok (.invokevirtual 257, 3) := by decide +kernel
theorem dX5_bytesRefusal_5 : decode cX5_bytesRefusal 5 = .ok (.istore_n 2, 1) := by decide +kernel
theorem dX5_bytesRefusal_6 : decode cX5_bytesRefusal 6 = .ok (.iload_n 2, 1) := by decide +kernel
theorem dX5_bytesRefusal_7 : decode cX5_bytesRefusal 7 = .ok (.ifCond .eq 5, 3) := by decide +kernel
theorem dX5_bytesRefusal_10 : decode cX5_bytesRefusal 10 = .ok (.iload_n 2, 1) := by decide +kernel
theorem dX5_bytesRefusal_11 : decode cX5_bytesRefusal 11 = .ok (.ireturn, 1) := by decide +kernel
theorem dX5_bytesRefusal_12 : decode cX5_bytesRefusal 12 = .ok (.aload_n 0, 1) := by decide +kernel
theorem dX5_bytesRefusal_13 : decode cX5_bytesRefusal 13 = .ok (.getfield 42, 3) := by decide +kernel
theorem dX5_bytesRefusal_16 : decode cX5_bytesRefusal 16 = .ok (.iload_n 1, 1) := by decide +kernel
theorem dX5_bytesRefusal_17 : decode cX5_bytesRefusal 17 = .ok (.aaload, 1) := by decide +kernel
theorem dX5_bytesRefusal_18 : decode cX5_bytesRefusal 18 = .ok (.getfield 303, 3) := by decide +kernel
theorem dX5_bytesRefusal_21 : decode cX5_bytesRefusal 21 = .ok (.ifCond .ne 7, 3) := by decide +kernel
theorem dX5_bytesRefusal_24 : decode cX5_bytesRefusal 24 = .ok (.iconst 0, 1) := by decide +kernel
theorem dX5_bytesRefusal_25 : decode cX5_bytesRefusal 25 = .ok (.goto 5, 3) := by decide +kernel
theorem dX5_bytesRefusal_28 : decode cX5_bytesRefusal 28 = .ok (.bipush (-12), 2) := by decide +kernel
theorem dX5_bytesRefusal_30 : decode cX5_bytesRefusal 30 = .ok (.ireturn, 1) := by decide +kernel
theorem dX5_isPlan_0 : decode cX5_isPlan 0 = .ok (.aload_n 1, 1) := by decide +kernel
theorem dX5_isPlan_1 : decode cX5_isPlan 1 = .ok (.getfield 59, 3) := by decide +kernel
theorem dX5_isPlan_4 : decode cX5_isPlan 4 = .ok (.iconst 3, 1) := by decide +kernel
theorem dX5_isPlan_5 : decode cX5_isPlan 5 = .ok (.irem, 1) := by decide +kernel
theorem dX5_isPlan_6 : decode cX5_isPlan 6 = .ok (.ifCond .ne 12, 3) := by decide +kernel
theorem dX5_isPlan_9 : decode cX5_isPlan 9 = .ok (.aload_n 1, 1) := by decide +kernel
theorem dX5_isPlan_10 : decode cX5_isPlan 10 = .ok (.getfield 59, 3) := by decide +kernel
theorem dX5_isPlan_13 : decode cX5_isPlan 13 = .ok (.bipush 24, 2) := by decide +kernel
theorem dX5_isPlan_15 : decode cX5_isPlan 15 = .ok (.if_icmp .le 5, 3) := by decide +kernel
theorem dX5_isPlan_18 : decode cX5_isPlan 18 = .ok (.iconst 0, 1) := by decide +kernel
theorem dX5_isPlan_19 : decode cX5_isPlan 19 = .ok (.ireturn, 1) := by decide +kernel
theorem dX5_isPlan_20 : decode cX5_isPlan 20 = .ok (.iconst 0, 1) := by decide +kernel
theorem dX5_isPlan_21 : decode cX5_isPlan 21 = .ok (.istore_n 2, 1) := by decide +kernel
theorem dX5_isPlan_22 : decode cX5_isPlan 22 = .ok (.iload_n 2, 1) := by decide +kernel
theorem dX5_isPlan_23 : decode cX5_isPlan 23 = .ok (.aload_n 1, 1) := by decide +kernel
theorem dX5_isPlan_24 : decode cX5_isPlan 24 = .ok (.getfield 59, 3) := by decide +kernel
theorem dX5_isPlan_27 : decode cX5_isPlan 27 = .ok (.if_icmp .ge 38, 3) := by decide +kernel
theorem dX5_isPlan_30 : decode cX5_isPlan 30 = .ok (.aload_n 0, 1) := by decide +kernel
theorem dX5_isPlan_31 : decode cX5_isPlan 31 = .ok (.getfield 10, 3) := by decide +kernel
theorem dX5_isPlan_34 : decode cX5_isPlan 34 = .ok (.aload_n 1, 1) := by decide +kernel
theorem dX5_isPlan_35 : decode cX5_isPlan 35 = .ok (.iload_n 2, 1) := by decide +kernel
theorem dX5_isPlan_36 : decode cX5_isPlan 36 = .ok (.bipush (-4), 2) := by decide +kernel
theorem dX5_isPlan_38 : decode cX5_isPlan 38 = .ok (.invokevirtual 67, 3) := by decide +kernel
theorem dX5_isPlan_41 : decode cX5_isPlan 41 = .ok (.invokevirtual 79, 3) := by decide +kernel
theorem dX5_isPlan_44 : decode cX5_isPlan 44 = .ok (.ifCond .eq 13, 3) := by decide +kernel
theorem dX5_isPlan_47 : decode cX5_isPlan 47 = .ok (.aload_n 1, 1) := by decide +kernel
theorem dX5_isPlan_48 : decode cX5_isPlan 48 = .ok (.iload_n 2, 1) := by decide +kernel
theorem dX5_isPlan_49 : decode cX5_isPlan 49 = .ok (.iconst 1, 1) := by decide +kernel
theorem dX5_isPlan_50 : decode cX5_isPlan 50 = .ok (.iadd, 1) := by decide +kernel
theorem dX5_isPlan_51 : decode cX5_isPlan 51 = .ok (.invokevirtual 318, 3) := by decide +kernel
theorem dX5_isPlan_54 : decode cX5_isPlan 54 = .ok (.ifCond .ne 5, 3) := by decide +kernel
theorem dX5_isPlan_57 : decode cX5_isPlan 57 = .ok (.iconst 0, 1) := by decide +kernel
theorem dX5_isPlan_58 : decode cX5_isPlan 58 = .ok (.ireturn, 1) := by decide +kernel
theorem dX5_isPlan_59 : decode cX5_isPlan 59 = .ok (.iinc 2 3, 3) := by decide +kernel
theorem dX5_isPlan_62 : decode cX5_isPlan 62 = .ok (.goto (-40), 3) := by decide +kernel
theorem dX5_isPlan_65 : decode cX5_isPlan 65 = .ok (.iconst 1, 1) := by decide +kernel
theorem dX5_isPlan_66 : decode cX5_isPlan 66 = .ok (.ireturn, 1) := by decide +kernel
theorem dX5_isRowOfDishes_0 : decode cX5_isRowOfDishes 0 = .ok (.aload_n 0, 1) := by decide +kernel
theorem dX5_isRowOfDishes_1 : decode cX5_isRowOfDishes 1 = .ok (.getfield 59, 3) := by decide +kernel
theorem dX5_isRowOfDishes_4 : decode cX5_isRowOfDishes 4 = .ok (.iconst 2, 1) := by decide +kernel
theorem dX5_isRowOfDishes_5 : decode cX5_isRowOfDishes 5 = .ok (.irem, 1) := by decide +kernel
theorem dX5_isRowOfDishes_6 : decode cX5_isRowOfDishes 6 = .ok (.ifCond .ne 12, 3) := by decide +kernel
theorem dX5_isRowOfDishes_9 : decode cX5_isRowOfDishes 9 = .ok (.aload_n 0, 1) := by decide +kernel
theorem dX5_isRowOfDishes_10 : decode cX5_isRowOfDishes 10 = .ok (.getfield 59, 3) := by decide +kernel
theorem dX5_isRowOfDishes_13 : decode cX5_isRowOfDishes 13 = .ok (.bipush 10, 2) := by decide +kernel
theorem dX5_isRowOfDishes_15 : decode cX5_isRowOfDishes 15 = .ok (.if_icmp .le 5, 3) := by decide +kernel
theorem dX5_isRowOfDishes_18 : decode cX5_isRowOfDishes 18 = .ok (.iconst 0, 1) := by decide +kernel
theorem dX5_isRowOfDishes_19 : decode cX5_isRowOfDishes 19 = .ok (.ireturn, 1) := by decide +kernel
theorem dX5_isRowOfDishes_20 : decode cX5_isRowOfDishes 20 = .ok (.iconst 0, 1) := by decide +kernel
theorem dX5_isRowOfDishes_21 : decode cX5_isRowOfDishes 21 = .ok (.istore_n 1, 1) := by decide +kernel
theorem dX5_isRowOfDishes_22 : decode cX5_isRowOfDishes 22 = .ok (.iload_n 1, 1) := by decide +kernel
theorem dX5_isRowOfDishes_23 : decode cX5_isRowOfDishes 23 = .ok (.aload_n 0, 1) := by decide +kernel
theorem dX5_isRowOfDishes_24 : decode cX5_isRowOfDishes 24 = .ok (.getfield 59, 3) := by decide +kernel
theorem dX5_isRowOfDishes_27 : decode cX5_isRowOfDishes 27 = .ok (.if_icmp .ge 19, 3) := by decide +kernel
theorem dX5_isRowOfDishes_30 : decode cX5_isRowOfDishes 30 = .ok (.aload_n 0, 1) := by decide +kernel
theorem dX5_isRowOfDishes_31 : decode cX5_isRowOfDishes 31 = .ok (.iload_n 1, 1) := by decide +kernel
theorem dX5_isRowOfDishes_32 : decode cX5_isRowOfDishes 32 = .ok (.invokevirtual 318, 3) := by decide +kernel
theorem dX5_isRowOfDishes_35 : decode cX5_isRowOfDishes 35 = .ok (.ifCond .ne 5, 3) := by decide +kernel
theorem dX5_isRowOfDishes_38 : decode cX5_isRowOfDishes 38 = .ok (.iconst 0, 1) := by decide +kernel
theorem dX5_isRowOfDishes_39 : decode cX5_isRowOfDishes 39 = .ok (.ireturn, 1) := by decide +kernel
theorem dX5_isRowOfDishes_40 : decode cX5_isRowOfDishes 40 = .ok (.iinc 1 2, 3) := by decide +kernel
theorem dX5_isRowOfDishes_43 : decode cX5_isRowOfDishes 43 = .ok (.goto (-21), 3) := by decide +kernel
theorem dX5_isRowOfDishes_46 : decode cX5_isRowOfDishes 46 = .ok (.iconst 1, 1) := by decide +kernel
theorem dX5_isRowOfDishes_47 : decode cX5_isRowOfDishes 47 = .ok (.ireturn, 1) := by decide +kernel
theorem dX5_ownOf_0 : decode cX5_ownOf 0 = .ok (.iload_n 1, 1) := by decide +kernel
theorem dX5_ownOf_1 : decode cX5_ownOf 1 = .ok (.iconst 4, 1) := by decide +kernel
theorem dX5_ownOf_2 : decode cX5_ownOf 2 = .ok (.irem, 1) := by decide +kernel
theorem dX5_ownOf_3 : decode cX5_ownOf 3 = .ok (.iload_n 2, 1) := by decide +kernel
theorem dX5_ownOf_4 : decode cX5_ownOf 4 = .ok (.if_icmp .ne 9, 3) := by decide +kernel
theorem dX5_ownOf_7 : decode cX5_ownOf 7 = .ok (.iload_n 1, 1) := by decide +kernel
theorem dX5_ownOf_8 : decode cX5_ownOf 8 = .ok (.iconst 1, 1) := by decide +kernel
theorem dX5_ownOf_9 : decode cX5_ownOf 9 = .ok (.iadd, 1) := by decide +kernel
theorem dX5_ownOf_10 : decode cX5_ownOf 10 = .ok (.goto 4, 3) := by decide +kernel
theorem dX5_ownOf_13 : decode cX5_ownOf 13 = .ok (.iconst 0, 1) := by decide +kernel
theorem dX5_ownOf_14 : decode cX5_ownOf 14 = .ok (.istore_n 3, 1) := by decide +kernel
theorem dX5_ownOf_15 : decode cX5_ownOf 15 = .ok (.iload_n 3, 1) := by decide +kernel
theorem dX5_ownOf_16 : decode cX5_ownOf 16 = .ok (.iconst 1, 1) := by decide +kernel
theorem dX5_ownOf_17 : decode cX5_ownOf 17 = .ok (.iadd, 1) := by decide +kernel
theorem dX5_ownOf_18 : decode cX5_ownOf 18 = .ok (.istore 4, 2) := by decide +kernel
theorem dX5_ownOf_20 : decode cX5_ownOf 20 = .ok (.iload_n 2, 1) := by decide +kernel
theorem dX5_ownOf_21 : decode cX5_ownOf 21 = .ok (.iconst 2, 1) := by decide +kernel
theorem dX5_ownOf_22 : decode cX5_ownOf 22 = .ok (.if_icmp .ne 9, 3) := by decide +kernel
theorem dX5_ownOf_25 : decode cX5_ownOf 25 = .ok (.iload_n 3, 1) := by decide +kernel
theorem dX5_ownOf_26 : decode cX5_ownOf 26 = .ok (.iconst 3, 1) := by decide +kernel
theorem dX5_ownOf_27 : decode cX5_ownOf 27 = .ok (.iadd, 1) := by decide +kernel
theorem dX5_ownOf_28 : decode cX5_ownOf 28 = .ok (.goto 4, 3) := by decide +kernel
theorem dX5_ownOf_31 : decode cX5_ownOf 31 = .ok (.iload_n 3, 1) := by decide +kernel
theorem dX5_ownOf_32 : decode cX5_ownOf 32 = .ok (.istore 5, 2) := by decide +kernel
theorem dX5_ownOf_34 : decode cX5_ownOf 34 = .ok (.iload_n 0, 1) := by decide +kernel
theorem dX5_ownOf_35 : decode cX5_ownOf 35 = .ok (.tableswitch 91 0 7 #[45, 47, 50, 54, 91, 57, 72, 86], 45) := by decide +kernel
theorem dX5_ownOf_80 : decode cX5_ownOf 80 = .ok (.iload_n 3, 1) := by decide +kernel
theorem dX5_ownOf_81 : decode cX5_ownOf 81 = .ok (.ireturn, 1) := by decide +kernel
theorem dX5_ownOf_82 : decode cX5_ownOf 82 = .ok (.iload 4, 2) := by decide +kernel
theorem dX5_ownOf_84 : decode cX5_ownOf 84 = .ok (.ireturn, 1) := by decide +kernel
theorem dX5_ownOf_85 : decode cX5_ownOf 85 = .ok (.iconst 2, 1) := by decide +kernel
theorem dX5_ownOf_86 : decode cX5_ownOf 86 = .ok (.iload_n 3, 1) := by decide +kernel
theorem dX5_ownOf_87 : decode cX5_ownOf 87 = .ok (.imul, 1) := by decide +kernel
theorem dX5_ownOf_88 : decode cX5_ownOf 88 = .ok (.ireturn, 1) := by decide +kernel
theorem dX5_ownOf_89 : decode cX5_ownOf 89 = .ok (.iload 5, 2) := by decide +kernel
theorem dX5_ownOf_91 : decode cX5_ownOf 91 = .ok (.ireturn, 1) := by decide +kernel
theorem dX5_ownOf_92 : decode cX5_ownOf 92 = .ok (.iload_n 2, 1) := by decide +kernel
theorem dX5_ownOf_93 : decode cX5_ownOf 93 = .ok (.iconst 3, 1) := by decide +kernel
theorem dX5_ownOf_94 : decode cX5_ownOf 94 = .ok (.if_icmp .ne 10, 3) := by decide +kernel
theorem dX5_ownOf_97 : decode cX5_ownOf 97 = .ok (.iload 4, 2) := by decide +kernel
theorem dX5_ownOf_99 : decode cX5_ownOf 99 = .ok (.iconst 2, 1) := by decide +kernel
theorem dX5_ownOf_100 : decode cX5_ownOf 100 = .ok (.iadd, 1) := by decide +kernel
theorem dX5_ownOf_101 : decode cX5_ownOf 101 = .ok (.goto 5, 3) := by decide +kernel
theorem dX5_ownOf_104 : decode cX5_ownOf 104 = .ok (.iload 4, 2) := by decide +kernel
theorem dX5_ownOf_106 : decode cX5_ownOf 106 = .ok (.ireturn, 1) := by decide +kernel
theorem dX5_ownOf_107 : decode cX5_ownOf 107 = .ok (.iload_n 2, 1) := by decide +kernel
theorem dX5_ownOf_108 : decode cX5_ownOf 108 = .ok (.ifCond .ne 10, 3) := by decide +kernel
theorem dX5_ownOf_111 : decode cX5_ownOf 111 = .ok (.iload 5, 2) := by decide +kernel
theorem dX5_ownOf_113 : decode cX5_ownOf 113 = .ok (.iconst 5, 1) := by decide +kernel
theorem dX5_ownOf_114 : decode cX5_ownOf 114 = .ok (.iadd, 1) := by decide +kernel
theorem dX5_ownOf_115 : decode cX5_ownOf 115 = .ok (.goto 5, 3) := by decide +kernel
theorem dX5_ownOf_118 : decode cX5_ownOf 118 = .ok (.iload 5, 2) := by decide +kernel
theorem dX5_ownOf_120 : decode cX5_ownOf 120 = .ok (.ireturn, 1) := by decide +kernel
theorem dX5_ownOf_121 : decode cX5_ownOf 121 = .ok (.iload 4, 2) := by decide +kernel
theorem dX5_ownOf_123 : decode cX5_ownOf 123 = .ok (.iconst 1, 1) := by decide +kernel
theorem dX5_ownOf_124 : decode cX5_ownOf 124 = .ok (.isub, 1) := by decide +kernel
theorem dX5_ownOf_125 : decode cX5_ownOf 125 = .ok (.ireturn, 1) := by decide +kernel
theorem dX5_ownOf_126 : decode cX5_ownOf 126 = .ok (.iconst 0, 1) := by decide +kernel
theorem dX5_ownOf_127 : decode cX5_ownOf 127 = .ok (.ireturn, 1) := by decide +kernel
theorem dX5_keepsOf_0 : decode cX5_keepsOf 0 = .ok (.iconst 3, 1) := by decide +kernel
theorem dX5_keepsOf_1 : decode cX5_keepsOf 1 = .ok (.istore_n 1, 1) := by decide +kernel
theorem dX5_keepsOf_2 : decode cX5_keepsOf 2 = .ok (.iload_n 1, 1) := by decide +kernel
theorem dX5_keepsOf_3 : decode cX5_keepsOf 3 = .ok (.istore_n 2, 1) := by decide +kernel
theorem dX5_keepsOf_4 : decode cX5_keepsOf 4 = .ok (.iload_n 1, 1) := by decide +kernel
theorem dX5_keepsOf_5 : decode cX5_keepsOf 5 = .ok (.iconst 1, 1) := by decide +kernel
theorem dX5_keepsOf_6 : decode cX5_keepsOf 6 = .ok (.isub, 1) := by decide +kernel
theorem dX5_keepsOf_7 : decode cX5_keepsOf 7 = .ok (.istore_n 3, 1) := by decide +kernel
theorem dX5_keepsOf_8 : decode cX5_keepsOf 8 = .ok (.iload_n 0, 1) := by decide +kernel
theorem dX5_keepsOf_9 : decode cX5_keepsOf 9 = .ok (.tableswitch 67 0 7 #[47, 49, 51, 55, 67, 57, 61, 63], 47) := by decide +kernel
theorem dX5_keepsOf_56 : decode cX5_keepsOf 56 = .ok (.iload_n 1, 1) := by decide +kernel
theorem dX5_keepsOf_57 : decode cX5_keepsOf 57 = .ok (.ireturn, 1) := by decide +kernel
theorem dX5_keepsOf_58 : decode cX5_keepsOf 58 = .ok (.iload_n 2, 1) := by decide +kernel
theorem dX5_keepsOf_59 : decode cX5_keepsOf 59 = .ok (.ireturn, 1) := by decide +kernel
theorem dX5_keepsOf_60 : decode cX5_keepsOf 60 = .ok (.iload_n 1, 1) := by decide +kernel
theorem dX5_keepsOf_61 : decode cX5_keepsOf 61 = .ok (.iconst 3, 1) := by decide +kernel
theorem dX5_keepsOf_62 : decode cX5_keepsOf 62 = .ok (.iadd, 1) := by decide +kernel
theorem dX5_keepsOf_63 : decode cX5_keepsOf 63 = .ok (.ireturn, 1) := by decide +kernel
theorem dX5_keepsOf_64 : decode cX5_keepsOf 64 = .ok (.iload_n 3, 1) := by decide +kernel
theorem dX5_keepsOf_65 : decode cX5_keepsOf 65 = .ok (.ireturn, 1) := by decide +kernel
theorem dX5_keepsOf_66 : decode cX5_keepsOf 66 = .ok (.iload_n 2, 1) := by decide +kernel
theorem dX5_keepsOf_67 : decode cX5_keepsOf 67 = .ok (.iconst 1, 1) := by decide +kernel
theorem dX5_keepsOf_68 : decode cX5_keepsOf 68 = .ok (.iadd, 1) := by decide +kernel
theorem dX5_keepsOf_69 : decode cX5_keepsOf 69 = .ok (.ireturn, 1) := by decide +kernel
theorem dX5_keepsOf_70 : decode cX5_keepsOf 70 = .ok (.iload_n 3, 1) := by decide +kernel
theorem dX5_keepsOf_71 : decode cX5_keepsOf 71 = .ok (.ireturn, 1) := by decide +kernel
theorem dX5_keepsOf_72 : decode cX5_keepsOf 72 = .ok (.iconst 2, 1) := by decide +kernel
theorem dX5_keepsOf_73 : decode cX5_keepsOf 73 = .ok (.iload_n 2, 1) := by decide +kernel
theorem dX5_keepsOf_74 : decode cX5_keepsOf 74 = .ok (.imul, 1) := by decide +kernel
theorem dX5_keepsOf_75 : decode cX5_keepsOf 75 = .ok (.ireturn, 1) := by decide +kernel
theorem dX5_keepsOf_76 : decode cX5_keepsOf 76 = .ok (.iconst 0, 1) := by decide +kernel
theorem dX5_keepsOf_77 : decode cX5_keepsOf 77 = .ok (.ireturn, 1) := by decide +kernel
theorem dX5_priceOf_0 : decode cX5_priceOf 0 = .ok (.iconst 3, 1) := by decide +kernel
theorem dX5_priceOf_1 : decode cX5_priceOf 1 = .ok (.istore_n 2, 1) := by decide +kernel
theorem dX5_priceOf_2 : decode cX5_priceOf 2 = .ok (.iload_n 2, 1) := by decide +kernel
theorem dX5_priceOf_3 : decode cX5_priceOf 3 = .ok (.iload_n 1, 1) := by decide +kernel
theorem dX5_priceOf_4 : decode cX5_priceOf 4 = .ok (.iadd, 1) := by decide +kernel
theorem dX5_priceOf_5 : decode cX5_priceOf 5 = .ok (.istore_n 3, 1) := by decide +kernel
theorem dX5_priceOf_6 : decode cX5_priceOf 6 = .ok (.iload_n 2, 1) := by decide +kernel
theorem dX5_priceOf_7 : decode cX5_priceOf 7 = .ok (.iconst 4, 1) := by decide +kernel
theorem dX5_priceOf_8 : decode cX5_priceOf 8 = .ok (.iadd, 1) := by decide +kernel
theorem dX5_priceOf_9 : decode cX5_priceOf 9 = .ok (.istore 4, 2) := by decide +kernel
theorem dX5_priceOf_11 : decode cX5_priceOf 11 = .ok (.iload_n 0, 1) := by decide +kernel
theorem dX5_priceOf_12 : decode cX5_priceOf 12 = .ok (.tableswitch 72 1 7 #[44, 46, 50, 53, 57, 61, 68], 44) := by decide +kernel
theorem dX5_priceOf_56 : decode cX5_priceOf 56 = .ok (.iload_n 3, 1) := by decide +kernel
theorem dX5_priceOf_57 : decode cX5_priceOf 57 = .ok (.ireturn, 1) := by decide +kernel
theorem dX5_priceOf_58 : decode cX5_priceOf 58 = .ok (.iconst 2, 1) := by decide +kernel
theorem dX5_priceOf_59 : decode cX5_priceOf 59 = .ok (.iload_n 2, 1) := by decide +kernel
theorem dX5_priceOf_60 : decode cX5_priceOf 60 = .ok (.imul, 1) := by decide +kernel
theorem dX5_priceOf_61 : decode cX5_priceOf 61 = .ok (.ireturn, 1) := by decide +kernel
theorem dX5_priceOf_62 : decode cX5_priceOf 62 = .ok (.iload 4, 2) := by decide +kernel
theorem dX5_priceOf_64 : decode cX5_priceOf 64 = .ok (.ireturn, 1) := by decide +kernel
theorem dX5_priceOf_65 : decode cX5_priceOf 65 = .ok (.iload_n 2, 1) := by decide +kernel
theorem dX5_priceOf_66 : decode cX5_priceOf 66 = .ok (.iconst 2, 1) := by decide +kernel
theorem dX5_priceOf_67 : decode cX5_priceOf 67 = .ok (.isub, 1) := by decide +kernel
theorem dX5_priceOf_68 : decode cX5_priceOf 68 = .ok (.ireturn, 1) := by decide +kernel
theorem dX5_priceOf_69 : decode cX5_priceOf 69 = .ok (.iload_n 3, 1) := by decide +kernel
theorem dX5_priceOf_70 : decode cX5_priceOf 70 = .ok (.iconst 2, 1) := by decide +kernel
theorem dX5_priceOf_71 : decode cX5_priceOf 71 = .ok (.iadd, 1) := by decide +kernel
theorem dX5_priceOf_72 : decode cX5_priceOf 72 = .ok (.ireturn, 1) := by decide +kernel
theorem dX5_priceOf_73 : decode cX5_priceOf 73 = .ok (.iload 4, 2) := by decide +kernel
theorem dX5_priceOf_75 : decode cX5_priceOf 75 = .ok (.iload_n 1, 1) := by decide +kernel
theorem dX5_priceOf_76 : decode cX5_priceOf 76 = .ok (.iconst 1, 1) := by decide +kernel
theorem dX5_priceOf_77 : decode cX5_priceOf 77 = .ok (.iadd, 1) := by decide +kernel
theorem dX5_priceOf_78 : decode cX5_priceOf 78 = .ok (.imul, 1) := by decide +kernel
theorem dX5_priceOf_79 : decode cX5_priceOf 79 = .ok (.ireturn, 1) := by decide +kernel
theorem dX5_priceOf_80 : decode cX5_priceOf 80 = .ok (.iload_n 3, 1) := by decide +kernel
theorem dX5_priceOf_81 : decode cX5_priceOf 81 = .ok (.iconst 1, 1) := by decide +kernel
theorem dX5_priceOf_82 : decode cX5_priceOf 82 = .ok (.isub, 1) := by decide +kernel
theorem dX5_priceOf_83 : decode cX5_priceOf 83 = .ok (.ireturn, 1) := by decide +kernel
theorem dX5_priceOf_84 : decode cX5_priceOf 84 = .ok (.iload_n 2, 1) := by decide +kernel
theorem dX5_priceOf_85 : decode cX5_priceOf 85 = .ok (.ireturn, 1) := by decide +kernel
theorem dX5_codesOf_0 : decode cX5_codesOf 0 = .ok (.iconst 1, 1) := by decide +kernel
theorem dX5_codesOf_1 : decode cX5_codesOf 1 = .ok (.iconst 3, 1) := by decide +kernel
theorem dX5_codesOf_2 : decode cX5_codesOf 2 = .ok (.iload_n 0, 1) := by decide +kernel
theorem dX5_codesOf_3 : decode cX5_codesOf 3 = .ok (.imul, 1) := by decide +kernel
theorem dX5_codesOf_4 : decode cX5_codesOf 4 = .ok (.ishl, 1) := by decide +kernel
theorem dX5_codesOf_5 : decode cX5_codesOf 5 = .ok (.ireturn, 1) := by decide +kernel
theorem dX5_kindIn_0 : decode cX5_kindIn 0 = .ok (.iload_n 0, 1) := by decide +kernel
theorem dX5_kindIn_1 : decode cX5_kindIn 1 = .ok (.iconst 3, 1) := by decide +kernel
theorem dX5_kindIn_2 : decode cX5_kindIn 2 = .ok (.iload_n 1, 1) := by decide +kernel
theorem dX5_kindIn_3 : decode cX5_kindIn 3 = .ok (.imul, 1) := by decide +kernel
theorem dX5_kindIn_4 : decode cX5_kindIn 4 = .ok (.ishr, 1) := by decide +kernel
theorem dX5_kindIn_5 : decode cX5_kindIn 5 = .ok (.bipush 7, 2) := by decide +kernel
theorem dX5_kindIn_7 : decode cX5_kindIn 7 = .ok (.iand, 1) := by decide +kernel
theorem dX5_kindIn_8 : decode cX5_kindIn 8 = .ok (.ireturn, 1) := by decide +kernel
theorem dX5_firstKind_0 : decode cX5_firstKind 0 = .ok (.iload_n 1, 1) := by decide +kernel
theorem dX5_firstKind_1 : decode cX5_firstKind 1 = .ok (.ifCond .ne 8, 3) := by decide +kernel
theorem dX5_firstKind_4 : decode cX5_firstKind 4 = .ok (.bipush (-4), 2) := by decide +kernel
theorem dX5_firstKind_6 : decode cX5_firstKind 6 = .ok (.goto 10, 3) := by decide +kernel
theorem dX5_firstKind_9 : decode cX5_firstKind 9 = .ok (.iload_n 0, 1) := by decide +kernel
theorem dX5_firstKind_10 : decode cX5_firstKind 10 = .ok (.iload_n 1, 1) := by decide +kernel
theorem dX5_firstKind_11 : decode cX5_firstKind 11 = .ok (.iconst 1, 1) := by decide +kernel
theorem dX5_firstKind_12 : decode cX5_firstKind 12 = .ok (.isub, 1) := by decide +kernel
theorem dX5_firstKind_13 : decode cX5_firstKind 13 = .ok (.invokestatic 321, 3) := by decide +kernel
theorem dX5_firstKind_16 : decode cX5_firstKind 16 = .ok (.ireturn, 1) := by decide +kernel
theorem dX5_digitsOf_0 : decode cX5_digitsOf 0 = .ok (.iconst 0, 1) := by decide +kernel
theorem dX5_digitsOf_1 : decode cX5_digitsOf 1 = .ok (.istore_n 2, 1) := by decide +kernel
theorem dX5_digitsOf_2 : decode cX5_digitsOf 2 = .ok (.iload_n 1, 1) := by decide +kernel
theorem dX5_digitsOf_3 : decode cX5_digitsOf 3 = .ok (.iconst 1, 1) := by decide +kernel
theorem dX5_digitsOf_4 : decode cX5_digitsOf 4 = .ok (.isub, 1) := by decide +kernel
theorem dX5_digitsOf_5 : decode cX5_digitsOf 5 = .ok (.istore_n 3, 1) := by decide +kernel
theorem dX5_digitsOf_6 : decode cX5_digitsOf 6 = .ok (.iload_n 3, 1) := by decide +kernel
theorem dX5_digitsOf_7 : decode cX5_digitsOf 7 = .ok (.ifCond .lt 20, 3) := by decide +kernel
theorem dX5_digitsOf_10 : decode cX5_digitsOf 10 = .ok (.bipush 10, 2) := by decide +kernel
theorem dX5_digitsOf_12 : decode cX5_digitsOf 12 = .ok (.iload_n 2, 1) := by decide +kernel
theorem dX5_digitsOf_13 : decode cX5_digitsOf 13 = .ok (.imul, 1) := by decide +kernel
theorem dX5_digitsOf_14 : decode cX5_digitsOf 14 = .ok (.iload_n 0, 1) := by decide +kernel
theorem dX5_digitsOf_15 : decode cX5_digitsOf 15 = .ok (.iload_n 3, 1) := by decide +kernel
theorem dX5_digitsOf_16 : decode cX5_digitsOf 16 = .ok (.invokestatic 321, 3) := by decide +kernel
theorem dX5_digitsOf_19 : decode cX5_digitsOf 19 = .ok (.iadd, 1) := by decide +kernel
theorem dX5_digitsOf_20 : decode cX5_digitsOf 20 = .ok (.istore_n 2, 1) := by decide +kernel
theorem dX5_digitsOf_21 : decode cX5_digitsOf 21 = .ok (.iinc 3 (-1), 3) := by decide +kernel
theorem dX5_digitsOf_24 : decode cX5_digitsOf 24 = .ok (.goto (-18), 3) := by decide +kernel
theorem dX5_digitsOf_27 : decode cX5_digitsOf 27 = .ok (.iload_n 2, 1) := by decide +kernel
theorem dX5_digitsOf_28 : decode cX5_digitsOf 28 = .ok (.ireturn, 1) := by decide +kernel
theorem dX5_powerOfNine_0 : decode cX5_powerOfNine 0 = .ok (.lconst 1, 1) := by decide +kernel
theorem dX5_powerOfNine_1 : decode cX5_powerOfNine 1 = .ok (.lstore_n 1, 1) := by decide +kernel
theorem dX5_powerOfNine_2 : decode cX5_powerOfNine 2 = .ok (.iconst 0, 1) := by decide +kernel
theorem dX5_powerOfNine_3 : decode cX5_powerOfNine 3 = .ok (.istore_n 3, 1) := by decide +kernel
theorem dX5_powerOfNine_4 : decode cX5_powerOfNine 4 = .ok (.iload_n 3, 1) := by decide +kernel
theorem dX5_powerOfNine_5 : decode cX5_powerOfNine 5 = .ok (.iload_n 0, 1) := by decide +kernel
theorem dX5_powerOfNine_6 : decode cX5_powerOfNine 6 = .ok (.if_icmp .ge 15, 3) := by decide +kernel
theorem dX5_powerOfNine_9 : decode cX5_powerOfNine 9 = .ok (.lload_n 1, 1) := by decide +kernel
theorem dX5_powerOfNine_10 : decode cX5_powerOfNine 10 = .ok (.ldc2_w 249, 3) := by decide +kernel
theorem dX5_powerOfNine_13 : decode cX5_powerOfNine 13 = .ok (.lmul, 1) := by decide +kernel
theorem dX5_powerOfNine_14 : decode cX5_powerOfNine 14 = .ok (.lstore_n 1, 1) := by decide +kernel
theorem dX5_powerOfNine_15 : decode cX5_powerOfNine 15 = .ok (.iinc 3 1, 3) := by decide +kernel
theorem dX5_powerOfNine_18 : decode cX5_powerOfNine 18 = .ok (.goto (-14), 3) := by decide +kernel
theorem dX5_powerOfNine_21 : decode cX5_powerOfNine 21 = .ok (.lload_n 1, 1) := by decide +kernel
theorem dX5_powerOfNine_22 : decode cX5_powerOfNine 22 = .ok (.lreturn, 1) := by decide +kernel
theorem dX5_inLeastTerms_0 : decode cX5_inLeastTerms 0 = .ok (.lload_n 0, 1) := by decide +kernel
theorem dX5_inLeastTerms_1 : decode cX5_inLeastTerms 1 = .ok (.lstore 5, 2) := by decide +kernel
theorem dX5_inLeastTerms_3 : decode cX5_inLeastTerms 3 = .ok (.lload_n 2, 1) := by decide +kernel
theorem dX5_inLeastTerms_4 : decode cX5_inLeastTerms 4 = .ok (.lstore 7, 2) := by decide +kernel
theorem dX5_inLeastTerms_6 : decode cX5_inLeastTerms 6 = .ok (.iconst 0, 1) := by decide +kernel
theorem dX5_inLeastTerms_7 : decode cX5_inLeastTerms 7 = .ok (.istore 9, 2) := by decide +kernel
theorem dX5_inLeastTerms_9 : decode cX5_inLeastTerms 9 = .ok (.iload 9, 2) := by decide +kernel
theorem dX5_inLeastTerms_11 : decode cX5_inLeastTerms 11 = .ok (.bipush 24, 2) := by decide +kernel
theorem dX5_inLeastTerms_13 : decode cX5_inLeastTerms 13 = .ok (.if_icmp .ge 47, 3) := by decide +kernel
theorem dX5_inLeastTerms_16 : decode cX5_inLeastTerms 16 = .ok (.lload 5, 2) := by decide +kernel
theorem dX5_inLeastTerms_18 : decode cX5_inLeastTerms 18 = .ok (.ldc2_w 324, 3) := by decide +kernel
theorem dX5_inLeastTerms_21 : decode cX5_inLeastTerms 21 = .ok (.lrem, 1) := by decide +kernel
theorem dX5_inLeastTerms_22 : decode cX5_inLeastTerms 22 = .ok (.lconst 0, 1) := by decide +kernel
theorem dX5_inLeastTerms_23 : decode cX5_inLeastTerms 23 = .ok (.lcmp, 1) := by decide +kernel
theorem dX5_inLeastTerms_24 : decode cX5_inLeastTerms 24 = .ok (.ifCond .ne 36, 3) := by decide +kernel
theorem dX5_inLeastTerms_27 : decode cX5_inLeastTerms 27 = .ok (.lload 7, 2) := by decide +kernel
theorem dX5_inLeastTerms_29 : decode cX5_inLeastTerms 29 = .ok (.ldc2_w 324, 3) := by decide +kernel
theorem dX5_inLeastTerms_32 : decode cX5_inLeastTerms 32 = .ok (.lrem, 1) := by decide +kernel
theorem dX5_inLeastTerms_33 : decode cX5_inLeastTerms 33 = .ok (.lconst 0, 1) := by decide +kernel
theorem dX5_inLeastTerms_34 : decode cX5_inLeastTerms 34 = .ok (.lcmp, 1) := by decide +kernel
theorem dX5_inLeastTerms_35 : decode cX5_inLeastTerms 35 = .ok (.ifCond .ne 25, 3) := by decide +kernel
theorem dX5_inLeastTerms_38 : decode cX5_inLeastTerms 38 = .ok (.lload 5, 2) := by decide +kernel
theorem dX5_inLeastTerms_40 : decode cX5_inLeastTerms 40 = .ok (.ldc2_w 324, 3) := by decide +kernel
theorem dX5_inLeastTerms_43 : decode cX5_inLeastTerms 43 = .ok (.ldiv, 1) := by decide +kernel
theorem dX5_inLeastTerms_44 : decode cX5_inLeastTerms 44 = .ok (.lstore 5, 2) := by decide +kernel
theorem dX5_inLeastTerms_46 : decode cX5_inLeastTerms 46 = .ok (.lload 7, 2) := by decide +kernel
theorem dX5_inLeastTerms_48 : decode cX5_inLeastTerms 48 = .ok (.ldc2_w 324, 3) := by decide +kernel
theorem dX5_inLeastTerms_51 : decode cX5_inLeastTerms 51 = .ok (.ldiv, 1) := by decide +kernel
theorem dX5_inLeastTerms_52 : decode cX5_inLeastTerms 52 = .ok (.lstore 7, 2) := by decide +kernel
theorem dX5_inLeastTerms_54 : decode cX5_inLeastTerms 54 = .ok (.iinc 9 1, 3) := by decide +kernel
theorem dX5_inLeastTerms_57 : decode cX5_inLeastTerms 57 = .ok (.goto (-48), 3) := by decide +kernel
theorem dX5_inLeastTerms_60 : decode cX5_inLeastTerms 60 = .ok (.iload 4, 2) := by decide +kernel
theorem dX5_inLeastTerms_62 : decode cX5_inLeastTerms 62 = .ok (.ifCond .ne 8, 3) := by decide +kernel
theorem dX5_inLeastTerms_65 : decode cX5_inLeastTerms 65 = .ok (.lload 5, 2) := by decide +kernel
theorem dX5_inLeastTerms_67 : decode cX5_inLeastTerms 67 = .ok (.goto 5, 3) := by decide +kernel
theorem dX5_inLeastTerms_70 : decode cX5_inLeastTerms 70 = .ok (.lload 7, 2) := by decide +kernel
theorem dX5_inLeastTerms_72 : decode cX5_inLeastTerms 72 = .ok (.lreturn, 1) := by decide +kernel
theorem dX5_nextSeed_0 : decode cX5_nextSeed 0 = .ok (.iload_n 0, 1) := by decide +kernel
theorem dX5_nextSeed_1 : decode cX5_nextSeed 1 = .ok (.ldc_w 326, 3) := by decide +kernel
theorem dX5_nextSeed_4 : decode cX5_nextSeed 4 = .ok (.imul, 1) := by decide +kernel
theorem dX5_nextSeed_5 : decode cX5_nextSeed 5 = .ok (.sipush 12345, 3) := by decide +kernel
theorem dX5_nextSeed_8 : decode cX5_nextSeed 8 = .ok (.iadd, 1) := by decide +kernel
theorem dX5_nextSeed_9 : decode cX5_nextSeed 9 = .ok (.ireturn, 1) := by decide +kernel
theorem dX5_drawOf_0 : decode cX5_drawOf 0 = .ok (.iload_n 0, 1) := by decide +kernel
theorem dX5_drawOf_1 : decode cX5_drawOf 1 = .ok (.ldc_w 327, 3) := by decide +kernel
theorem dX5_drawOf_4 : decode cX5_drawOf 4 = .ok (.iand, 1) := by decide +kernel
theorem dX5_drawOf_5 : decode cX5_drawOf 5 = .ok (.ldc_w 328, 3) := by decide +kernel
theorem dX5_drawOf_8 : decode cX5_drawOf 8 = .ok (.idiv, 1) := by decide +kernel
theorem dX5_drawOf_9 : decode cX5_drawOf 9 = .ok (.ireturn, 1) := by decide +kernel
theorem dX6_init_0 : decode cX6_init 0 = .ok (.aload_n 0, 1) := by decide +kernel
theorem dX6_init_1 : decode cX6_init 1 = .ok (.invokespecial 1, 3) := by decide +kernel
theorem dX6_init_4 : decode cX6_init 4 = .ok (.aload_n 0, 1) := by decide +kernel
theorem dX6_init_5 : decode cX6_init 5 = .ok (.bipush 28, 2) := by decide +kernel
theorem dX6_init_7 : decode cX6_init 7 = .ok (.newarray .long, 2) := by decide +kernel
theorem dX6_init_9 : decode cX6_init 9 = .ok (.putfield 7, 3) := by decide +kernel
theorem dX6_init_12 : decode cX6_init 12 = .ok (.aload_n 0, 1) := by decide +kernel
theorem dX6_init_13 : decode cX6_init 13 = .ok (.bipush 7, 2) := by decide +kernel
theorem dX6_init_15 : decode cX6_init 15 = .ok (.newarray .int, 2) := by decide +kernel
theorem dX6_init_17 : decode cX6_init 17 = .ok (.putfield 13, 3) := by decide +kernel
theorem dX6_init_20 : decode cX6_init 20 = .ok (.aload_n 0, 1) := by decide +kernel
theorem dX6_init_21 : decode cX6_init 21 = .ok (.bipush 84, 2) := by decide +kernel
theorem dX6_init_23 : decode cX6_init 23 = .ok (.newarray .int, 2) := by decide +kernel
theorem dX6_init_25 : decode cX6_init 25 = .ok (.putfield 17, 3) := by decide +kernel
theorem dX6_init_28 : decode cX6_init 28 = .ok (.aload_n 0, 1) := by decide +kernel
theorem dX6_init_29 : decode cX6_init 29 = .ok (.bipush 84, 2) := by decide +kernel
theorem dX6_init_31 : decode cX6_init 31 = .ok (.newarray .int, 2) := by decide +kernel
theorem dX6_init_33 : decode cX6_init 33 = .ok (.putfield 20, 3) := by decide +kernel
theorem dX6_init_36 : decode cX6_init 36 = .ok (.aload_n 0, 1) := by decide +kernel
theorem dX6_init_37 : decode cX6_init 37 = .ok (.bipush 28, 2) := by decide +kernel
theorem dX6_init_39 : decode cX6_init 39 = .ok (.newarray .long, 2) := by decide +kernel
theorem dX6_init_41 : decode cX6_init 41 = .ok (.putfield 23, 3) := by decide +kernel
theorem dX6_init_44 : decode cX6_init 44 = .ok (.aload_n 0, 1) := by decide +kernel
theorem dX6_init_45 : decode cX6_init 45 = .ok (.bipush 7, 2) := by decide +kernel
theorem dX6_init_47 : decode cX6_init 47 = .ok (.newarray .int, 2) := by decide +kernel
theorem dX6_init_49 : decode cX6_init 49 = .ok (.putfield 26, 3) := by decide +kernel
theorem dX6_init_52 : decode cX6_init 52 = .ok (.aload_n 0, 1) := by decide +kernel
theorem dX6_init_53 : decode cX6_init 53 = .ok (.bipush 84, 2) := by decide +kernel
theorem dX6_init_55 : decode cX6_init 55 = .ok (.newarray .int, 2) := by decide +kernel
theorem dX6_init_57 : decode cX6_init 57 = .ok (.putfield 29, 3) := by decide +kernel
theorem dX6_init_60 : decode cX6_init 60 = .ok (.aload_n 0, 1) := by decide +kernel
theorem dX6_init_61 : decode cX6_init 61 = .ok (.bipush 84, 2) := by decide +kernel
theorem dX6_init_63 : decode cX6_init 63 = .ok (.newarray .int, 2) := by decide +kernel
theorem dX6_init_65 : decode cX6_init 65 = .ok (.putfield 32, 3) := by decide +kernel
theorem dX6_init_68 : decode cX6_init 68 = .ok (.aload_n 0, 1) := by decide +kernel
theorem dX6_init_69 : decode cX6_init 69 = .ok (.bipush 28, 2) := by decide +kernel
theorem dX6_init_71 : decode cX6_init 71 = .ok (.newarray .long, 2) := by decide +kernel
theorem dX6_init_73 : decode cX6_init 73 = .ok (.putfield 35, 3) := by decide +kernel
theorem dX6_init_76 : decode cX6_init 76 = .ok (.aload_n 0, 1) := by decide +kernel
theorem dX6_init_77 : decode cX6_init 77 = .ok (.bipush 7, 2) := by decide +kernel
theorem dX6_init_79 : decode cX6_init 79 = .ok (.newarray .int, 2) := by decide +kernel
theorem dX6_init_81 : decode cX6_init 81 = .ok (.putfield 38, 3) := by decide +kernel
theorem dX6_init_84 : decode cX6_init 84 = .ok (.aload_n 0, 1) := by decide +kernel
theorem dX6_init_85 : decode cX6_init 85 = .ok (.bipush 84, 2) := by decide +kernel
theorem dX6_init_87 : decode cX6_init 87 = .ok (.newarray .int, 2) := by decide +kernel
theorem dX6_init_89 : decode cX6_init 89 = .ok (.putfield 41, 3) := by decide +kernel
theorem dX6_init_92 : decode cX6_init 92 = .ok (.aload_n 0, 1) := by decide +kernel
theorem dX6_init_93 : decode cX6_init 93 = .ok (.bipush 84, 2) := by decide +kernel
theorem dX6_init_95 : decode cX6_init 95 = .ok (.newarray .int, 2) := by decide +kernel
theorem dX6_init_97 : decode cX6_init 97 = .ok (.putfield 44, 3) := by decide +kernel
theorem dX6_init_100 : decode cX6_init 100 = .ok (.aload_n 0, 1) := by decide +kernel
theorem dX6_init_101 : decode cX6_init 101 = .ok (.bipush 51, 2) := by decide +kernel
theorem dX6_init_103 : decode cX6_init 103 = .ok (.newarray .int, 2) := by decide +kernel
theorem dX6_init_105 : decode cX6_init 105 = .ok (.putfield 47, 3) := by decide +kernel
theorem dX6_init_108 : decode cX6_init 108 = .ok (.aload_n 0, 1) := by decide +kernel
theorem dX6_init_109 : decode cX6_init 109 = .ok (.bipush 51, 2) := by decide +kernel
theorem dX6_init_111 : decode cX6_init 111 = .ok (.newarray .int, 2) := by decide +kernel
theorem dX6_init_113 : decode cX6_init 113 = .ok (.putfield 50, 3) := by decide +kernel
theorem dX6_init_116 : decode cX6_init 116 = .ok (.aload_n 0, 1) := by decide +kernel
theorem dX6_init_117 : decode cX6_init 117 = .ok (.sipush 153, 3) := by decide +kernel
theorem dX6_init_120 : decode cX6_init 120 = .ok (.newarray .int, 2) := by decide +kernel
theorem dX6_init_122 : decode cX6_init 122 = .ok (.putfield 53, 3) := by decide +kernel
theorem dX6_init_125 : decode cX6_init 125 = .ok (.aload_n 0, 1) := by decide +kernel
theorem dX6_init_126 : decode cX6_init 126 = .ok (.bipush 8, 2) := by decide +kernel
theorem dX6_init_128 : decode cX6_init 128 = .ok (.newarray .int, 2) := by decide +kernel
theorem dX6_init_130 : decode cX6_init 130 = .ok (.putfield 56, 3) := by decide +kernel
theorem dX6_init_133 : decode cX6_init 133 = .ok (.aload_n 0, 1) := by decide +kernel
theorem dX6_init_134 : decode cX6_init 134 = .ok (.bipush 8, 2) := by decide +kernel
theorem dX6_init_136 : decode cX6_init 136 = .ok (.newarray .int, 2) := by decide +kernel
theorem dX6_init_138 : decode cX6_init 138 = .ok (.putfield 59, 3) := by decide +kernel
theorem dX6_init_141 : decode cX6_init 141 = .ok (.aload_n 0, 1) := by decide +kernel
theorem dX6_init_142 : decode cX6_init 142 = .ok (.bipush 8, 2) := by decide +kernel
theorem dX6_init_144 : decode cX6_init 144 = .ok (.newarray .int, 2) := by decide +kernel
theorem dX6_init_146 : decode cX6_init 146 = .ok (.putfield 62, 3) := by decide +kernel
theorem dX6_init_149 : decode cX6_init 149 = .ok (.aload_n 0, 1) := by decide +kernel
theorem dX6_init_150 : decode cX6_init 150 = .ok (.bipush 8, 2) := by decide +kernel
theorem dX6_init_152 : decode cX6_init 152 = .ok (.newarray .int, 2) := by decide +kernel
theorem dX6_init_154 : decode cX6_init 154 = .ok (.putfield 65, 3) := by decide +kernel
theorem dX6_init_157 : decode cX6_init 157 = .ok (.aload_n 0, 1) := by decide +kernel
theorem dX6_init_158 : decode cX6_init 158 = .ok (.bipush 8, 2) := by decide +kernel
theorem dX6_init_160 : decode cX6_init 160 = .ok (.newarray .int, 2) := by decide +kernel
theorem dX6_init_162 : decode cX6_init 162 = .ok (.putfield 68, 3) := by decide +kernel
theorem dX6_init_165 : decode cX6_init 165 = .ok (.aload_n 0, 1) := by decide +kernel
theorem dX6_init_166 : decode cX6_init 166 = .ok (.sipush 800, 3) := by decide +kernel
theorem dX6_init_169 : decode cX6_init 169 = .ok (.newarray .long, 2) := by decide +kernel
theorem dX6_init_171 : decode cX6_init 171 = .ok (.putfield 71, 3) := by decide +kernel
theorem dX6_init_174 : decode cX6_init 174 = .ok (.aload_n 0, 1) := by decide +kernel
theorem dX6_init_175 : decode cX6_init 175 = .ok (.bipush 100, 2) := by decide +kernel
theorem dX6_init_177 : decode cX6_init 177 = .ok (.newarray .long, 2) := by decide +kernel
theorem dX6_init_179 : decode cX6_init 179 = .ok (.putfield 74, 3) := by decide +kernel
theorem dX6_init_182 : decode cX6_init 182 = .ok (.aload_n 0, 1) := by decide +kernel
theorem dX6_init_183 : decode cX6_init 183 = .ok (.iconst 0, 1) := by decide +kernel
theorem dX6_init_184 : decode cX6_init 184 = .ok (.putfield 77, 3) := by decide +kernel
theorem dX6_init_187 : decode cX6_init 187 = .ok (.return_, 1) := by decide +kernel
theorem dX6_thrown_0 : decode cX6_thrown 0 = .ok (.aload_n 0, 1) := by decide +kernel
theorem dX6_thrown_1 : decode cX6_thrown 1 = .ok (.getfield 77, 3) := by decide +kernel
theorem dX6_thrown_4 : decode cX6_thrown 4 = .ok (.ireturn, 1) := by decide +kernel
theorem dX6_in_0 : decode cX6_in 0 = .ok (.lload_n 0, 1) := by decide +kernel
theorem dX6_in_1 : decode cX6_in 1 = .ok (.lload_n 2, 1) := by decide +kernel
theorem dX6_in_2 : decode cX6_in 2 = .ok (.lcmp, 1) := by decide +kernel
theorem dX6_in_3 : decode cX6_in 3 = .ok (.ifCond .lt 14, 3) := by decide +kernel
theorem dX6_in_6 : decode cX6_in 6 = .ok (.lload_n 0, 1) := by decide +kernel
theorem dX6_in_7 : decode cX6_in 7 = .ok (.lload 4, 2) := by decide +kernel
theorem dX6_in_9 : decode cX6_in 9 = .ok (.lcmp, 1) := by decide +kernel
theorem dX6_in_10 : decode cX6_in 10 = .ok (.ifCond .gt 7, 3) := by decide +kernel
theorem dX6_in_13 : decode cX6_in 13 = .ok (.iconst 1, 1) := by decide +kernel
theorem dX6_in_14 : decode cX6_in 14 = .ok (.goto 4, 3) := by decide +kernel
theorem dX6_in_17 : decode cX6_in 17 = .ok (.iconst 0, 1) := by decide +kernel
theorem dX6_in_18 : decode cX6_in 18 = .ok (.ireturn, 1) := by decide +kernel
theorem dX6_isPot_0 : decode cX6_isPot 0 = .ok (.iload_n 1, 1) := by decide +kernel
theorem dX6_isPot_1 : decode cX6_isPot 1 = .ok (.i2l, 1) := by decide +kernel
theorem dX6_isPot_2 : decode cX6_isPot 2 = .ok (.lconst 0, 1) := by decide +kernel
theorem dX6_isPot_3 : decode cX6_isPot 3 = .ok (.aload_n 0, 1) := by decide +kernel
theorem dX6_isPot_4 : decode cX6_isPot 4 = .ok (.getfield 81, 3) := by decide +kernel
theorem dX6_isPot_7 : decode cX6_isPot 7 = .ok (.iconst 1, 1) := by decide +kernel
theorem dX6_isPot_8 : decode cX6_isPot 8 = .ok (.isub, 1) := by decide +kernel
theorem dX6_isPot_9 : decode cX6_isPot 9 = .ok (.i2l, 1) := by decide +kernel
theorem dX6_isPot_10 : decode cX6_isPot 10 = .ok (.invokestatic 84, 3) := by decide +kernel
theorem dX6_isPot_13 : decode cX6_isPot 13 = .ok (.ireturn, 1) := by decide +kernel
theorem dX6_ownOf_0 : decode cX6_ownOf 0 = .ok (.iload_n 2, 1) := by decide +kernel
theorem dX6_ownOf_1 : decode cX6_ownOf 1 = .ok (.iload_n 1, 1) := by decide +kernel
theorem dX6_ownOf_2 : decode cX6_ownOf 2 = .ok (.iconst 4, 1) := by decide +kernel
theorem dX6_ownOf_3 : decode cX6_ownOf 3 = .ok (.irem, 1) := by decide +kernel
theorem dX6_ownOf_4 : decode cX6_ownOf 4 = .ok (.if_icmp .ne 9, 3) := by decide +kernel
theorem dX6_ownOf_7 : decode cX6_ownOf 7 = .ok (.iload_n 1, 1) := by decide +kernel
theorem dX6_ownOf_8 : decode cX6_ownOf 8 = .ok (.iconst 1, 1) := by decide +kernel
theorem dX6_ownOf_9 : decode cX6_ownOf 9 = .ok (.iadd, 1) := by decide +kernel
theorem dX6_ownOf_10 : decode cX6_ownOf 10 = .ok (.goto 4, 3) := by decide +kernel
theorem dX6_ownOf_13 : decode cX6_ownOf 13 = .ok (.iconst 0, 1) := by decide +kernel
theorem dX6_ownOf_14 : decode cX6_ownOf 14 = .ok (.istore_n 3, 1) := by decide +kernel
theorem dX6_ownOf_15 : decode cX6_ownOf 15 = .ok (.iload_n 0, 1) := by decide +kernel
theorem dX6_ownOf_16 : decode cX6_ownOf 16 = .ok (.tableswitch 101 1 6 #[40, 44, 48, 61, 63, 78], 40) := by decide +kernel
theorem dX6_ownOf_56 : decode cX6_ownOf 56 = .ok (.iload_n 3, 1) := by decide +kernel
theorem dX6_ownOf_57 : decode cX6_ownOf 57 = .ok (.iconst 1, 1) := by decide +kernel
theorem dX6_ownOf_58 : decode cX6_ownOf 58 = .ok (.iadd, 1) := by decide +kernel
theorem dX6_ownOf_59 : decode cX6_ownOf 59 = .ok (.ireturn, 1) := by decide +kernel
theorem dX6_ownOf_60 : decode cX6_ownOf 60 = .ok (.iconst 2, 1) := by decide +kernel
theorem dX6_ownOf_61 : decode cX6_ownOf 61 = .ok (.iload_n 3, 1) := by decide +kernel
theorem dX6_ownOf_62 : decode cX6_ownOf 62 = .ok (.imul, 1) := by decide +kernel
theorem dX6_ownOf_63 : decode cX6_ownOf 63 = .ok (.ireturn, 1) := by decide +kernel
theorem dX6_ownOf_64 : decode cX6_ownOf 64 = .ok (.iload_n 2, 1) := by decide +kernel
theorem dX6_ownOf_65 : decode cX6_ownOf 65 = .ok (.iconst 2, 1) := by decide +kernel
theorem dX6_ownOf_66 : decode cX6_ownOf 66 = .ok (.if_icmp .ne 9, 3) := by decide +kernel
theorem dX6_ownOf_69 : decode cX6_ownOf 69 = .ok (.iload_n 3, 1) := by decide +kernel
theorem dX6_ownOf_70 : decode cX6_ownOf 70 = .ok (.iconst 3, 1) := by decide +kernel
theorem dX6_ownOf_71 : decode cX6_ownOf 71 = .ok (.iadd, 1) := by decide +kernel
theorem dX6_ownOf_72 : decode cX6_ownOf 72 = .ok (.goto 4, 3) := by decide +kernel
theorem dX6_ownOf_75 : decode cX6_ownOf 75 = .ok (.iload_n 3, 1) := by decide +kernel
theorem dX6_ownOf_76 : decode cX6_ownOf 76 = .ok (.ireturn, 1) := by decide +kernel
theorem dX6_ownOf_77 : decode cX6_ownOf 77 = .ok (.iconst 0, 1) := by decide +kernel
theorem dX6_ownOf_78 : decode cX6_ownOf 78 = .ok (.ireturn, 1) := by decide +kernel
theorem dX6_ownOf_79 : decode cX6_ownOf 79 = .ok (.iload_n 2, 1) := by decide +kernel
theorem dX6_ownOf_80 : decode cX6_ownOf 80 = .ok (.iconst 3, 1) := by decide +kernel
theorem dX6_ownOf_81 : decode cX6_ownOf 81 = .ok (.if_icmp .ne 9, 3) := by decide +kernel
theorem dX6_ownOf_84 : decode cX6_ownOf 84 = .ok (.iload_n 3, 1) := by decide +kernel
theorem dX6_ownOf_85 : decode cX6_ownOf 85 = .ok (.iconst 3, 1) := by decide +kernel
theorem dX6_ownOf_86 : decode cX6_ownOf 86 = .ok (.iadd, 1) := by decide +kernel
theorem dX6_ownOf_87 : decode cX6_ownOf 87 = .ok (.goto 6, 3) := by decide +kernel
theorem dX6_ownOf_90 : decode cX6_ownOf 90 = .ok (.iload_n 3, 1) := by decide +kernel
theorem dX6_ownOf_91 : decode cX6_ownOf 91 = .ok (.iconst 1, 1) := by decide +kernel
theorem dX6_ownOf_92 : decode cX6_ownOf 92 = .ok (.iadd, 1) := by decide +kernel
theorem dX6_ownOf_93 : decode cX6_ownOf 93 = .ok (.ireturn, 1) := by decide +kernel
theorem dX6_ownOf_94 : decode cX6_ownOf 94 = .ok (.iload_n 3, 1) := by decide +kernel
theorem dX6_ownOf_95 : decode cX6_ownOf 95 = .ok (.iload_n 2, 1) := by decide +kernel
theorem dX6_ownOf_96 : decode cX6_ownOf 96 = .ok (.iconst 2, 1) := by decide +kernel
theorem dX6_ownOf_97 : decode cX6_ownOf 97 = .ok (.if_icmp .ne 7, 3) := by decide +kernel
theorem dX6_ownOf_100 : decode cX6_ownOf 100 = .ok (.iconst 3, 1) := by decide +kernel
theorem dX6_ownOf_101 : decode cX6_ownOf 101 = .ok (.goto 4, 3) := by decide +kernel
theorem dX6_ownOf_104 : decode cX6_ownOf 104 = .ok (.iconst 0, 1) := by decide +kernel
theorem dX6_ownOf_105 : decode cX6_ownOf 105 = .ok (.iadd, 1) := by decide +kernel
theorem dX6_ownOf_106 : decode cX6_ownOf 106 = .ok (.iload_n 2, 1) := by decide +kernel
theorem dX6_ownOf_107 : decode cX6_ownOf 107 = .ok (.ifCond .ne 7, 3) := by decide +kernel
theorem dX6_ownOf_110 : decode cX6_ownOf 110 = .ok (.iconst 5, 1) := by decide +kernel
theorem dX6_ownOf_111 : decode cX6_ownOf 111 = .ok (.goto 4, 3) := by decide +kernel
theorem dX6_ownOf_114 : decode cX6_ownOf 114 = .ok (.iconst 0, 1) := by decide +kernel
theorem dX6_ownOf_115 : decode cX6_ownOf 115 = .ok (.iadd, 1) := by decide +kernel
theorem dX6_ownOf_116 : decode cX6_ownOf 116 = .ok (.ireturn, 1) := by decide +kernel
theorem dX6_ownOf_117 : decode cX6_ownOf 117 = .ok (.iload_n 3, 1) := by decide +kernel
theorem dX6_ownOf_118 : decode cX6_ownOf 118 = .ok (.ireturn, 1) := by decide +kernel
theorem dX6_keepsOf_0 : decode cX6_keepsOf 0 = .ok (.iload_n 0, 1) := by decide +kernel
theorem dX6_keepsOf_1 : decode cX6_keepsOf 1 = .ok (.tableswitch 48 2 7 #[39, 42, 44, 46, 42, 39], 39) := by decide +kernel
theorem dX6_keepsOf_40 : decode cX6_keepsOf 40 = .ok (.bipush 6, 2) := by decide +kernel
theorem dX6_keepsOf_42 : decode cX6_keepsOf 42 = .ok (.ireturn, 1) := by decide +kernel
theorem dX6_keepsOf_43 : decode cX6_keepsOf 43 = .ok (.iconst 2, 1) := by decide +kernel
theorem dX6_keepsOf_44 : decode cX6_keepsOf 44 = .ok (.ireturn, 1) := by decide +kernel
theorem dX6_keepsOf_45 : decode cX6_keepsOf 45 = .ok (.iconst 0, 1) := by decide +kernel
theorem dX6_keepsOf_46 : decode cX6_keepsOf 46 = .ok (.ireturn, 1) := by decide +kernel
theorem dX6_keepsOf_47 : decode cX6_keepsOf 47 = .ok (.iconst 4, 1) := by decide +kernel
theorem dX6_keepsOf_48 : decode cX6_keepsOf 48 = .ok (.ireturn, 1) := by decide +kernel
theorem dX6_keepsOf_49 : decode cX6_keepsOf 49 = .ok (.iconst 3, 1) := by decide +kernel
theorem dX6_keepsOf_50 : decode cX6_keepsOf 50 = .ok (.ireturn, 1) := by decide +kernel
theorem dX6_priceOf_0 : decode cX6_priceOf 0 = .ok (.iload_n 0, 1) := by decide +kernel
theorem dX6_priceOf_1 : decode cX6_priceOf 1 = .ok (.tableswitch 68 0 6 #[43, 45, 49, 52, 55, 57, 61], 43) := by decide +kernel
theorem dX6_priceOf_44 : decode cX6_priceOf 44 = .ok (.iconst 3, 1) := by decide +kernel
theorem dX6_priceOf_45 : decode cX6_priceOf 45 = .ok (.ireturn, 1) := by decide +kernel
theorem dX6_priceOf_46 : decode cX6_priceOf 46 = .ok (.iconst 3, 1) := by decide +kernel
theorem dX6_priceOf_47 : decode cX6_priceOf 47 = .ok (.iload_n 1, 1) := by decide +kernel
theorem dX6_priceOf_48 : decode cX6_priceOf 48 = .ok (.iadd, 1) := by decide +kernel
theorem dX6_priceOf_49 : decode cX6_priceOf 49 = .ok (.ireturn, 1) := by decide +kernel
theorem dX6_priceOf_50 : decode cX6_priceOf 50 = .ok (.bipush 6, 2) := by decide +kernel
theorem dX6_priceOf_52 : decode cX6_priceOf 52 = .ok (.ireturn, 1) := by decide +kernel
theorem dX6_priceOf_53 : decode cX6_priceOf 53 = .ok (.bipush 7, 2) := by decide +kernel
theorem dX6_priceOf_55 : decode cX6_priceOf 55 = .ok (.ireturn, 1) := by decide +kernel
theorem dX6_priceOf_56 : decode cX6_priceOf 56 = .ok (.iconst 1, 1) := by decide +kernel
theorem dX6_priceOf_57 : decode cX6_priceOf 57 = .ok (.ireturn, 1) := by decide +kernel
theorem dX6_priceOf_58 : decode cX6_priceOf 58 = .ok (.iconst 5, 1) := by decide +kernel
theorem dX6_priceOf_59 : decode cX6_priceOf 59 = .ok (.iload_n 1, 1) := by decide +kernel
theorem dX6_priceOf_60 : decode cX6_priceOf 60 = .ok (.iadd, 1) := by decide +kernel
theorem dX6_priceOf_61 : decode cX6_priceOf 61 = .ok (.ireturn, 1) := by decide +kernel
theorem dX6_priceOf_62 : decode cX6_priceOf 62 = .ok (.bipush 7, 2) := by decide +kernel
theorem dX6_priceOf_64 : decode cX6_priceOf 64 = .ok (.iload_n 1, 1) := by decide +kernel
theorem dX6_priceOf_65 : decode cX6_priceOf 65 = .ok (.iconst 1, 1) := by decide +kernel
theorem dX6_priceOf_66 : decode cX6_priceOf 66 = .ok (.iadd, 1) := by decide +kernel
theorem dX6_priceOf_67 : decode cX6_priceOf 67 = .ok (.imul, 1) := by decide +kernel
theorem dX6_priceOf_68 : decode cX6_priceOf 68 = .ok (.ireturn, 1) := by decide +kernel
theorem dX6_priceOf_69 : decode cX6_priceOf 69 = .ok (.iconst 2, 1) := by decide +kernel
theorem dX6_priceOf_70 : decode cX6_priceOf 70 = .ok (.iload_n 1, 1) := by decide +kernel
theorem dX6_priceOf_71 : decode cX6_priceOf 71 = .ok (.iadd, 1) := by decide +kernel
theorem dX6_priceOf_72 : decode cX6_priceOf 72 = .ok (.ireturn, 1) := by decide +kernel
theorem dX6_nine_0 : decode cX6_nine 0 = .ok (.lconst 1, 1) := by decide +kernel
theorem dX6_nine_1 : decode cX6_nine 1 = .ok (.lstore_n 1, 1) := by decide +kernel
theorem dX6_nine_2 : decode cX6_nine 2 = .ok (.iconst 0, 1) := by decide +kernel
theorem dX6_nine_3 : decode cX6_nine 3 = .ok (.istore_n 3, 1) := by decide +kernel
theorem dX6_nine_4 : decode cX6_nine 4 = .ok (.iload_n 3, 1) := by decide +kernel
theorem dX6_nine_5 : decode cX6_nine 5 = .ok (.iload_n 0, 1) := by decide +kernel
theorem dX6_nine_6 : decode cX6_nine 6 = .ok (.if_icmp .ge 15, 3) := by decide +kernel
theorem dX6_nine_9 : decode cX6_nine 9 = .ok (.lload_n 1, 1) := by decide +kernel
theorem dX6_nine_10 : decode cX6_nine 10 = .ok (.ldc2_w 88, 3) := by decide +kernel
theorem dX6_nine_13 : decode cX6_nine 13 = .ok (.lmul, 1) := by decide +kernel
theorem dX6_nine_14 : decode cX6_nine 14 = .ok (.lstore_n 1, 1) := by decide +kernel
theorem dX6_nine_15 : decode cX6_nine 15 = .ok (.iinc 3 1, 3) := by decide +kernel
theorem dX6_nine_18 : decode cX6_nine 18 = .ok (.goto (-14), 3) := by decide +kernel
theorem dX6_nine_21 : decode cX6_nine 21 = .ok (.lload_n 1, 1) := by decide +kernel
theorem dX6_nine_22 : decode cX6_nine 22 = .ok (.lreturn, 1) := by decide +kernel
theorem dX6_becomes_0 : decode cX6_becomes 0 = .ok (.aload_n 0, 1) := by decide +kernel
theorem dX6_becomes_1 : decode cX6_becomes 1 = .ok (.getfield 13, 3) := by decide +kernel
theorem dX6_becomes_4 : decode cX6_becomes 4 = .ok (.iload_n 1, 1) := by decide +kernel
theorem dX6_becomes_5 : decode cX6_becomes 5 = .ok (.iaload, 1) := by decide +kernel
theorem dX6_becomes_6 : decode cX6_becomes 6 = .ok (.istore 4, 2) := by decide +kernel
theorem dX6_becomes_8 : decode cX6_becomes 8 = .ok (.iload 4, 2) := by decide +kernel
theorem dX6_becomes_10 : decode cX6_becomes 10 = .ok (.iconst 1, 1) := by decide +kernel
theorem dX6_becomes_11 : decode cX6_becomes 11 = .ok (.iadd, 1) := by decide +kernel
theorem dX6_becomes_12 : decode cX6_becomes 12 = .ok (.invokestatic 90, 3) := by decide +kernel
theorem dX6_becomes_15 : decode cX6_becomes 15 = .ok (.lstore 5, 2) := by decide +kernel
theorem dX6_becomes_17 : decode cX6_becomes 17 = .ok (.iconst 0, 1) := by decide +kernel
theorem dX6_becomes_18 : decode cX6_becomes 18 = .ok (.istore 7, 2) := by decide +kernel
theorem dX6_becomes_20 : decode cX6_becomes 20 = .ok (.iload 7, 2) := by decide +kernel
theorem dX6_becomes_22 : decode cX6_becomes 22 = .ok (.iconst 4, 1) := by decide +kernel
theorem dX6_becomes_23 : decode cX6_becomes 23 = .ok (.if_icmp .ge 49, 3) := by decide +kernel
theorem dX6_becomes_26 : decode cX6_becomes 26 = .ok (.aload_n 0, 1) := by decide +kernel
theorem dX6_becomes_27 : decode cX6_becomes 27 = .ok (.getfield 7, 3) := by decide +kernel
theorem dX6_becomes_30 : decode cX6_becomes 30 = .ok (.iconst 4, 1) := by decide +kernel
theorem dX6_becomes_31 : decode cX6_becomes 31 = .ok (.iload_n 1, 1) := by decide +kernel
theorem dX6_becomes_32 : decode cX6_becomes 32 = .ok (.imul, 1) := by decide +kernel
theorem dX6_becomes_33 : decode cX6_becomes 33 = .ok (.iload 7, 2) := by decide +kernel
theorem dX6_becomes_35 : decode cX6_becomes 35 = .ok (.iadd, 1) := by decide +kernel
theorem dX6_becomes_36 : decode cX6_becomes 36 = .ok (.iload_n 2, 1) := by decide +kernel
theorem dX6_becomes_37 : decode cX6_becomes 37 = .ok (.iload_n 3, 1) := by decide +kernel
theorem dX6_becomes_38 : decode cX6_becomes 38 = .ok (.iload 7, 2) := by decide +kernel
theorem dX6_becomes_40 : decode cX6_becomes 40 = .ok (.invokestatic 94, 3) := by decide +kernel
theorem dX6_becomes_43 : decode cX6_becomes 43 = .ok (.i2l, 1) := by decide +kernel
theorem dX6_becomes_44 : decode cX6_becomes 44 = .ok (.lload 5, 2) := by decide +kernel
theorem dX6_becomes_46 : decode cX6_becomes 46 = .ok (.lmul, 1) := by decide +kernel
theorem dX6_becomes_47 : decode cX6_becomes 47 = .ok (.iload_n 2, 1) := by decide +kernel
theorem dX6_becomes_48 : decode cX6_becomes 48 = .ok (.invokestatic 98, 3) := by decide +kernel
theorem dX6_becomes_51 : decode cX6_becomes 51 = .ok (.i2l, 1) := by decide +kernel
theorem dX6_becomes_52 : decode cX6_becomes 52 = .ok (.aload_n 0, 1) := by decide +kernel
theorem dX6_becomes_53 : decode cX6_becomes 53 = .ok (.getfield 7, 3) := by decide +kernel
theorem dX6_becomes_56 : decode cX6_becomes 56 = .ok (.iconst 4, 1) := by decide +kernel
theorem dX6_becomes_57 : decode cX6_becomes 57 = .ok (.iload_n 1, 1) := by decide +kernel
theorem dX6_becomes_58 : decode cX6_becomes 58 = .ok (.imul, 1) := by decide +kernel
theorem dX6_becomes_59 : decode cX6_becomes 59 = .ok (.iload 7, 2) := by decide +kernel
theorem dX6_becomes_61 : decode cX6_becomes 61 = .ok (.iadd, 1) := by decide +kernel
theorem dX6_becomes_62 : decode cX6_becomes 62 = .ok (.laload, 1) := by decide +kernel
theorem dX6_becomes_63 : decode cX6_becomes 63 = .ok (.lmul, 1) := by decide +kernel
theorem dX6_becomes_64 : decode cX6_becomes 64 = .ok (.ladd, 1) := by decide +kernel
theorem dX6_becomes_65 : decode cX6_becomes 65 = .ok (.lastore, 1) := by decide +kernel
theorem dX6_becomes_66 : decode cX6_becomes 66 = .ok (.iinc 7 1, 3) := by decide +kernel
theorem dX6_becomes_69 : decode cX6_becomes 69 = .ok (.goto (-49), 3) := by decide +kernel
theorem dX6_becomes_72 : decode cX6_becomes 72 = .ok (.iload 4, 2) := by decide +kernel
theorem dX6_becomes_74 : decode cX6_becomes 74 = .ok (.bipush 12, 2) := by decide +kernel
theorem dX6_becomes_76 : decode cX6_becomes 76 = .ok (.if_icmp .ge 29, 3) := by decide +kernel
theorem dX6_becomes_79 : decode cX6_becomes 79 = .ok (.aload_n 0, 1) := by decide +kernel
theorem dX6_becomes_80 : decode cX6_becomes 80 = .ok (.getfield 17, 3) := by decide +kernel
theorem dX6_becomes_83 : decode cX6_becomes 83 = .ok (.bipush 12, 2) := by decide +kernel
theorem dX6_becomes_85 : decode cX6_becomes 85 = .ok (.iload_n 1, 1) := by decide +kernel
theorem dX6_becomes_86 : decode cX6_becomes 86 = .ok (.imul, 1) := by decide +kernel
theorem dX6_becomes_87 : decode cX6_becomes 87 = .ok (.iload 4, 2) := by decide +kernel
theorem dX6_becomes_89 : decode cX6_becomes 89 = .ok (.iadd, 1) := by decide +kernel
theorem dX6_becomes_90 : decode cX6_becomes 90 = .ok (.iload_n 2, 1) := by decide +kernel
theorem dX6_becomes_91 : decode cX6_becomes 91 = .ok (.iastore, 1) := by decide +kernel
theorem dX6_becomes_92 : decode cX6_becomes 92 = .ok (.aload_n 0, 1) := by decide +kernel
theorem dX6_becomes_93 : decode cX6_becomes 93 = .ok (.getfield 20, 3) := by decide +kernel
theorem dX6_becomes_96 : decode cX6_becomes 96 = .ok (.bipush 12, 2) := by decide +kernel
theorem dX6_becomes_98 : decode cX6_becomes 98 = .ok (.iload_n 1, 1) := by decide +kernel
theorem dX6_becomes_99 : decode cX6_becomes 99 = .ok (.imul, 1) := by decide +kernel
theorem dX6_becomes_100 : decode cX6_becomes 100 = .ok (.iload 4, 2) := by decide +kernel
theorem dX6_becomes_102 : decode cX6_becomes 102 = .ok (.iadd, 1) := by decide +kernel
theorem dX6_becomes_103 : decode cX6_becomes 103 = .ok (.iload_n 3, 1) := by decide +kernel
theorem dX6_becomes_104 : decode cX6_becomes 104 = .ok (.iastore, 1) := by decide +kernel
theorem dX6_becomes_105 : decode cX6_becomes 105 = .ok (.aload_n 0, 1) := by decide +kernel
theorem dX6_becomes_106 : decode cX6_becomes 106 = .ok (.getfield 13, 3) := by decide +kernel
theorem dX6_becomes_109 : decode cX6_becomes 109 = .ok (.iload_n 1, 1) := by decide +kernel
theorem dX6_becomes_110 : decode cX6_becomes 110 = .ok (.iload 4, 2) := by decide +kernel
theorem dX6_becomes_112 : decode cX6_becomes 112 = .ok (.iconst 1, 1) := by decide +kernel
theorem dX6_becomes_113 : decode cX6_becomes 113 = .ok (.iadd, 1) := by decide +kernel
theorem dX6_becomes_114 : decode cX6_becomes 114 = .ok (.iastore, 1) := by decide +kernel
theorem dX6_becomes_115 : decode cX6_becomes 115 = .ok (.return_, 1) := by decide +kernel
theorem dX6_cooks_0 : decode cX6_cooks 0 = .ok (.aload_n 0, 1) := by decide +kernel
theorem dX6_cooks_1 : decode cX6_cooks 1 = .ok (.getfield 13, 3) := by decide +kernel
theorem dX6_cooks_4 : decode cX6_cooks 4 = .ok (.iload_n 1, 1) := by decide +kernel
theorem dX6_cooks_5 : decode cX6_cooks 5 = .ok (.iaload, 1) := by decide +kernel
theorem dX6_cooks_6 : decode cX6_cooks 6 = .ok (.bipush 12, 2) := by decide +kernel
theorem dX6_cooks_8 : decode cX6_cooks 8 = .ok (.if_icmp .ge 7, 3) := by decide +kernel
theorem dX6_cooks_11 : decode cX6_cooks 11 = .ok (.iconst 1, 1) := by decide +kernel
theorem dX6_cooks_12 : decode cX6_cooks 12 = .ok (.goto 4, 3) := by decide +kernel
theorem dX6_cooks_15 : decode cX6_cooks 15 = .ok (.iconst 0, 1) := by decide +kernel
theorem dX6_cooks_16 : decode cX6_cooks 16 = .ok (.istore 4, 2) := by decide +kernel
theorem dX6_cooks_18 : decode cX6_cooks 18 = .ok (.iload 4, 2) := by decide +kernel
theorem dX6_cooks_20 : decode cX6_cooks 20 = .ok (.ifCond .eq 10, 3) := by decide +kernel
theorem dX6_cooks_23 : decode cX6_cooks 23 = .ok (.aload_n 0, 1) := by decide +kernel
theorem dX6_cooks_24 : decode cX6_cooks 24 = .ok (.iload_n 1, 1) := by decide +kernel
theorem dX6_cooks_25 : decode cX6_cooks 25 = .ok (.iload_n 2, 1) := by decide +kernel
theorem dX6_cooks_26 : decode cX6_cooks 26 = .ok (.iload_n 3, 1) := by decide +kernel
theorem dX6_cooks_27 : decode cX6_cooks 27 = .ok (.invokevirtual 102, 3) := by decide +kernel
theorem dX6_cooks_30 : decode cX6_cooks 30 = .ok (.iload 4, 2) := by decide +kernel
theorem dX6_cooks_32 : decode cX6_cooks 32 = .ok (.ireturn, 1) := by decide +kernel
theorem dX6_empty_0 : decode cX6_empty 0 = .ok (.aload_n 0, 1) := by decide +kernel
theorem dX6_empty_1 : decode cX6_empty 1 = .ok (.getfield 13, 3) := by decide +kernel
theorem dX6_empty_4 : decode cX6_empty 4 = .ok (.iload_n 1, 1) := by decide +kernel
theorem dX6_empty_5 : decode cX6_empty 5 = .ok (.iconst 0, 1) := by decide +kernel
theorem dX6_empty_6 : decode cX6_empty 6 = .ok (.iastore, 1) := by decide +kernel
theorem dX6_empty_7 : decode cX6_empty 7 = .ok (.iconst 0, 1) := by decide +kernel
theorem dX6_empty_8 : decode cX6_empty 8 = .ok (.istore_n 2, 1) := by decide +kernel
theorem dX6_empty_9 : decode cX6_empty 9 = .ok (.iload_n 2, 1) := by decide +kernel
theorem dX6_empty_10 : decode cX6_empty 10 = .ok (.iconst 4, 1) := by decide +kernel
theorem dX6_empty_11 : decode cX6_empty 11 = .ok (.if_icmp .ge 20, 3) := by decide +kernel
theorem dX6_empty_14 : decode cX6_empty 14 = .ok (.aload_n 0, 1) := by decide +kernel
theorem dX6_empty_15 : decode cX6_empty 15 = .ok (.getfield 7, 3) := by decide +kernel
theorem dX6_empty_18 : decode cX6_empty 18 = .ok (.iconst 4, 1) := by decide +kernel
theorem dX6_empty_19 : decode cX6_empty 19 = .ok (.iload_n 1, 1) := by decide +kernel
theorem dX6_empty_20 : decode cX6_empty 20 = .ok (.imul, 1) := by decide +kernel
theorem dX6_empty_21 : decode cX6_empty 21 = .ok (.iload_n 2, 1) := by decide +kernel
theorem dX6_empty_22 : decode cX6_empty 22 = .ok (.iadd, 1) := by decide +kernel
theorem dX6_empty_23 : decode cX6_empty 23 = .ok (.lconst 0, 1) := by decide +kernel
theorem dX6_empty_24 : decode cX6_empty 24 = .ok (.lastore, 1) := by decide +kernel
theorem dX6_empty_25 : decode cX6_empty 25 = .ok (.iinc 2 1, 3) := by decide +kernel
theorem dX6_empty_28 : decode cX6_empty 28 = .ok (.goto (-19), 3) := by decide +kernel
theorem dX6_empty_31 : decode cX6_empty 31 = .ok (.return_, 1) := by decide +kernel
theorem dX6_same_0 : decode cX6_same 0 = .ok (.aload_n 0, 1) := by decide +kernel
theorem dX6_same_1 : decode cX6_same 1 = .ok (.getfield 13, 3) := by decide +kernel
theorem dX6_same_4 : decode cX6_same 4 = .ok (.iload_n 2, 1) := by decide +kernel
theorem dX6_same_5 : decode cX6_same 5 = .ok (.aload_n 0, 1) := by decide +kernel
theorem dX6_same_6 : decode cX6_same 6 = .ok (.getfield 13, 3) := by decide +kernel
theorem dX6_same_9 : decode cX6_same 9 = .ok (.iload_n 1, 1) := by decide +kernel
theorem dX6_same_10 : decode cX6_same 10 = .ok (.iaload, 1) := by decide +kernel
theorem dX6_same_11 : decode cX6_same 11 = .ok (.iastore, 1) := by decide +kernel
theorem dX6_same_12 : decode cX6_same 12 = .ok (.iconst 0, 1) := by decide +kernel
theorem dX6_same_13 : decode cX6_same 13 = .ok (.istore_n 3, 1) := by decide +kernel
theorem dX6_same_14 : decode cX6_same 14 = .ok (.iload_n 3, 1) := by decide +kernel
theorem dX6_same_15 : decode cX6_same 15 = .ok (.iconst 4, 1) := by decide +kernel
theorem dX6_same_16 : decode cX6_same 16 = .ok (.if_icmp .ge 29, 3) := by decide +kernel
theorem dX6_same_19 : decode cX6_same 19 = .ok (.aload_n 0, 1) := by decide +kernel
theorem dX6_same_20 : decode cX6_same 20 = .ok (.getfield 7, 3) := by decide +kernel
theorem dX6_same_23 : decode cX6_same 23 = .ok (.iconst 4, 1) := by decide +kernel
theorem dX6_same_24 : decode cX6_same 24 = .ok (.iload_n 2, 1) := by decide +kernel
theorem dX6_same_25 : decode cX6_same 25 = .ok (.imul, 1) := by decide +kernel
theorem dX6_same_26 : decode cX6_same 26 = .ok (.iload_n 3, 1) := by decide +kernel
theorem dX6_same_27 : decode cX6_same 27 = .ok (.iadd, 1) := by decide +kernel
theorem dX6_same_28 : decode cX6_same 28 = .ok (.aload_n 0, 1) := by decide +kernel
theorem dX6_same_29 : decode cX6_same 29 = .ok (.getfield 7, 3) := by decide +kernel
theorem dX6_same_32 : decode cX6_same 32 = .ok (.iconst 4, 1) := by decide +kernel
theorem dX6_same_33 : decode cX6_same 33 = .ok (.iload_n 1, 1) := by decide +kernel
theorem dX6_same_34 : decode cX6_same 34 = .ok (.imul, 1) := by decide +kernel
theorem dX6_same_35 : decode cX6_same 35 = .ok (.iload_n 3, 1) := by decide +kernel
theorem dX6_same_36 : decode cX6_same 36 = .ok (.iadd, 1) := by decide +kernel
theorem dX6_same_37 : decode cX6_same 37 = .ok (.laload, 1) := by decide +kernel
theorem dX6_same_38 : decode cX6_same 38 = .ok (.lastore, 1) := by decide +kernel
theorem dX6_same_39 : decode cX6_same 39 = .ok (.iinc 3 1, 3) := by decide +kernel
theorem dX6_same_42 : decode cX6_same 42 = .ok (.goto (-28), 3) := by decide +kernel
theorem dX6_same_45 : decode cX6_same 45 = .ok (.iconst 0, 1) := by decide +kernel
theorem dX6_same_46 : decode cX6_same 46 = .ok (.istore_n 3, 1) := by decide +kernel
theorem dX6_same_47 : decode cX6_same 47 = .ok (.iload_n 3, 1) := by decide +kernel
theorem dX6_same_48 : decode cX6_same 48 = .ok (.bipush 12, 2) := by decide +kernel
theorem dX6_same_50 : decode cX6_same 50 = .ok (.if_icmp .ge 53, 3) := by decide +kernel
theorem dX6_same_53 : decode cX6_same 53 = .ok (.aload_n 0, 1) := by decide +kernel
theorem dX6_same_54 : decode cX6_same 54 = .ok (.getfield 17, 3) := by decide +kernel
theorem dX6_same_57 : decode cX6_same 57 = .ok (.bipush 12, 2) := by decide +kernel
theorem dX6_same_59 : decode cX6_same 59 = .ok (.iload_n 2, 1) := by decide +kernel
theorem dX6_same_60 : decode cX6_same 60 = .ok (.imul, 1) := by decide +kernel
theorem dX6_same_61 : decode cX6_same 61 = .ok (.iload_n 3, 1) := by decide +kernel
theorem dX6_same_62 : decode cX6_same 62 = .ok (.iadd, 1) := by decide +kernel
theorem dX6_same_63 : decode cX6_same 63 = .ok (.aload_n 0, 1) := by decide +kernel
theorem dX6_same_64 : decode cX6_same 64 = .ok (.getfield 17, 3) := by decide +kernel
theorem dX6_same_67 : decode cX6_same 67 = .ok (.bipush 12, 2) := by decide +kernel
theorem dX6_same_69 : decode cX6_same 69 = .ok (.iload_n 1, 1) := by decide +kernel
theorem dX6_same_70 : decode cX6_same 70 = .ok (.imul, 1) := by decide +kernel
theorem dX6_same_71 : decode cX6_same 71 = .ok (.iload_n 3, 1) := by decide +kernel
theorem dX6_same_72 : decode cX6_same 72 = .ok (.iadd, 1) := by decide +kernel
theorem dX6_same_73 : decode cX6_same 73 = .ok (.iaload, 1) := by decide +kernel
theorem dX6_same_74 : decode cX6_same 74 = .ok (.iastore, 1) := by decide +kernel
theorem dX6_same_75 : decode cX6_same 75 = .ok (.aload_n 0, 1) := by decide +kernel
theorem dX6_same_76 : decode cX6_same 76 = .ok (.getfield 20, 3) := by decide +kernel
theorem dX6_same_79 : decode cX6_same 79 = .ok (.bipush 12, 2) := by decide +kernel
theorem dX6_same_81 : decode cX6_same 81 = .ok (.iload_n 2, 1) := by decide +kernel
theorem dX6_same_82 : decode cX6_same 82 = .ok (.imul, 1) := by decide +kernel
theorem dX6_same_83 : decode cX6_same 83 = .ok (.iload_n 3, 1) := by decide +kernel
theorem dX6_same_84 : decode cX6_same 84 = .ok (.iadd, 1) := by decide +kernel
theorem dX6_same_85 : decode cX6_same 85 = .ok (.aload_n 0, 1) := by decide +kernel
theorem dX6_same_86 : decode cX6_same 86 = .ok (.getfield 20, 3) := by decide +kernel
theorem dX6_same_89 : decode cX6_same 89 = .ok (.bipush 12, 2) := by decide +kernel
theorem dX6_same_91 : decode cX6_same 91 = .ok (.iload_n 1, 1) := by decide +kernel
theorem dX6_same_92 : decode cX6_same 92 = .ok (.imul, 1) := by decide +kernel
theorem dX6_same_93 : decode cX6_same 93 = .ok (.iload_n 3, 1) := by decide +kernel
theorem dX6_same_94 : decode cX6_same 94 = .ok (.iadd, 1) := by decide +kernel
theorem dX6_same_95 : decode cX6_same 95 = .ok (.iaload, 1) := by decide +kernel
theorem dX6_same_96 : decode cX6_same 96 = .ok (.iastore, 1) := by decide +kernel
theorem dX6_same_97 : decode cX6_same 97 = .ok (.iinc 3 1, 3) := by decide +kernel
theorem dX6_same_100 : decode cX6_same 100 = .ok (.goto (-53), 3) := by decide +kernel
theorem dX6_same_103 : decode cX6_same 103 = .ok (.return_, 1) := by decide +kernel
theorem dX6_allOf_0 : decode cX6_allOf 0 = .ok (.lconst 0, 1) := by decide +kernel
theorem dX6_allOf_1 : decode cX6_allOf 1 = .ok (.lstore_n 2, 1) := by decide +kernel
theorem dX6_allOf_2 : decode cX6_allOf 2 = .ok (.iconst 0, 1) := by decide +kernel
theorem dX6_allOf_3 : decode cX6_allOf 3 = .ok (.istore 4, 2) := by decide +kernel
theorem dX6_allOf_5 : decode cX6_allOf 5 = .ok (.iload 4, 2) := by decide +kernel
theorem dX6_allOf_7 : decode cX6_allOf 7 = .ok (.iconst 4, 1) := by decide +kernel
theorem dX6_allOf_8 : decode cX6_allOf 8 = .ok (.if_icmp .ge 23, 3) := by decide +kernel
theorem dX6_allOf_11 : decode cX6_allOf 11 = .ok (.lload_n 2, 1) := by decide +kernel
theorem dX6_allOf_12 : decode cX6_allOf 12 = .ok (.aload_n 0, 1) := by decide +kernel
theorem dX6_allOf_13 : decode cX6_allOf 13 = .ok (.getfield 7, 3) := by decide +kernel
theorem dX6_allOf_16 : decode cX6_allOf 16 = .ok (.iconst 4, 1) := by decide +kernel
theorem dX6_allOf_17 : decode cX6_allOf 17 = .ok (.iload_n 1, 1) := by decide +kernel
theorem dX6_allOf_18 : decode cX6_allOf 18 = .ok (.imul, 1) := by decide +kernel
theorem dX6_allOf_19 : decode cX6_allOf 19 = .ok (.iload 4, 2) := by decide +kernel
theorem dX6_allOf_21 : decode cX6_allOf 21 = .ok (.iadd, 1) := by decide +kernel
theorem dX6_allOf_22 : decode cX6_allOf 22 = .ok (.laload, 1) := by decide +kernel
theorem dX6_allOf_23 : decode cX6_allOf 23 = .ok (.ladd, 1) := by decide +kernel
theorem dX6_allOf_24 : decode cX6_allOf 24 = .ok (.lstore_n 2, 1) := by decide +kernel
theorem dX6_allOf_25 : decode cX6_allOf 25 = .ok (.iinc 4 1, 3) := by decide +kernel
theorem dX6_allOf_28 : decode cX6_allOf 28 = .ok (.goto (-23), 3) := by decide +kernel
theorem dX6_allOf_31 : decode cX6_allOf 31 = .ok (.lload_n 2, 1) := by decide +kernel
theorem dX6_allOf_32 : decode cX6_allOf 32 = .ok (.lreturn, 1) := by decide +kernel
theorem dX6_portionOf_0 : decode cX6_portionOf 0 = .ok (.aload_n 0, 1) := by decide +kernel
theorem dX6_portionOf_1 : decode cX6_portionOf 1 = .ok (.iload_n 1, 1) := by decide +kernel
theorem dX6_portionOf_2 : decode cX6_portionOf 2 = .ok (.invokevirtual 106, 3) := by decide +kernel
theorem dX6_portionOf_5 : decode cX6_portionOf 5 = .ok (.lstore_n 3, 1) := by decide +kernel
theorem dX6_portionOf_6 : decode cX6_portionOf 6 = .ok (.lload_n 3, 1) := by decide +kernel
theorem dX6_portionOf_7 : decode cX6_portionOf 7 = .ok (.lconst 0, 1) := by decide +kernel
theorem dX6_portionOf_8 : decode cX6_portionOf 8 = .ok (.lcmp, 1) := by decide +kernel
theorem dX6_portionOf_9 : decode cX6_portionOf 9 = .ok (.ifCond .ne 7, 3) := by decide +kernel
theorem dX6_portionOf_12 : decode cX6_portionOf 12 = .ok (.iconst 0, 1) := by decide +kernel
theorem dX6_portionOf_13 : decode cX6_portionOf 13 = .ok (.goto 20, 3) := by decide +kernel
theorem dX6_portionOf_16 : decode cX6_portionOf 16 = .ok (.ldc2_w 109, 3) := by decide +kernel
theorem dX6_portionOf_19 : decode cX6_portionOf 19 = .ok (.aload_n 0, 1) := by decide +kernel
theorem dX6_portionOf_20 : decode cX6_portionOf 20 = .ok (.getfield 7, 3) := by decide +kernel
theorem dX6_portionOf_23 : decode cX6_portionOf 23 = .ok (.iconst 4, 1) := by decide +kernel
theorem dX6_portionOf_24 : decode cX6_portionOf 24 = .ok (.iload_n 1, 1) := by decide +kernel
theorem dX6_portionOf_25 : decode cX6_portionOf 25 = .ok (.imul, 1) := by decide +kernel
theorem dX6_portionOf_26 : decode cX6_portionOf 26 = .ok (.iload_n 2, 1) := by decide +kernel
theorem dX6_portionOf_27 : decode cX6_portionOf 27 = .ok (.iadd, 1) := by decide +kernel
theorem dX6_portionOf_28 : decode cX6_portionOf 28 = .ok (.laload, 1) := by decide +kernel
theorem dX6_portionOf_29 : decode cX6_portionOf 29 = .ok (.lmul, 1) := by decide +kernel
theorem dX6_portionOf_30 : decode cX6_portionOf 30 = .ok (.lload_n 3, 1) := by decide +kernel
theorem dX6_portionOf_31 : decode cX6_portionOf 31 = .ok (.ldiv, 1) := by decide +kernel
theorem dX6_portionOf_32 : decode cX6_portionOf 32 = .ok (.l2i, 1) := by decide +kernel
theorem dX6_portionOf_33 : decode cX6_portionOf 33 = .ok (.ireturn, 1) := by decide +kernel
theorem dX6_isOver_0 : decode cX6_isOver 0 = .ok (.ldc2_w 109, 3) := by decide +kernel
theorem dX6_isOver_3 : decode cX6_isOver 3 = .ok (.aload_n 0, 1) := by decide +kernel
theorem dX6_isOver_4 : decode cX6_isOver 4 = .ok (.getfield 7, 3) := by decide +kernel
theorem dX6_isOver_7 : decode cX6_isOver 7 = .ok (.iconst 4, 1) := by decide +kernel
theorem dX6_isOver_8 : decode cX6_isOver 8 = .ok (.iload_n 1, 1) := by decide +kernel
theorem dX6_isOver_9 : decode cX6_isOver 9 = .ok (.imul, 1) := by decide +kernel
theorem dX6_isOver_10 : decode cX6_isOver 10 = .ok (.iload_n 2, 1) := by decide +kernel
theorem dX6_isOver_11 : decode cX6_isOver 11 = .ok (.iadd, 1) := by decide +kernel
theorem dX6_isOver_12 : decode cX6_isOver 12 = .ok (.laload, 1) := by decide +kernel
theorem dX6_isOver_13 : decode cX6_isOver 13 = .ok (.lmul, 1) := by decide +kernel
theorem dX6_isOver_14 : decode cX6_isOver 14 = .ok (.iload_n 3, 1) := by decide +kernel
theorem dX6_isOver_15 : decode cX6_isOver 15 = .ok (.i2l, 1) := by decide +kernel
theorem dX6_isOver_16 : decode cX6_isOver 16 = .ok (.aload_n 0, 1) := by decide +kernel
theorem dX6_isOver_17 : decode cX6_isOver 17 = .ok (.iload_n 1, 1) := by decide +kernel
theorem dX6_isOver_18 : decode cX6_isOver 18 = .ok (.invokevirtual 106, 3) := by decide +kernel
theorem dX6_isOver_21 : decode cX6_isOver 21 = .ok (.lmul, 1) := by decide +kernel
theorem dX6_isOver_22 : decode cX6_isOver 22 = .ok (.lcmp, 1) := by decide +kernel
theorem dX6_isOver_23 : decode cX6_isOver 23 = .ok (.ifCond .le 7, 3) := by decide +kernel
theorem dX6_isOver_26 : decode cX6_isOver 26 = .ok (.iconst 1, 1) := by decide +kernel
theorem dX6_isOver_27 : decode cX6_isOver 27 = .ok (.goto 4, 3) := by decide +kernel
theorem dX6_isOver_30 : decode cX6_isOver 30 = .ok (.iconst 0, 1) := by decide +kernel
theorem dX6_isOver_31 : decode cX6_isOver 31 = .ok (.ireturn, 1) := by decide +kernel
theorem dX6_doesHarm_0 : decode cX6_doesHarm 0 = .ok (.iconst 0, 1) := by decide +kernel
theorem dX6_doesHarm_1 : decode cX6_doesHarm 1 = .ok (.istore 4, 2) := by decide +kernel
theorem dX6_doesHarm_3 : decode cX6_doesHarm 3 = .ok (.iconst 0, 1) := by decide +kernel
theorem dX6_doesHarm_4 : decode cX6_doesHarm 4 = .ok (.istore 5, 2) := by decide +kernel
theorem dX6_doesHarm_6 : decode cX6_doesHarm 6 = .ok (.iload 5, 2) := by decide +kernel
theorem dX6_doesHarm_8 : decode cX6_doesHarm 8 = .ok (.iconst 4, 1) := by decide +kernel
theorem dX6_doesHarm_9 : decode cX6_doesHarm 9 = .ok (.if_icmp .ge 42, 3) := by decide +kernel
theorem dX6_doesHarm_12 : decode cX6_doesHarm 12 = .ok (.iload 4, 2) := by decide +kernel
theorem dX6_doesHarm_14 : decode cX6_doesHarm 14 = .ok (.ifCond .ne 24, 3) := by decide +kernel
theorem dX6_doesHarm_17 : decode cX6_doesHarm 17 = .ok (.iload_n 2, 1) := by decide +kernel
theorem dX6_doesHarm_18 : decode cX6_doesHarm 18 = .ok (.iload 5, 2) := by decide +kernel
theorem dX6_doesHarm_20 : decode cX6_doesHarm 20 = .ok (.ishr, 1) := by decide +kernel
theorem dX6_doesHarm_21 : decode cX6_doesHarm 21 = .ok (.iconst 1, 1) := by decide +kernel
theorem dX6_doesHarm_22 : decode cX6_doesHarm 22 = .ok (.iand, 1) := by decide +kernel
theorem dX6_doesHarm_23 : decode cX6_doesHarm 23 = .ok (.iconst 1, 1) := by decide +kernel
theorem dX6_doesHarm_24 : decode cX6_doesHarm 24 = .ok (.if_icmp .ne 18, 3) := by decide +kernel
theorem dX6_doesHarm_27 : decode cX6_doesHarm 27 = .ok (.aload_n 0, 1) := by decide +kernel
theorem dX6_doesHarm_28 : decode cX6_doesHarm 28 = .ok (.iload_n 1, 1) := by decide +kernel
theorem dX6_doesHarm_29 : decode cX6_doesHarm 29 = .ok (.iload 5, 2) := by decide +kernel
theorem dX6_doesHarm_31 : decode cX6_doesHarm 31 = .ok (.iload_n 3, 1) := by decide +kernel
theorem dX6_doesHarm_32 : decode cX6_doesHarm 32 = .ok (.invokevirtual 111, 3) := by decide +kernel
theorem dX6_doesHarm_35 : decode cX6_doesHarm 35 = .ok (.ifCond .eq 7, 3) := by decide +kernel
theorem dX6_doesHarm_38 : decode cX6_doesHarm 38 = .ok (.iconst 1, 1) := by decide +kernel
theorem dX6_doesHarm_39 : decode cX6_doesHarm 39 = .ok (.goto 4, 3) := by decide +kernel
theorem dX6_doesHarm_42 : decode cX6_doesHarm 42 = .ok (.iconst 0, 1) := by decide +kernel
theorem dX6_doesHarm_43 : decode cX6_doesHarm 43 = .ok (.istore 4, 2) := by decide +kernel
theorem dX6_doesHarm_45 : decode cX6_doesHarm 45 = .ok (.iinc 5 1, 3) := by decide +kernel
theorem dX6_doesHarm_48 : decode cX6_doesHarm 48 = .ok (.goto (-42), 3) := by decide +kernel
theorem dX6_doesHarm_51 : decode cX6_doesHarm 51 = .ok (.iload 4, 2) := by decide +kernel
theorem dX6_doesHarm_53 : decode cX6_doesHarm 53 = .ok (.ireturn, 1) := by decide +kernel
theorem dX6_copyLongs_0 : decode cX6_copyLongs 0 = .ok (.iconst 0, 1) := by decide +kernel
theorem dX6_copyLongs_1 : decode cX6_copyLongs 1 = .ok (.istore_n 2, 1) := by decide +kernel
theorem dX6_copyLongs_2 : decode cX6_copyLongs 2 = .ok (.iload_n 2, 1) := by decide +kernel
theorem dX6_copyLongs_3 : decode cX6_copyLongs 3 = .ok (.bipush 28, 2) := by decide +kernel
theorem dX6_copyLongs_5 : decode cX6_copyLongs 5 = .ok (.if_icmp .ge 15, 3) := by decide +kernel
theorem dX6_copyLongs_8 : decode cX6_copyLongs 8 = .ok (.aload_n 1, 1) := by decide +kernel
theorem dX6_copyLongs_9 : decode cX6_copyLongs 9 = .ok (.iload_n 2, 1) := by decide +kernel
theorem dX6_copyLongs_10 : decode cX6_copyLongs 10 = .ok (.aload_n 0, 1) := by decide +kernel
theorem dX6_copyLongs_11 : decode cX6_copyLongs 11 = .ok (.iload_n 2, 1) := by decide +kernel
theorem dX6_copyLongs_12 : decode cX6_copyLongs 12 = .ok (.laload, 1) := by decide +kernel
theorem dX6_copyLongs_13 : decode cX6_copyLongs 13 = .ok (.lastore, 1) := by decide +kernel
theorem dX6_copyLongs_14 : decode cX6_copyLongs 14 = .ok (.iinc 2 1, 3) := by decide +kernel
theorem dX6_copyLongs_17 : decode cX6_copyLongs 17 = .ok (.goto (-15), 3) := by decide +kernel
theorem dX6_copyLongs_20 : decode cX6_copyLongs 20 = .ok (.return_, 1) := by decide +kernel
theorem dX6_copyInts_0 : decode cX6_copyInts 0 = .ok (.iconst 0, 1) := by decide +kernel
theorem dX6_copyInts_1 : decode cX6_copyInts 1 = .ok (.istore_n 3, 1) := by decide +kernel
theorem dX6_copyInts_2 : decode cX6_copyInts 2 = .ok (.iload_n 3, 1) := by decide +kernel
theorem dX6_copyInts_3 : decode cX6_copyInts 3 = .ok (.iload_n 2, 1) := by decide +kernel
theorem dX6_copyInts_4 : decode cX6_copyInts 4 = .ok (.if_icmp .ge 15, 3) := by decide +kernel
theorem dX6_copyInts_7 : decode cX6_copyInts 7 = .ok (.aload_n 1, 1) := by decide +kernel
theorem dX6_copyInts_8 : decode cX6_copyInts 8 = .ok (.iload_n 3, 1) := by decide +kernel
theorem dX6_copyInts_9 : decode cX6_copyInts 9 = .ok (.aload_n 0, 1) := by decide +kernel
theorem dX6_copyInts_10 : decode cX6_copyInts 10 = .ok (.iload_n 3, 1) := by decide +kernel
theorem dX6_copyInts_11 : decode cX6_copyInts 11 = .ok (.iaload, 1) := by decide +kernel
theorem dX6_copyInts_12 : decode cX6_copyInts 12 = .ok (.iastore, 1) := by decide +kernel
theorem dX6_copyInts_13 : decode cX6_copyInts 13 = .ok (.iinc 3 1, 3) := by decide +kernel
theorem dX6_copyInts_16 : decode cX6_copyInts 16 = .ok (.goto (-14), 3) := by decide +kernel
theorem dX6_copyInts_19 : decode cX6_copyInts 19 = .ok (.return_, 1) := by decide +kernel
theorem dX6_open_0 : decode cX6_open 0 = .ok (.aload_n 0, 1) := by decide +kernel
theorem dX6_open_1 : decode cX6_open 1 = .ok (.aload_n 0, 1) := by decide +kernel
theorem dX6_open_2 : decode cX6_open 2 = .ok (.getfield 81, 3) := by decide +kernel
theorem dX6_open_5 : decode cX6_open 5 = .ok (.putfield 115, 3) := by decide +kernel
theorem dX6_open_8 : decode cX6_open 8 = .ok (.aload_n 0, 1) := by decide +kernel
theorem dX6_open_9 : decode cX6_open 9 = .ok (.getfield 7, 3) := by decide +kernel
theorem dX6_open_12 : decode cX6_open 12 = .ok (.aload_n 0, 1) := by decide +kernel
theorem dX6_open_13 : decode cX6_open 13 = .ok (.getfield 35, 3) := by decide +kernel
theorem dX6_open_16 : decode cX6_open 16 = .ok (.invokestatic 118, 3) := by decide +kernel
theorem dX6_open_19 : decode cX6_open 19 = .ok (.aload_n 0, 1) := by decide +kernel
theorem dX6_open_20 : decode cX6_open 20 = .ok (.getfield 13, 3) := by decide +kernel
theorem dX6_open_23 : decode cX6_open 23 = .ok (.aload_n 0, 1) := by decide +kernel
theorem dX6_open_24 : decode cX6_open 24 = .ok (.getfield 38, 3) := by decide +kernel
theorem dX6_open_27 : decode cX6_open 27 = .ok (.bipush 7, 2) := by decide +kernel
theorem dX6_open_29 : decode cX6_open 29 = .ok (.invokestatic 122, 3) := by decide +kernel
theorem dX6_open_32 : decode cX6_open 32 = .ok (.aload_n 0, 1) := by decide +kernel
theorem dX6_open_33 : decode cX6_open 33 = .ok (.getfield 17, 3) := by decide +kernel
theorem dX6_open_36 : decode cX6_open 36 = .ok (.aload_n 0, 1) := by decide +kernel
theorem dX6_open_37 : decode cX6_open 37 = .ok (.getfield 41, 3) := by decide +kernel
theorem dX6_open_40 : decode cX6_open 40 = .ok (.bipush 84, 2) := by decide +kernel
theorem dX6_open_42 : decode cX6_open 42 = .ok (.invokestatic 122, 3) := by decide +kernel
theorem dX6_open_45 : decode cX6_open 45 = .ok (.aload_n 0, 1) := by decide +kernel
theorem dX6_open_46 : decode cX6_open 46 = .ok (.getfield 20, 3) := by decide +kernel
theorem dX6_open_49 : decode cX6_open 49 = .ok (.aload_n 0, 1) := by decide +kernel
theorem dX6_open_50 : decode cX6_open 50 = .ok (.getfield 44, 3) := by decide +kernel
theorem dX6_open_53 : decode cX6_open 53 = .ok (.bipush 84, 2) := by decide +kernel
theorem dX6_open_55 : decode cX6_open 55 = .ok (.invokestatic 122, 3) := by decide +kernel
theorem dX6_open_58 : decode cX6_open 58 = .ok (.return_, 1) := by decide +kernel
theorem dX6_close_0 : decode cX6_close 0 = .ok (.aload_n 0, 1) := by decide +kernel
theorem dX6_close_1 : decode cX6_close 1 = .ok (.aload_n 0, 1) := by decide +kernel
theorem dX6_close_2 : decode cX6_close 2 = .ok (.getfield 115, 3) := by decide +kernel
theorem dX6_close_5 : decode cX6_close 5 = .ok (.putfield 81, 3) := by decide +kernel
theorem dX6_close_8 : decode cX6_close 8 = .ok (.aload_n 0, 1) := by decide +kernel
theorem dX6_close_9 : decode cX6_close 9 = .ok (.getfield 35, 3) := by decide +kernel
theorem dX6_close_12 : decode cX6_close 12 = .ok (.aload_n 0, 1) := by decide +kernel
theorem dX6_close_13 : decode cX6_close 13 = .ok (.getfield 7, 3) := by decide +kernel
theorem dX6_close_16 : decode cX6_close 16 = .ok (.invokestatic 118, 3) := by decide +kernel
theorem dX6_close_19 : decode cX6_close 19 = .ok (.aload_n 0, 1) := by decide +kernel
theorem dX6_close_20 : decode cX6_close 20 = .ok (.getfield 38, 3) := by decide +kernel
theorem dX6_close_23 : decode cX6_close 23 = .ok (.aload_n 0, 1) := by decide +kernel
theorem dX6_close_24 : decode cX6_close 24 = .ok (.getfield 13, 3) := by decide +kernel
theorem dX6_close_27 : decode cX6_close 27 = .ok (.bipush 7, 2) := by decide +kernel
theorem dX6_close_29 : decode cX6_close 29 = .ok (.invokestatic 122, 3) := by decide +kernel
theorem dX6_close_32 : decode cX6_close 32 = .ok (.aload_n 0, 1) := by decide +kernel
theorem dX6_close_33 : decode cX6_close 33 = .ok (.getfield 41, 3) := by decide +kernel
theorem dX6_close_36 : decode cX6_close 36 = .ok (.aload_n 0, 1) := by decide +kernel
theorem dX6_close_37 : decode cX6_close 37 = .ok (.getfield 17, 3) := by decide +kernel
theorem dX6_close_40 : decode cX6_close 40 = .ok (.bipush 84, 2) := by decide +kernel
theorem dX6_close_42 : decode cX6_close 42 = .ok (.invokestatic 122, 3) := by decide +kernel
theorem dX6_close_45 : decode cX6_close 45 = .ok (.aload_n 0, 1) := by decide +kernel
theorem dX6_close_46 : decode cX6_close 46 = .ok (.getfield 44, 3) := by decide +kernel
theorem dX6_close_49 : decode cX6_close 49 = .ok (.aload_n 0, 1) := by decide +kernel
theorem dX6_close_50 : decode cX6_close 50 = .ok (.getfield 20, 3) := by decide +kernel
theorem dX6_close_53 : decode cX6_close 53 = .ok (.bipush 84, 2) := by decide +kernel
theorem dX6_close_55 : decode cX6_close 55 = .ok (.invokestatic 122, 3) := by decide +kernel
theorem dX6_close_58 : decode cX6_close 58 = .ok (.return_, 1) := by decide +kernel
theorem dX6_image_0 : decode cX6_image 0 = .ok (.aload_n 0, 1) := by decide +kernel
theorem dX6_image_1 : decode cX6_image 1 = .ok (.iconst 0, 1) := by decide +kernel
theorem dX6_image_2 : decode cX6_image 2 = .ok (.putfield 77, 3) := by decide +kernel
theorem dX6_image_5 : decode cX6_image 5 = .ok (.aload_n 0, 1) := by decide +kernel
theorem dX6_image_6 : decode cX6_image 6 = .ok (.iconst 1, 1) := by decide +kernel
theorem dX6_image_7 : decode cX6_image 7 = .ok (.putfield 126, 3) := by decide +kernel
theorem dX6_image_10 : decode cX6_image 10 = .ok (.aload_n 0, 1) := by decide +kernel
theorem dX6_image_11 : decode cX6_image 11 = .ok (.aload_n 0, 1) := by decide +kernel
theorem dX6_image_12 : decode cX6_image 12 = .ok (.getfield 81, 3) := by decide +kernel
theorem dX6_image_15 : decode cX6_image 15 = .ok (.putfield 130, 3) := by decide +kernel
theorem dX6_image_18 : decode cX6_image 18 = .ok (.aload_n 0, 1) := by decide +kernel
theorem dX6_image_19 : decode cX6_image 19 = .ok (.getfield 7, 3) := by decide +kernel
