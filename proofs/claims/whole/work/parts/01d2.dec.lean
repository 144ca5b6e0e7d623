theorem dX6_image_22 : decode cX6_image 22 = .ok (.aload_n 0, 1) := by decide +kernel
theorem dX6_image_23 : decode cX6_image 23 = .ok (.getfield 23, 3) := by decide +kernel
theorem dX6_image_26 : decode cX6_image 26 = .ok (.invokestatic 118, 3) := by decide +kernel
theorem dX6_image_29 : decode cX6_image 29 = .ok (.aload_n 0, 1) := by decide +kernel
theorem dX6_image_30 : decode cX6_image 30 = .ok (.getfield 13, 3) := by decide +kernel
theorem dX6_image_33 : decode cX6_image 33 = .ok (.aload_n 0, 1) := by decide +kernel
theorem dX6_image_34 : decode cX6_image 34 = .ok (.getfield 26, 3) := by decide +kernel
theorem dX6_image_37 : decode cX6_image 37 = .ok (.bipush 7, 2) := by decide +kernel
theorem dX6_image_39 : decode cX6_image 39 = .ok (.invokestatic 122, 3) := by decide +kernel
theorem dX6_image_42 : decode cX6_image 42 = .ok (.aload_n 0, 1) := by decide +kernel
theorem dX6_image_43 : decode cX6_image 43 = .ok (.getfield 17, 3) := by decide +kernel
theorem dX6_image_46 : decode cX6_image 46 = .ok (.aload_n 0, 1) := by decide +kernel
theorem dX6_image_47 : decode cX6_image 47 = .ok (.getfield 29, 3) := by decide +kernel
theorem dX6_image_50 : decode cX6_image 50 = .ok (.bipush 84, 2) := by decide +kernel
theorem dX6_image_52 : decode cX6_image 52 = .ok (.invokestatic 122, 3) := by decide +kernel
theorem dX6_image_55 : decode cX6_image 55 = .ok (.aload_n 0, 1) := by decide +kernel
theorem dX6_image_56 : decode cX6_image 56 = .ok (.getfield 20, 3) := by decide +kernel
theorem dX6_image_59 : decode cX6_image 59 = .ok (.aload_n 0, 1) := by decide +kernel
theorem dX6_image_60 : decode cX6_image 60 = .ok (.getfield 32, 3) := by decide +kernel
theorem dX6_image_63 : decode cX6_image 63 = .ok (.bipush 84, 2) := by decide +kernel
theorem dX6_image_65 : decode cX6_image 65 = .ok (.invokestatic 122, 3) := by decide +kernel
theorem dX6_image_68 : decode cX6_image 68 = .ok (.aload_n 0, 1) := by decide +kernel
theorem dX6_image_69 : decode cX6_image 69 = .ok (.getfield 81, 3) := by decide +kernel
theorem dX6_image_72 : decode cX6_image 72 = .ok (.ireturn, 1) := by decide +kernel
theorem dX6_restore_0 : decode cX6_restore 0 = .ok (.aload_n 0, 1) := by decide +kernel
theorem dX6_restore_1 : decode cX6_restore 1 = .ok (.iconst 0, 1) := by decide +kernel
theorem dX6_restore_2 : decode cX6_restore 2 = .ok (.putfield 77, 3) := by decide +kernel
theorem dX6_restore_5 : decode cX6_restore 5 = .ok (.aload_n 0, 1) := by decide +kernel
theorem dX6_restore_6 : decode cX6_restore 6 = .ok (.getfield 126, 3) := by decide +kernel
theorem dX6_restore_9 : decode cX6_restore 9 = .ok (.ifCond .ne 6, 3) := by decide +kernel
theorem dX6_restore_12 : decode cX6_restore 12 = .ok (.bipush (-3), 2) := by decide +kernel
theorem dX6_restore_14 : decode cX6_restore 14 = .ok (.ireturn, 1) := by decide +kernel
theorem dX6_restore_15 : decode cX6_restore 15 = .ok (.aload_n 0, 1) := by decide +kernel
theorem dX6_restore_16 : decode cX6_restore 16 = .ok (.aload_n 0, 1) := by decide +kernel
theorem dX6_restore_17 : decode cX6_restore 17 = .ok (.getfield 130, 3) := by decide +kernel
theorem dX6_restore_20 : decode cX6_restore 20 = .ok (.putfield 81, 3) := by decide +kernel
theorem dX6_restore_23 : decode cX6_restore 23 = .ok (.aload_n 0, 1) := by decide +kernel
theorem dX6_restore_24 : decode cX6_restore 24 = .ok (.getfield 23, 3) := by decide +kernel
theorem dX6_restore_27 : decode cX6_restore 27 = .ok (.aload_n 0, 1) := by decide +kernel
theorem dX6_restore_28 : decode cX6_restore 28 = .ok (.getfield 7, 3) := by decide +kernel
theorem dX6_restore_31 : decode cX6_restore 31 = .ok (.invokestatic 118, 3) := by decide +kernel
theorem dX6_restore_34 : decode cX6_restore 34 = .ok (.aload_n 0, 1) := by decide +kernel
theorem dX6_restore_35 : decode cX6_restore 35 = .ok (.getfield 26, 3) := by decide +kernel
theorem dX6_restore_38 : decode cX6_restore 38 = .ok (.aload_n 0, 1) := by decide +kernel
theorem dX6_restore_39 : decode cX6_restore 39 = .ok (.getfield 13, 3) := by decide +kernel
theorem dX6_restore_42 : decode cX6_restore 42 = .ok (.bipush 7, 2) := by decide +kernel
theorem dX6_restore_44 : decode cX6_restore 44 = .ok (.invokestatic 122, 3) := by decide +kernel
theorem dX6_restore_47 : decode cX6_restore 47 = .ok (.aload_n 0, 1) := by decide +kernel
theorem dX6_restore_48 : decode cX6_restore 48 = .ok (.getfield 29, 3) := by decide +kernel
theorem dX6_restore_51 : decode cX6_restore 51 = .ok (.aload_n 0, 1) := by decide +kernel
theorem dX6_restore_52 : decode cX6_restore 52 = .ok (.getfield 17, 3) := by decide +kernel
theorem dX6_restore_55 : decode cX6_restore 55 = .ok (.bipush 84, 2) := by decide +kernel
theorem dX6_restore_57 : decode cX6_restore 57 = .ok (.invokestatic 122, 3) := by decide +kernel
theorem dX6_restore_60 : decode cX6_restore 60 = .ok (.aload_n 0, 1) := by decide +kernel
theorem dX6_restore_61 : decode cX6_restore 61 = .ok (.getfield 32, 3) := by decide +kernel
theorem dX6_restore_64 : decode cX6_restore 64 = .ok (.aload_n 0, 1) := by decide +kernel
theorem dX6_restore_65 : decode cX6_restore 65 = .ok (.getfield 20, 3) := by decide +kernel
theorem dX6_restore_68 : decode cX6_restore 68 = .ok (.bipush 84, 2) := by decide +kernel
theorem dX6_restore_70 : decode cX6_restore 70 = .ok (.invokestatic 122, 3) := by decide +kernel
theorem dX6_restore_73 : decode cX6_restore 73 = .ok (.aload_n 0, 1) := by decide +kernel
theorem dX6_restore_74 : decode cX6_restore 74 = .ok (.getfield 81, 3) := by decide +kernel
theorem dX6_restore_77 : decode cX6_restore 77 = .ok (.ireturn, 1) := by decide +kernel
theorem dX6_here_0 : decode cX6_here 0 = .ok (.aload_n 0, 1) := by decide +kernel
theorem dX6_here_1 : decode cX6_here 1 = .ok (.getfield 133, 3) := by decide +kernel
theorem dX6_here_4 : decode cX6_here 4 = .ok (.aload_n 0, 1) := by decide +kernel
theorem dX6_here_5 : decode cX6_here 5 = .ok (.getfield 136, 3) := by decide +kernel
theorem dX6_here_8 : decode cX6_here 8 = .ok (.if_icmp .lt 7, 3) := by decide +kernel
theorem dX6_here_11 : decode cX6_here 11 = .ok (.iconst (-1), 1) := by decide +kernel
theorem dX6_here_12 : decode cX6_here 12 = .ok (.goto 22, 3) := by decide +kernel
theorem dX6_here_15 : decode cX6_here 15 = .ok (.aload_n 0, 1) := by decide +kernel
theorem dX6_here_16 : decode cX6_here 16 = .ok (.getfield 71, 3) := by decide +kernel
theorem dX6_here_19 : decode cX6_here 19 = .ok (.aload_n 0, 1) := by decide +kernel
theorem dX6_here_20 : decode cX6_here 20 = .ok (.getfield 139, 3) := by decide +kernel
theorem dX6_here_23 : decode cX6_here 23 = .ok (.aload_n 0, 1) := by decide +kernel
theorem dX6_here_24 : decode cX6_here 24 = .ok (.getfield 133, 3) := by decide +kernel
theorem dX6_here_27 : decode cX6_here 27 = .ok (.iadd, 1) := by decide +kernel
theorem dX6_here_28 : decode cX6_here 28 = .ok (.laload, 1) := by decide +kernel
theorem dX6_here_29 : decode cX6_here 29 = .ok (.l2i, 1) := by decide +kernel
theorem dX6_here_30 : decode cX6_here 30 = .ok (.sipush 255, 3) := by decide +kernel
theorem dX6_here_33 : decode cX6_here 33 = .ok (.iand, 1) := by decide +kernel
theorem dX6_here_34 : decode cX6_here 34 = .ok (.ireturn, 1) := by decide +kernel
theorem dX6_readDigit_0 : decode cX6_readDigit 0 = .ok (.aload_n 0, 1) := by decide +kernel
theorem dX6_readDigit_1 : decode cX6_readDigit 1 = .ok (.aload_n 0, 1) := by decide +kernel
theorem dX6_readDigit_2 : decode cX6_readDigit 2 = .ok (.getfield 142, 3) := by decide +kernel
theorem dX6_readDigit_5 : decode cX6_readDigit 5 = .ok (.ifCond .ne 20, 3) := by decide +kernel
theorem dX6_readDigit_8 : decode cX6_readDigit 8 = .ok (.aload_n 0, 1) := by decide +kernel
theorem dX6_readDigit_9 : decode cX6_readDigit 9 = .ok (.invokevirtual 145, 3) := by decide +kernel
theorem dX6_readDigit_12 : decode cX6_readDigit 12 = .ok (.i2l, 1) := by decide +kernel
theorem dX6_readDigit_13 : decode cX6_readDigit 13 = .ok (.ldc2_w 149, 3) := by decide +kernel
theorem dX6_readDigit_16 : decode cX6_readDigit 16 = .ok (.ldc2_w 151, 3) := by decide +kernel
theorem dX6_readDigit_19 : decode cX6_readDigit 19 = .ok (.invokestatic 84, 3) := by decide +kernel
theorem dX6_readDigit_22 : decode cX6_readDigit 22 = .ok (.ifCond .ne 7, 3) := by decide +kernel
theorem dX6_readDigit_25 : decode cX6_readDigit 25 = .ok (.iconst 1, 1) := by decide +kernel
theorem dX6_readDigit_26 : decode cX6_readDigit 26 = .ok (.goto 4, 3) := by decide +kernel
theorem dX6_readDigit_29 : decode cX6_readDigit 29 = .ok (.iconst 0, 1) := by decide +kernel
theorem dX6_readDigit_30 : decode cX6_readDigit 30 = .ok (.putfield 142, 3) := by decide +kernel
theorem dX6_readDigit_33 : decode cX6_readDigit 33 = .ok (.aload_n 0, 1) := by decide +kernel
theorem dX6_readDigit_34 : decode cX6_readDigit 34 = .ok (.getfield 142, 3) := by decide +kernel
theorem dX6_readDigit_37 : decode cX6_readDigit 37 = .ok (.ifCond .eq 5, 3) := by decide +kernel
theorem dX6_readDigit_40 : decode cX6_readDigit 40 = .ok (.iconst 0, 1) := by decide +kernel
theorem dX6_readDigit_41 : decode cX6_readDigit 41 = .ok (.ireturn, 1) := by decide +kernel
theorem dX6_readDigit_42 : decode cX6_readDigit 42 = .ok (.aload_n 0, 1) := by decide +kernel
theorem dX6_readDigit_43 : decode cX6_readDigit 43 = .ok (.dup, 1) := by decide +kernel
theorem dX6_readDigit_44 : decode cX6_readDigit 44 = .ok (.getfield 133, 3) := by decide +kernel
theorem dX6_readDigit_47 : decode cX6_readDigit 47 = .ok (.iconst 1, 1) := by decide +kernel
theorem dX6_readDigit_48 : decode cX6_readDigit 48 = .ok (.iadd, 1) := by decide +kernel
theorem dX6_readDigit_49 : decode cX6_readDigit 49 = .ok (.putfield 133, 3) := by decide +kernel
theorem dX6_readDigit_52 : decode cX6_readDigit 52 = .ok (.aload_n 0, 1) := by decide +kernel
theorem dX6_readDigit_53 : decode cX6_readDigit 53 = .ok (.getfield 71, 3) := by decide +kernel
theorem dX6_readDigit_56 : decode cX6_readDigit 56 = .ok (.aload_n 0, 1) := by decide +kernel
theorem dX6_readDigit_57 : decode cX6_readDigit 57 = .ok (.getfield 139, 3) := by decide +kernel
theorem dX6_readDigit_60 : decode cX6_readDigit 60 = .ok (.aload_n 0, 1) := by decide +kernel
theorem dX6_readDigit_61 : decode cX6_readDigit 61 = .ok (.getfield 133, 3) := by decide +kernel
theorem dX6_readDigit_64 : decode cX6_readDigit 64 = .ok (.iadd, 1) := by decide +kernel
theorem dX6_readDigit_65 : decode cX6_readDigit 65 = .ok (.iconst 1, 1) := by decide +kernel
theorem dX6_readDigit_66 : decode cX6_readDigit 66 = .ok (.isub, 1) := by decide +kernel
theorem dX6_readDigit_67 : decode cX6_readDigit 67 = .ok (.laload, 1) := by decide +kernel
theorem dX6_readDigit_68 : decode cX6_readDigit 68 = .ok (.l2i, 1) := by decide +kernel
theorem dX6_readDigit_69 : decode cX6_readDigit 69 = .ok (.bipush 48, 2) := by decide +kernel
theorem dX6_readDigit_71 : decode cX6_readDigit 71 = .ok (.isub, 1) := by decide +kernel
theorem dX6_readDigit_72 : decode cX6_readDigit 72 = .ok (.ireturn, 1) := by decide +kernel
theorem dX6_readStatement_0 : decode cX6_readStatement 0 = .ok (.aload_n 0, 1) := by decide +kernel
theorem dX6_readStatement_1 : decode cX6_readStatement 1 = .ok (.getfield 153, 3) := by decide +kernel
theorem dX6_readStatement_4 : decode cX6_readStatement 4 = .ok (.istore_n 1, 1) := by decide +kernel
theorem dX6_readStatement_5 : decode cX6_readStatement 5 = .ok (.aload_n 0, 1) := by decide +kernel
theorem dX6_readStatement_6 : decode cX6_readStatement 6 = .ok (.invokevirtual 145, 3) := by decide +kernel
theorem dX6_readStatement_9 : decode cX6_readStatement 9 = .ok (.istore_n 2, 1) := by decide +kernel
theorem dX6_readStatement_10 : decode cX6_readStatement 10 = .ok (.aload_n 0, 1) := by decide +kernel
theorem dX6_readStatement_11 : decode cX6_readStatement 11 = .ok (.getfield 47, 3) := by decide +kernel
theorem dX6_readStatement_14 : decode cX6_readStatement 14 = .ok (.iload_n 1, 1) := by decide +kernel
theorem dX6_readStatement_15 : decode cX6_readStatement 15 = .ok (.aload_n 0, 1) := by decide +kernel
theorem dX6_readStatement_16 : decode cX6_readStatement 16 = .ok (.getfield 133, 3) := by decide +kernel
theorem dX6_readStatement_19 : decode cX6_readStatement 19 = .ok (.iastore, 1) := by decide +kernel
theorem dX6_readStatement_20 : decode cX6_readStatement 20 = .ok (.aload_n 0, 1) := by decide +kernel
theorem dX6_readStatement_21 : decode cX6_readStatement 21 = .ok (.getfield 50, 3) := by decide +kernel
theorem dX6_readStatement_24 : decode cX6_readStatement 24 = .ok (.iload_n 1, 1) := by decide +kernel
theorem dX6_readStatement_25 : decode cX6_readStatement 25 = .ok (.iload_n 2, 1) := by decide +kernel
theorem dX6_readStatement_26 : decode cX6_readStatement 26 = .ok (.iastore, 1) := by decide +kernel
theorem dX6_readStatement_27 : decode cX6_readStatement 27 = .ok (.aload_n 0, 1) := by decide +kernel
theorem dX6_readStatement_28 : decode cX6_readStatement 28 = .ok (.aload_n 0, 1) := by decide +kernel
theorem dX6_readStatement_29 : decode cX6_readStatement 29 = .ok (.getfield 142, 3) := by decide +kernel
theorem dX6_readStatement_32 : decode cX6_readStatement 32 = .ok (.ifCond .ne 27, 3) := by decide +kernel
theorem dX6_readStatement_35 : decode cX6_readStatement 35 = .ok (.iload_n 2, 1) := by decide +kernel
theorem dX6_readStatement_36 : decode cX6_readStatement 36 = .ok (.bipush 112, 2) := by decide +kernel
theorem dX6_readStatement_38 : decode cX6_readStatement 38 = .ok (.if_icmp .eq 25, 3) := by decide +kernel
theorem dX6_readStatement_41 : decode cX6_readStatement 41 = .ok (.iload_n 2, 1) := by decide +kernel
theorem dX6_readStatement_42 : decode cX6_readStatement 42 = .ok (.bipush 100, 2) := by decide +kernel
theorem dX6_readStatement_44 : decode cX6_readStatement 44 = .ok (.if_icmp .eq 19, 3) := by decide +kernel
theorem dX6_readStatement_47 : decode cX6_readStatement 47 = .ok (.iload_n 2, 1) := by decide +kernel
theorem dX6_readStatement_48 : decode cX6_readStatement 48 = .ok (.bipush 110, 2) := by decide +kernel
theorem dX6_readStatement_50 : decode cX6_readStatement 50 = .ok (.if_icmp .eq 13, 3) := by decide +kernel
theorem dX6_readStatement_53 : decode cX6_readStatement 53 = .ok (.iload_n 2, 1) := by decide +kernel
theorem dX6_readStatement_54 : decode cX6_readStatement 54 = .ok (.bipush 99, 2) := by decide +kernel
theorem dX6_readStatement_56 : decode cX6_readStatement 56 = .ok (.if_icmp .eq 7, 3) := by decide +kernel
theorem dX6_readStatement_59 : decode cX6_readStatement 59 = .ok (.iconst 1, 1) := by decide +kernel
theorem dX6_readStatement_60 : decode cX6_readStatement 60 = .ok (.goto 4, 3) := by decide +kernel
theorem dX6_readStatement_63 : decode cX6_readStatement 63 = .ok (.iconst 0, 1) := by decide +kernel
theorem dX6_readStatement_64 : decode cX6_readStatement 64 = .ok (.putfield 142, 3) := by decide +kernel
theorem dX6_readStatement_67 : decode cX6_readStatement 67 = .ok (.aload_n 0, 1) := by decide +kernel
theorem dX6_readStatement_68 : decode cX6_readStatement 68 = .ok (.dup, 1) := by decide +kernel
theorem dX6_readStatement_69 : decode cX6_readStatement 69 = .ok (.getfield 133, 3) := by decide +kernel
theorem dX6_readStatement_72 : decode cX6_readStatement 72 = .ok (.aload_n 0, 1) := by decide +kernel
theorem dX6_readStatement_73 : decode cX6_readStatement 73 = .ok (.getfield 142, 3) := by decide +kernel
theorem dX6_readStatement_76 : decode cX6_readStatement 76 = .ok (.ifCond .eq 7, 3) := by decide +kernel
theorem dX6_readStatement_79 : decode cX6_readStatement 79 = .ok (.iconst 0, 1) := by decide +kernel
theorem dX6_readStatement_80 : decode cX6_readStatement 80 = .ok (.goto 4, 3) := by decide +kernel
theorem dX6_readStatement_83 : decode cX6_readStatement 83 = .ok (.iconst 1, 1) := by decide +kernel
theorem dX6_readStatement_84 : decode cX6_readStatement 84 = .ok (.iadd, 1) := by decide +kernel
theorem dX6_readStatement_85 : decode cX6_readStatement 85 = .ok (.putfield 133, 3) := by decide +kernel
theorem dX6_readStatement_88 : decode cX6_readStatement 88 = .ok (.iload_n 2, 1) := by decide +kernel
theorem dX6_readStatement_89 : decode cX6_readStatement 89 = .ok (.bipush 112, 2) := by decide +kernel
theorem dX6_readStatement_91 : decode cX6_readStatement 91 = .ok (.if_icmp .ne 7, 3) := by decide +kernel
theorem dX6_readStatement_94 : decode cX6_readStatement 94 = .ok (.iconst 0, 1) := by decide +kernel
theorem dX6_readStatement_95 : decode cX6_readStatement 95 = .ok (.goto 24, 3) := by decide +kernel
theorem dX6_readStatement_98 : decode cX6_readStatement 98 = .ok (.iload_n 2, 1) := by decide +kernel
theorem dX6_readStatement_99 : decode cX6_readStatement 99 = .ok (.bipush 100, 2) := by decide +kernel
theorem dX6_readStatement_101 : decode cX6_readStatement 101 = .ok (.if_icmp .ne 7, 3) := by decide +kernel
theorem dX6_readStatement_104 : decode cX6_readStatement 104 = .ok (.iconst 3, 1) := by decide +kernel
theorem dX6_readStatement_105 : decode cX6_readStatement 105 = .ok (.goto 14, 3) := by decide +kernel
theorem dX6_readStatement_108 : decode cX6_readStatement 108 = .ok (.iload_n 2, 1) := by decide +kernel
theorem dX6_readStatement_109 : decode cX6_readStatement 109 = .ok (.bipush 110, 2) := by decide +kernel
theorem dX6_readStatement_111 : decode cX6_readStatement 111 = .ok (.if_icmp .ne 7, 3) := by decide +kernel
theorem dX6_readStatement_114 : decode cX6_readStatement 114 = .ok (.iconst 1, 1) := by decide +kernel
theorem dX6_readStatement_115 : decode cX6_readStatement 115 = .ok (.goto 4, 3) := by decide +kernel
theorem dX6_readStatement_118 : decode cX6_readStatement 118 = .ok (.iconst 2, 1) := by decide +kernel
theorem dX6_readStatement_119 : decode cX6_readStatement 119 = .ok (.istore_n 3, 1) := by decide +kernel
theorem dX6_readStatement_120 : decode cX6_readStatement 120 = .ok (.iconst 0, 1) := by decide +kernel
theorem dX6_readStatement_121 : decode cX6_readStatement 121 = .ok (.istore 4, 2) := by decide +kernel
theorem dX6_readStatement_123 : decode cX6_readStatement 123 = .ok (.iload 4, 2) := by decide +kernel
theorem dX6_readStatement_125 : decode cX6_readStatement 125 = .ok (.iload_n 3, 1) := by decide +kernel
theorem dX6_readStatement_126 : decode cX6_readStatement 126 = .ok (.if_icmp .ge 24, 3) := by decide +kernel
theorem dX6_readStatement_129 : decode cX6_readStatement 129 = .ok (.aload_n 0, 1) := by decide +kernel
theorem dX6_readStatement_130 : decode cX6_readStatement 130 = .ok (.getfield 53, 3) := by decide +kernel
theorem dX6_readStatement_133 : decode cX6_readStatement 133 = .ok (.iconst 3, 1) := by decide +kernel
theorem dX6_readStatement_134 : decode cX6_readStatement 134 = .ok (.iload_n 1, 1) := by decide +kernel
theorem dX6_readStatement_135 : decode cX6_readStatement 135 = .ok (.imul, 1) := by decide +kernel
theorem dX6_readStatement_136 : decode cX6_readStatement 136 = .ok (.iload 4, 2) := by decide +kernel
theorem dX6_readStatement_138 : decode cX6_readStatement 138 = .ok (.iadd, 1) := by decide +kernel
theorem dX6_readStatement_139 : decode cX6_readStatement 139 = .ok (.aload_n 0, 1) := by decide +kernel
theorem dX6_readStatement_140 : decode cX6_readStatement 140 = .ok (.invokevirtual 156, 3) := by decide +kernel
theorem dX6_readStatement_143 : decode cX6_readStatement 143 = .ok (.iastore, 1) := by decide +kernel
theorem dX6_readStatement_144 : decode cX6_readStatement 144 = .ok (.iinc 4 1, 3) := by decide +kernel
theorem dX6_readStatement_147 : decode cX6_readStatement 147 = .ok (.goto (-24), 3) := by decide +kernel
theorem dX6_readStatement_150 : decode cX6_readStatement 150 = .ok (.aload_n 0, 1) := by decide +kernel
theorem dX6_readStatement_151 : decode cX6_readStatement 151 = .ok (.aload_n 0, 1) := by decide +kernel
theorem dX6_readStatement_152 : decode cX6_readStatement 152 = .ok (.getfield 142, 3) := by decide +kernel
theorem dX6_readStatement_155 : decode cX6_readStatement 155 = .ok (.ifCond .ne 12, 3) := by decide +kernel
theorem dX6_readStatement_158 : decode cX6_readStatement 158 = .ok (.aload_n 0, 1) := by decide +kernel
theorem dX6_readStatement_159 : decode cX6_readStatement 159 = .ok (.invokevirtual 145, 3) := by decide +kernel
theorem dX6_readStatement_162 : decode cX6_readStatement 162 = .ok (.bipush 59, 2) := by decide +kernel
theorem dX6_readStatement_164 : decode cX6_readStatement 164 = .ok (.if_icmp .eq 7, 3) := by decide +kernel
theorem dX6_readStatement_167 : decode cX6_readStatement 167 = .ok (.iconst 1, 1) := by decide +kernel
theorem dX6_readStatement_168 : decode cX6_readStatement 168 = .ok (.goto 4, 3) := by decide +kernel
theorem dX6_readStatement_171 : decode cX6_readStatement 171 = .ok (.iconst 0, 1) := by decide +kernel
theorem dX6_readStatement_172 : decode cX6_readStatement 172 = .ok (.putfield 142, 3) := by decide +kernel
theorem dX6_readStatement_175 : decode cX6_readStatement 175 = .ok (.aload_n 0, 1) := by decide +kernel
theorem dX6_readStatement_176 : decode cX6_readStatement 176 = .ok (.dup, 1) := by decide +kernel
theorem dX6_readStatement_177 : decode cX6_readStatement 177 = .ok (.getfield 133, 3) := by decide +kernel
theorem dX6_readStatement_180 : decode cX6_readStatement 180 = .ok (.aload_n 0, 1) := by decide +kernel
theorem dX6_readStatement_181 : decode cX6_readStatement 181 = .ok (.getfield 142, 3) := by decide +kernel
theorem dX6_readStatement_184 : decode cX6_readStatement 184 = .ok (.ifCond .eq 7, 3) := by decide +kernel
theorem dX6_readStatement_187 : decode cX6_readStatement 187 = .ok (.iconst 0, 1) := by decide +kernel
theorem dX6_readStatement_188 : decode cX6_readStatement 188 = .ok (.goto 4, 3) := by decide +kernel
theorem dX6_readStatement_191 : decode cX6_readStatement 191 = .ok (.iconst 1, 1) := by decide +kernel
theorem dX6_readStatement_192 : decode cX6_readStatement 192 = .ok (.iadd, 1) := by decide +kernel
theorem dX6_readStatement_193 : decode cX6_readStatement 193 = .ok (.putfield 133, 3) := by decide +kernel
theorem dX6_readStatement_196 : decode cX6_readStatement 196 = .ok (.aload_n 0, 1) := by decide +kernel
theorem dX6_readStatement_197 : decode cX6_readStatement 197 = .ok (.dup, 1) := by decide +kernel
theorem dX6_readStatement_198 : decode cX6_readStatement 198 = .ok (.getfield 153, 3) := by decide +kernel
theorem dX6_readStatement_201 : decode cX6_readStatement 201 = .ok (.iconst 1, 1) := by decide +kernel
theorem dX6_readStatement_202 : decode cX6_readStatement 202 = .ok (.iadd, 1) := by decide +kernel
theorem dX6_readStatement_203 : decode cX6_readStatement 203 = .ok (.putfield 153, 3) := by decide +kernel
theorem dX6_readStatement_206 : decode cX6_readStatement 206 = .ok (.return_, 1) := by decide +kernel
theorem dX6_comes_0 : decode cX6_comes 0 = .ok (.aload_n 0, 1) := by decide +kernel
theorem dX6_comes_1 : decode cX6_comes 1 = .ok (.getfield 53, 3) := by decide +kernel
theorem dX6_comes_4 : decode cX6_comes 4 = .ok (.iconst 3, 1) := by decide +kernel
theorem dX6_comes_5 : decode cX6_comes 5 = .ok (.iload_n 1, 1) := by decide +kernel
theorem dX6_comes_6 : decode cX6_comes 6 = .ok (.imul, 1) := by decide +kernel
theorem dX6_comes_7 : decode cX6_comes 7 = .ok (.iaload, 1) := by decide +kernel
theorem dX6_comes_8 : decode cX6_comes 8 = .ok (.istore_n 2, 1) := by decide +kernel
theorem dX6_comes_9 : decode cX6_comes 9 = .ok (.aload_n 0, 1) := by decide +kernel
theorem dX6_comes_10 : decode cX6_comes 10 = .ok (.getfield 53, 3) := by decide +kernel
theorem dX6_comes_13 : decode cX6_comes 13 = .ok (.iconst 3, 1) := by decide +kernel
theorem dX6_comes_14 : decode cX6_comes 14 = .ok (.iload_n 1, 1) := by decide +kernel
theorem dX6_comes_15 : decode cX6_comes 15 = .ok (.imul, 1) := by decide +kernel
theorem dX6_comes_16 : decode cX6_comes 16 = .ok (.iconst 1, 1) := by decide +kernel
theorem dX6_comes_17 : decode cX6_comes 17 = .ok (.iadd, 1) := by decide +kernel
theorem dX6_comes_18 : decode cX6_comes 18 = .ok (.iaload, 1) := by decide +kernel
theorem dX6_comes_19 : decode cX6_comes 19 = .ok (.istore_n 3, 1) := by decide +kernel
theorem dX6_comes_20 : decode cX6_comes 20 = .ok (.aload_n 0, 1) := by decide +kernel
theorem dX6_comes_21 : decode cX6_comes 21 = .ok (.getfield 50, 3) := by decide +kernel
theorem dX6_comes_24 : decode cX6_comes 24 = .ok (.iload_n 1, 1) := by decide +kernel
theorem dX6_comes_25 : decode cX6_comes 25 = .ok (.iaload, 1) := by decide +kernel
theorem dX6_comes_26 : decode cX6_comes 26 = .ok (.lookupswitch 135 #[(100, 76), (110, 115), (112, 34)], 34) := by decide +kernel
theorem dX6_comes_60 : decode cX6_comes 60 = .ok (.aload_n 0, 1) := by decide +kernel
theorem dX6_comes_61 : decode cX6_comes 61 = .ok (.getfield 81, 3) := by decide +kernel
theorem dX6_comes_64 : decode cX6_comes 64 = .ok (.bipush 6, 2) := by decide +kernel
theorem dX6_comes_66 : decode cX6_comes 66 = .ok (.if_icmp .ge 7, 3) := by decide +kernel
theorem dX6_comes_69 : decode cX6_comes 69 = .ok (.iconst 1, 1) := by decide +kernel
theorem dX6_comes_70 : decode cX6_comes 70 = .ok (.goto 4, 3) := by decide +kernel
theorem dX6_comes_73 : decode cX6_comes 73 = .ok (.iconst 0, 1) := by decide +kernel
theorem dX6_comes_74 : decode cX6_comes 74 = .ok (.istore 4, 2) := by decide +kernel
theorem dX6_comes_76 : decode cX6_comes 76 = .ok (.iload 4, 2) := by decide +kernel
theorem dX6_comes_78 : decode cX6_comes 78 = .ok (.ifCond .eq 21, 3) := by decide +kernel
theorem dX6_comes_81 : decode cX6_comes 81 = .ok (.aload_n 0, 1) := by decide +kernel
theorem dX6_comes_82 : decode cX6_comes 82 = .ok (.aload_n 0, 1) := by decide +kernel
theorem dX6_comes_83 : decode cX6_comes 83 = .ok (.getfield 81, 3) := by decide +kernel
theorem dX6_comes_86 : decode cX6_comes 86 = .ok (.invokevirtual 159, 3) := by decide +kernel
theorem dX6_comes_89 : decode cX6_comes 89 = .ok (.aload_n 0, 1) := by decide +kernel
theorem dX6_comes_90 : decode cX6_comes 90 = .ok (.dup, 1) := by decide +kernel
theorem dX6_comes_91 : decode cX6_comes 91 = .ok (.getfield 81, 3) := by decide +kernel
theorem dX6_comes_94 : decode cX6_comes 94 = .ok (.iconst 1, 1) := by decide +kernel
theorem dX6_comes_95 : decode cX6_comes 95 = .ok (.iadd, 1) := by decide +kernel
theorem dX6_comes_96 : decode cX6_comes 96 = .ok (.putfield 81, 3) := by decide +kernel
theorem dX6_comes_99 : decode cX6_comes 99 = .ok (.iload 4, 2) := by decide +kernel
theorem dX6_comes_101 : decode cX6_comes 101 = .ok (.ireturn, 1) := by decide +kernel
theorem dX6_comes_102 : decode cX6_comes 102 = .ok (.aload_n 0, 1) := by decide +kernel
theorem dX6_comes_103 : decode cX6_comes 103 = .ok (.iload_n 2, 1) := by decide +kernel
theorem dX6_comes_104 : decode cX6_comes 104 = .ok (.invokevirtual 163, 3) := by decide +kernel
theorem dX6_comes_107 : decode cX6_comes 107 = .ok (.ifCond .eq 32, 3) := by decide +kernel
theorem dX6_comes_110 : decode cX6_comes 110 = .ok (.iload_n 3, 1) := by decide +kernel
theorem dX6_comes_111 : decode cX6_comes 111 = .ok (.bipush 8, 2) := by decide +kernel
theorem dX6_comes_113 : decode cX6_comes 113 = .ok (.if_icmp .ge 26, 3) := by decide +kernel
theorem dX6_comes_116 : decode cX6_comes 116 = .ok (.aload_n 0, 1) := by decide +kernel
theorem dX6_comes_117 : decode cX6_comes 117 = .ok (.iload_n 2, 1) := by decide +kernel
theorem dX6_comes_118 : decode cX6_comes 118 = .ok (.iload_n 3, 1) := by decide +kernel
theorem dX6_comes_119 : decode cX6_comes 119 = .ok (.aload_n 0, 1) := by decide +kernel
theorem dX6_comes_120 : decode cX6_comes 120 = .ok (.getfield 53, 3) := by decide +kernel
theorem dX6_comes_123 : decode cX6_comes 123 = .ok (.iconst 3, 1) := by decide +kernel
theorem dX6_comes_124 : decode cX6_comes 124 = .ok (.iload_n 1, 1) := by decide +kernel
theorem dX6_comes_125 : decode cX6_comes 125 = .ok (.imul, 1) := by decide +kernel
theorem dX6_comes_126 : decode cX6_comes 126 = .ok (.iconst 2, 1) := by decide +kernel
theorem dX6_comes_127 : decode cX6_comes 127 = .ok (.iadd, 1) := by decide +kernel
theorem dX6_comes_128 : decode cX6_comes 128 = .ok (.iaload, 1) := by decide +kernel
theorem dX6_comes_129 : decode cX6_comes 129 = .ok (.invokevirtual 167, 3) := by decide +kernel
theorem dX6_comes_132 : decode cX6_comes 132 = .ok (.ifCond .eq 7, 3) := by decide +kernel
theorem dX6_comes_135 : decode cX6_comes 135 = .ok (.iconst 1, 1) := by decide +kernel
theorem dX6_comes_136 : decode cX6_comes 136 = .ok (.goto 4, 3) := by decide +kernel
theorem dX6_comes_139 : decode cX6_comes 139 = .ok (.iconst 0, 1) := by decide +kernel
theorem dX6_comes_140 : decode cX6_comes 140 = .ok (.ireturn, 1) := by decide +kernel
theorem dX6_comes_141 : decode cX6_comes 141 = .ok (.aload_n 0, 1) := by decide +kernel
theorem dX6_comes_142 : decode cX6_comes 142 = .ok (.iload_n 2, 1) := by decide +kernel
theorem dX6_comes_143 : decode cX6_comes 143 = .ok (.invokevirtual 163, 3) := by decide +kernel
theorem dX6_comes_146 : decode cX6_comes 146 = .ok (.istore 4, 2) := by decide +kernel
theorem dX6_comes_148 : decode cX6_comes 148 = .ok (.iload 4, 2) := by decide +kernel
theorem dX6_comes_150 : decode cX6_comes 150 = .ok (.ifCond .eq 8, 3) := by decide +kernel
theorem dX6_comes_153 : decode cX6_comes 153 = .ok (.aload_n 0, 1) := by decide +kernel
theorem dX6_comes_154 : decode cX6_comes 154 = .ok (.iload_n 2, 1) := by decide +kernel
theorem dX6_comes_155 : decode cX6_comes 155 = .ok (.invokevirtual 159, 3) := by decide +kernel
theorem dX6_comes_158 : decode cX6_comes 158 = .ok (.iload 4, 2) := by decide +kernel
theorem dX6_comes_160 : decode cX6_comes 160 = .ok (.ireturn, 1) := by decide +kernel
theorem dX6_comes_161 : decode cX6_comes 161 = .ok (.aload_n 0, 1) := by decide +kernel
theorem dX6_comes_162 : decode cX6_comes 162 = .ok (.iload_n 2, 1) := by decide +kernel
theorem dX6_comes_163 : decode cX6_comes 163 = .ok (.invokevirtual 163, 3) := by decide +kernel
theorem dX6_comes_166 : decode cX6_comes 166 = .ok (.ifCond .eq 20, 3) := by decide +kernel
theorem dX6_comes_169 : decode cX6_comes 169 = .ok (.aload_n 0, 1) := by decide +kernel
theorem dX6_comes_170 : decode cX6_comes 170 = .ok (.iload_n 3, 1) := by decide +kernel
theorem dX6_comes_171 : decode cX6_comes 171 = .ok (.invokevirtual 163, 3) := by decide +kernel
theorem dX6_comes_174 : decode cX6_comes 174 = .ok (.ifCond .eq 12, 3) := by decide +kernel
theorem dX6_comes_177 : decode cX6_comes 177 = .ok (.iload_n 2, 1) := by decide +kernel
theorem dX6_comes_178 : decode cX6_comes 178 = .ok (.iload_n 3, 1) := by decide +kernel
theorem dX6_comes_179 : decode cX6_comes 179 = .ok (.if_icmp .eq 7, 3) := by decide +kernel
theorem dX6_comes_182 : decode cX6_comes 182 = .ok (.iconst 1, 1) := by decide +kernel
theorem dX6_comes_183 : decode cX6_comes 183 = .ok (.goto 4, 3) := by decide +kernel
theorem dX6_comes_186 : decode cX6_comes 186 = .ok (.iconst 0, 1) := by decide +kernel
theorem dX6_comes_187 : decode cX6_comes 187 = .ok (.istore 4, 2) := by decide +kernel
theorem dX6_comes_189 : decode cX6_comes 189 = .ok (.iload 4, 2) := by decide +kernel
theorem dX6_comes_191 : decode cX6_comes 191 = .ok (.ifCond .eq 9, 3) := by decide +kernel
theorem dX6_comes_194 : decode cX6_comes 194 = .ok (.aload_n 0, 1) := by decide +kernel
theorem dX6_comes_195 : decode cX6_comes 195 = .ok (.iload_n 2, 1) := by decide +kernel
theorem dX6_comes_196 : decode cX6_comes 196 = .ok (.iload_n 3, 1) := by decide +kernel
theorem dX6_comes_197 : decode cX6_comes 197 = .ok (.invokevirtual 170, 3) := by decide +kernel
theorem dX6_comes_200 : decode cX6_comes 200 = .ok (.iload 4, 2) := by decide +kernel
theorem dX6_comes_202 : decode cX6_comes 202 = .ok (.ireturn, 1) := by decide +kernel
theorem dX6_kitchen_0 : decode cX6_kitchen 0 = .ok (.aload_n 0, 1) := by decide +kernel
theorem dX6_kitchen_1 : decode cX6_kitchen 1 = .ok (.iconst 0, 1) := by decide +kernel
theorem dX6_kitchen_2 : decode cX6_kitchen 2 = .ok (.putfield 77, 3) := by decide +kernel
theorem dX6_kitchen_5 : decode cX6_kitchen 5 = .ok (.aload_n 0, 1) := by decide +kernel
theorem dX6_kitchen_6 : decode cX6_kitchen 6 = .ok (.iload_n 1, 1) := by decide +kernel
theorem dX6_kitchen_7 : decode cX6_kitchen 7 = .ok (.iconst 0, 1) := by decide +kernel
theorem dX6_kitchen_8 : decode cX6_kitchen 8 = .ok (.invokevirtual 174, 3) := by decide +kernel
theorem dX6_kitchen_11 : decode cX6_kitchen 11 = .ok (.istore_n 2, 1) := by decide +kernel
theorem dX6_kitchen_12 : decode cX6_kitchen 12 = .ok (.iload_n 2, 1) := by decide +kernel
theorem dX6_kitchen_13 : decode cX6_kitchen 13 = .ok (.ifCond .ge 5, 3) := by decide +kernel
theorem dX6_kitchen_16 : decode cX6_kitchen 16 = .ok (.iload_n 2, 1) := by decide +kernel
theorem dX6_kitchen_17 : decode cX6_kitchen 17 = .ok (.ireturn, 1) := by decide +kernel
theorem dX6_kitchen_18 : decode cX6_kitchen 18 = .ok (.aload_n 0, 1) := by decide +kernel
theorem dX6_kitchen_19 : decode cX6_kitchen 19 = .ok (.bipush 100, 2) := by decide +kernel
theorem dX6_kitchen_21 : decode cX6_kitchen 21 = .ok (.iload_n 1, 1) := by decide +kernel
theorem dX6_kitchen_22 : decode cX6_kitchen 22 = .ok (.imul, 1) := by decide +kernel
theorem dX6_kitchen_23 : decode cX6_kitchen 23 = .ok (.putfield 139, 3) := by decide +kernel
theorem dX6_kitchen_26 : decode cX6_kitchen 26 = .ok (.aload_n 0, 1) := by decide +kernel
theorem dX6_kitchen_27 : decode cX6_kitchen 27 = .ok (.aload_n 0, 1) := by decide +kernel
theorem dX6_kitchen_28 : decode cX6_kitchen 28 = .ok (.getfield 68, 3) := by decide +kernel
theorem dX6_kitchen_31 : decode cX6_kitchen 31 = .ok (.iload_n 1, 1) := by decide +kernel
theorem dX6_kitchen_32 : decode cX6_kitchen 32 = .ok (.iaload, 1) := by decide +kernel
theorem dX6_kitchen_33 : decode cX6_kitchen 33 = .ok (.putfield 136, 3) := by decide +kernel
theorem dX6_kitchen_36 : decode cX6_kitchen 36 = .ok (.aload_n 0, 1) := by decide +kernel
theorem dX6_kitchen_37 : decode cX6_kitchen 37 = .ok (.iconst 0, 1) := by decide +kernel
theorem dX6_kitchen_38 : decode cX6_kitchen 38 = .ok (.putfield 133, 3) := by decide +kernel
theorem dX6_kitchen_41 : decode cX6_kitchen 41 = .ok (.aload_n 0, 1) := by decide +kernel
theorem dX6_kitchen_42 : decode cX6_kitchen 42 = .ok (.iconst 0, 1) := by decide +kernel
theorem dX6_kitchen_43 : decode cX6_kitchen 43 = .ok (.putfield 142, 3) := by decide +kernel
theorem dX6_kitchen_46 : decode cX6_kitchen 46 = .ok (.aload_n 0, 1) := by decide +kernel
theorem dX6_kitchen_47 : decode cX6_kitchen 47 = .ok (.iconst 0, 1) := by decide +kernel
theorem dX6_kitchen_48 : decode cX6_kitchen 48 = .ok (.putfield 153, 3) := by decide +kernel
theorem dX6_kitchen_51 : decode cX6_kitchen 51 = .ok (.aload_n 0, 1) := by decide +kernel
theorem dX6_kitchen_52 : decode cX6_kitchen 52 = .ok (.getfield 142, 3) := by decide +kernel
theorem dX6_kitchen_55 : decode cX6_kitchen 55 = .ok (.ifCond .ne 28, 3) := by decide +kernel
theorem dX6_kitchen_58 : decode cX6_kitchen 58 = .ok (.aload_n 0, 1) := by decide +kernel
theorem dX6_kitchen_59 : decode cX6_kitchen 59 = .ok (.getfield 153, 3) := by decide +kernel
theorem dX6_kitchen_62 : decode cX6_kitchen 62 = .ok (.ifCond .eq 14, 3) := by decide +kernel
theorem dX6_kitchen_65 : decode cX6_kitchen 65 = .ok (.aload_n 0, 1) := by decide +kernel
theorem dX6_kitchen_66 : decode cX6_kitchen 66 = .ok (.getfield 133, 3) := by decide +kernel
theorem dX6_kitchen_69 : decode cX6_kitchen 69 = .ok (.aload_n 0, 1) := by decide +kernel
theorem dX6_kitchen_70 : decode cX6_kitchen 70 = .ok (.getfield 136, 3) := by decide +kernel
theorem dX6_kitchen_73 : decode cX6_kitchen 73 = .ok (.if_icmp .ge 10, 3) := by decide +kernel
theorem dX6_kitchen_76 : decode cX6_kitchen 76 = .ok (.aload_n 0, 1) := by decide +kernel
theorem dX6_kitchen_77 : decode cX6_kitchen 77 = .ok (.invokevirtual 178, 3) := by decide +kernel
theorem dX6_kitchen_80 : decode cX6_kitchen 80 = .ok (.goto (-29), 3) := by decide +kernel
theorem dX6_kitchen_83 : decode cX6_kitchen 83 = .ok (.aload_n 0, 1) := by decide +kernel
theorem dX6_kitchen_84 : decode cX6_kitchen 84 = .ok (.getfield 142, 3) := by decide +kernel
theorem dX6_kitchen_87 : decode cX6_kitchen 87 = .ok (.ifCond .eq 12, 3) := by decide +kernel
theorem dX6_kitchen_90 : decode cX6_kitchen 90 = .ok (.sipush (-1000), 3) := by decide +kernel
theorem dX6_kitchen_93 : decode cX6_kitchen 93 = .ok (.aload_n 0, 1) := by decide +kernel
theorem dX6_kitchen_94 : decode cX6_kitchen 94 = .ok (.getfield 133, 3) := by decide +kernel
theorem dX6_kitchen_97 : decode cX6_kitchen 97 = .ok (.isub, 1) := by decide +kernel
theorem dX6_kitchen_98 : decode cX6_kitchen 98 = .ok (.ireturn, 1) := by decide +kernel
theorem dX6_kitchen_99 : decode cX6_kitchen 99 = .ok (.aload_n 0, 1) := by decide +kernel
theorem dX6_kitchen_100 : decode cX6_kitchen 100 = .ok (.invokevirtual 181, 3) := by decide +kernel
theorem dX6_kitchen_103 : decode cX6_kitchen 103 = .ok (.iconst 0, 1) := by decide +kernel
theorem dX6_kitchen_104 : decode cX6_kitchen 104 = .ok (.istore_n 3, 1) := by decide +kernel
theorem dX6_kitchen_105 : decode cX6_kitchen 105 = .ok (.iload_n 3, 1) := by decide +kernel
theorem dX6_kitchen_106 : decode cX6_kitchen 106 = .ok (.aload_n 0, 1) := by decide +kernel
theorem dX6_kitchen_107 : decode cX6_kitchen 107 = .ok (.getfield 153, 3) := by decide +kernel
theorem dX6_kitchen_110 : decode cX6_kitchen 110 = .ok (.if_icmp .ge 32, 3) := by decide +kernel
theorem dX6_kitchen_113 : decode cX6_kitchen 113 = .ok (.aload_n 0, 1) := by decide +kernel
theorem dX6_kitchen_114 : decode cX6_kitchen 114 = .ok (.iload_n 3, 1) := by decide +kernel
theorem dX6_kitchen_115 : decode cX6_kitchen 115 = .ok (.invokevirtual 184, 3) := by decide +kernel
theorem dX6_kitchen_118 : decode cX6_kitchen 118 = .ok (.ifCond .ne 18, 3) := by decide +kernel
theorem dX6_kitchen_121 : decode cX6_kitchen 121 = .ok (.aload_n 0, 1) := by decide +kernel
theorem dX6_kitchen_122 : decode cX6_kitchen 122 = .ok (.invokevirtual 187, 3) := by decide +kernel
theorem dX6_kitchen_125 : decode cX6_kitchen 125 = .ok (.sipush (-2000), 3) := by decide +kernel
theorem dX6_kitchen_128 : decode cX6_kitchen 128 = .ok (.aload_n 0, 1) := by decide +kernel
theorem dX6_kitchen_129 : decode cX6_kitchen 129 = .ok (.getfield 47, 3) := by decide +kernel
theorem dX6_kitchen_132 : decode cX6_kitchen 132 = .ok (.iload_n 3, 1) := by decide +kernel
theorem dX6_kitchen_133 : decode cX6_kitchen 133 = .ok (.iaload, 1) := by decide +kernel
theorem dX6_kitchen_134 : decode cX6_kitchen 134 = .ok (.isub, 1) := by decide +kernel
theorem dX6_kitchen_135 : decode cX6_kitchen 135 = .ok (.ireturn, 1) := by decide +kernel
theorem dX6_kitchen_136 : decode cX6_kitchen 136 = .ok (.iinc 3 1, 3) := by decide +kernel
theorem dX6_kitchen_139 : decode cX6_kitchen 139 = .ok (.goto (-34), 3) := by decide +kernel
theorem dX6_kitchen_142 : decode cX6_kitchen 142 = .ok (.aload_n 0, 1) := by decide +kernel
theorem dX6_kitchen_143 : decode cX6_kitchen 143 = .ok (.getfield 153, 3) := by decide +kernel
theorem dX6_kitchen_146 : decode cX6_kitchen 146 = .ok (.ireturn, 1) := by decide +kernel
theorem dX6_pot_0 : decode cX6_pot 0 = .ok (.aload_n 0, 1) := by decide +kernel
theorem dX6_pot_1 : decode cX6_pot 1 = .ok (.iconst 0, 1) := by decide +kernel
theorem dX6_pot_2 : decode cX6_pot 2 = .ok (.putfield 77, 3) := by decide +kernel
theorem dX6_pot_5 : decode cX6_pot 5 = .ok (.aload_n 0, 1) := by decide +kernel
theorem dX6_pot_6 : decode cX6_pot 6 = .ok (.getfield 81, 3) := by decide +kernel
theorem dX6_pot_9 : decode cX6_pot 9 = .ok (.bipush 6, 2) := by decide +kernel
theorem dX6_pot_11 : decode cX6_pot 11 = .ok (.if_icmp .ne 6, 3) := by decide +kernel
theorem dX6_pot_14 : decode cX6_pot 14 = .ok (.bipush (-2), 2) := by decide +kernel
theorem dX6_pot_16 : decode cX6_pot 16 = .ok (.ireturn, 1) := by decide +kernel
theorem dX6_pot_17 : decode cX6_pot 17 = .ok (.aload_n 0, 1) := by decide +kernel
theorem dX6_pot_18 : decode cX6_pot 18 = .ok (.aload_n 0, 1) := by decide +kernel
theorem dX6_pot_19 : decode cX6_pot 19 = .ok (.getfield 81, 3) := by decide +kernel
theorem dX6_pot_22 : decode cX6_pot 22 = .ok (.invokevirtual 159, 3) := by decide +kernel
theorem dX6_pot_25 : decode cX6_pot 25 = .ok (.aload_n 0, 1) := by decide +kernel
theorem dX6_pot_26 : decode cX6_pot 26 = .ok (.dup, 1) := by decide +kernel
theorem dX6_pot_27 : decode cX6_pot 27 = .ok (.getfield 81, 3) := by decide +kernel
theorem dX6_pot_30 : decode cX6_pot 30 = .ok (.iconst 1, 1) := by decide +kernel
theorem dX6_pot_31 : decode cX6_pot 31 = .ok (.iadd, 1) := by decide +kernel
theorem dX6_pot_32 : decode cX6_pot 32 = .ok (.putfield 81, 3) := by decide +kernel
theorem dX6_pot_35 : decode cX6_pot 35 = .ok (.aload_n 0, 1) := by decide +kernel
theorem dX6_pot_36 : decode cX6_pot 36 = .ok (.getfield 81, 3) := by decide +kernel
theorem dX6_pot_39 : decode cX6_pot 39 = .ok (.iconst 1, 1) := by decide +kernel
theorem dX6_pot_40 : decode cX6_pot 40 = .ok (.isub, 1) := by decide +kernel
theorem dX6_pot_41 : decode cX6_pot 41 = .ok (.ireturn, 1) := by decide +kernel
theorem dX6_wrongDish_0 : decode cX6_wrongDish 0 = .ok (.iload_n 1, 1) := by decide +kernel
theorem dX6_wrongDish_1 : decode cX6_wrongDish 1 = .ok (.i2l, 1) := by decide +kernel
theorem dX6_wrongDish_2 : decode cX6_wrongDish 2 = .ok (.lconst 0, 1) := by decide +kernel
theorem dX6_wrongDish_3 : decode cX6_wrongDish 3 = .ok (.ldc2_w 190, 3) := by decide +kernel
theorem dX6_wrongDish_6 : decode cX6_wrongDish 6 = .ok (.invokestatic 84, 3) := by decide +kernel
theorem dX6_wrongDish_9 : decode cX6_wrongDish 9 = .ok (.ifCond .ne 7, 3) := by decide +kernel
theorem dX6_wrongDish_12 : decode cX6_wrongDish 12 = .ok (.iconst (-1), 1) := by decide +kernel
theorem dX6_wrongDish_13 : decode cX6_wrongDish 13 = .ok (.goto 33, 3) := by decide +kernel
theorem dX6_wrongDish_16 : decode cX6_wrongDish 16 = .ok (.aload_n 0, 1) := by decide +kernel
theorem dX6_wrongDish_17 : decode cX6_wrongDish 17 = .ok (.getfield 56, 3) := by decide +kernel
theorem dX6_wrongDish_20 : decode cX6_wrongDish 20 = .ok (.iload_n 1, 1) := by decide +kernel
theorem dX6_wrongDish_21 : decode cX6_wrongDish 21 = .ok (.iaload, 1) := by decide +kernel
theorem dX6_wrongDish_22 : decode cX6_wrongDish 22 = .ok (.ifCond .ne 8, 3) := by decide +kernel
theorem dX6_wrongDish_25 : decode cX6_wrongDish 25 = .ok (.bipush (-11), 2) := by decide +kernel
theorem dX6_wrongDish_27 : decode cX6_wrongDish 27 = .ok (.goto 19, 3) := by decide +kernel
theorem dX6_wrongDish_30 : decode cX6_wrongDish 30 = .ok (.aload_n 0, 1) := by decide +kernel
theorem dX6_wrongDish_31 : decode cX6_wrongDish 31 = .ok (.getfield 56, 3) := by decide +kernel
theorem dX6_wrongDish_34 : decode cX6_wrongDish 34 = .ok (.iload_n 1, 1) := by decide +kernel
theorem dX6_wrongDish_35 : decode cX6_wrongDish 35 = .ok (.iaload, 1) := by decide +kernel
theorem dX6_wrongDish_36 : decode cX6_wrongDish 36 = .ok (.iconst 1, 1) := by decide +kernel
theorem dX6_wrongDish_37 : decode cX6_wrongDish 37 = .ok (.if_icmp .eq 8, 3) := by decide +kernel
theorem dX6_wrongDish_40 : decode cX6_wrongDish 40 = .ok (.bipush (-12), 2) := by decide +kernel
theorem dX6_wrongDish_42 : decode cX6_wrongDish 42 = .ok (.goto 4, 3) := by decide +kernel
theorem dX6_wrongDish_45 : decode cX6_wrongDish 45 = .ok (.iconst 0, 1) := by decide +kernel
theorem dX6_wrongDish_46 : decode cX6_wrongDish 46 = .ok (.ireturn, 1) := by decide +kernel
theorem dX6_cook_0 : decode cX6_cook 0 = .ok (.aload_n 0, 1) := by decide +kernel
theorem dX6_cook_1 : decode cX6_cook 1 = .ok (.iconst 0, 1) := by decide +kernel
theorem dX6_cook_2 : decode cX6_cook 2 = .ok (.putfield 77, 3) := by decide +kernel
theorem dX6_cook_5 : decode cX6_cook 5 = .ok (.aload_n 0, 1) := by decide +kernel
theorem dX6_cook_6 : decode cX6_cook 6 = .ok (.iload_n 2, 1) := by decide +kernel
theorem dX6_cook_7 : decode cX6_cook 7 = .ok (.invokevirtual 163, 3) := by decide +kernel
theorem dX6_cook_10 : decode cX6_cook 10 = .ok (.ifCond .eq 11, 3) := by decide +kernel
theorem dX6_cook_13 : decode cX6_cook 13 = .ok (.aload_n 0, 1) := by decide +kernel
theorem dX6_cook_14 : decode cX6_cook 14 = .ok (.iload_n 1, 1) := by decide +kernel
theorem dX6_cook_15 : decode cX6_cook 15 = .ok (.invokevirtual 192, 3) := by decide +kernel
theorem dX6_cook_18 : decode cX6_cook 18 = .ok (.goto 4, 3) := by decide +kernel
theorem dX6_cook_21 : decode cX6_cook 21 = .ok (.iconst (-1), 1) := by decide +kernel
theorem dX6_cook_22 : decode cX6_cook 22 = .ok (.istore_n 3, 1) := by decide +kernel
theorem dX6_cook_23 : decode cX6_cook 23 = .ok (.iload_n 3, 1) := by decide +kernel
theorem dX6_cook_24 : decode cX6_cook 24 = .ok (.ifCond .ge 5, 3) := by decide +kernel
theorem dX6_cook_27 : decode cX6_cook 27 = .ok (.iload_n 3, 1) := by decide +kernel
theorem dX6_cook_28 : decode cX6_cook 28 = .ok (.ireturn, 1) := by decide +kernel
theorem dX6_cook_29 : decode cX6_cook 29 = .ok (.aload_n 0, 1) := by decide +kernel
theorem dX6_cook_30 : decode cX6_cook 30 = .ok (.iload_n 2, 1) := by decide +kernel
theorem dX6_cook_31 : decode cX6_cook 31 = .ok (.aload_n 0, 1) := by decide +kernel
theorem dX6_cook_32 : decode cX6_cook 32 = .ok (.getfield 59, 3) := by decide +kernel
theorem dX6_cook_35 : decode cX6_cook 35 = .ok (.iload_n 1, 1) := by decide +kernel
theorem dX6_cook_36 : decode cX6_cook 36 = .ok (.iaload, 1) := by decide +kernel
theorem dX6_cook_37 : decode cX6_cook 37 = .ok (.aload_n 0, 1) := by decide +kernel
theorem dX6_cook_38 : decode cX6_cook 38 = .ok (.getfield 62, 3) := by decide +kernel
theorem dX6_cook_41 : decode cX6_cook 41 = .ok (.iload_n 1, 1) := by decide +kernel
theorem dX6_cook_42 : decode cX6_cook 42 = .ok (.iaload, 1) := by decide +kernel
theorem dX6_cook_43 : decode cX6_cook 43 = .ok (.invokevirtual 167, 3) := by decide +kernel
theorem dX6_cook_46 : decode cX6_cook 46 = .ok (.ifCond .eq 12, 3) := by decide +kernel
theorem dX6_cook_49 : decode cX6_cook 49 = .ok (.aload_n 0, 1) := by decide +kernel
theorem dX6_cook_50 : decode cX6_cook 50 = .ok (.getfield 13, 3) := by decide +kernel
theorem dX6_cook_53 : decode cX6_cook 53 = .ok (.iload_n 2, 1) := by decide +kernel
theorem dX6_cook_54 : decode cX6_cook 54 = .ok (.iaload, 1) := by decide +kernel
theorem dX6_cook_55 : decode cX6_cook 55 = .ok (.goto 5, 3) := by decide +kernel
theorem dX6_cook_58 : decode cX6_cook 58 = .ok (.bipush (-2), 2) := by decide +kernel
theorem dX6_cook_60 : decode cX6_cook 60 = .ok (.ireturn, 1) := by decide +kernel
theorem dX6_dish_0 : decode cX6_dish 0 = .ok (.aload_n 0, 1) := by decide +kernel
theorem dX6_dish_1 : decode cX6_dish 1 = .ok (.iconst 0, 1) := by decide +kernel
theorem dX6_dish_2 : decode cX6_dish 2 = .ok (.putfield 77, 3) := by decide +kernel
theorem dX6_dish_5 : decode cX6_dish 5 = .ok (.aload_n 0, 1) := by decide +kernel
theorem dX6_dish_6 : decode cX6_dish 6 = .ok (.iload_n 1, 1) := by decide +kernel
theorem dX6_dish_7 : decode cX6_dish 7 = .ok (.invokevirtual 163, 3) := by decide +kernel
theorem dX6_dish_10 : decode cX6_dish 10 = .ok (.ifCond .eq 17, 3) := by decide +kernel
theorem dX6_dish_13 : decode cX6_dish 13 = .ok (.iload_n 2, 1) := by decide +kernel
theorem dX6_dish_14 : decode cX6_dish 14 = .ok (.ifCond .lt 13, 3) := by decide +kernel
theorem dX6_dish_17 : decode cX6_dish 17 = .ok (.iload_n 3, 1) := by decide +kernel
theorem dX6_dish_18 : decode cX6_dish 18 = .ok (.i2l, 1) := by decide +kernel
theorem dX6_dish_19 : decode cX6_dish 19 = .ok (.lconst 0, 1) := by decide +kernel
theorem dX6_dish_20 : decode cX6_dish 20 = .ok (.lconst 1, 1) := by decide +kernel
theorem dX6_dish_21 : decode cX6_dish 21 = .ok (.invokestatic 84, 3) := by decide +kernel
theorem dX6_dish_24 : decode cX6_dish 24 = .ok (.ifCond .ne 5, 3) := by decide +kernel
theorem dX6_dish_27 : decode cX6_dish 27 = .ok (.iconst (-1), 1) := by decide +kernel
theorem dX6_dish_28 : decode cX6_dish 28 = .ok (.ireturn, 1) := by decide +kernel
theorem dX6_dish_29 : decode cX6_dish 29 = .ok (.iload_n 2, 1) := by decide +kernel
theorem dX6_dish_30 : decode cX6_dish 30 = .ok (.aload_n 0, 1) := by decide +kernel
theorem dX6_dish_31 : decode cX6_dish 31 = .ok (.getfield 13, 3) := by decide +kernel
theorem dX6_dish_34 : decode cX6_dish 34 = .ok (.iload_n 1, 1) := by decide +kernel
theorem dX6_dish_35 : decode cX6_dish 35 = .ok (.iaload, 1) := by decide +kernel
theorem dX6_dish_36 : decode cX6_dish 36 = .ok (.if_icmp .lt 6, 3) := by decide +kernel
theorem dX6_dish_39 : decode cX6_dish 39 = .ok (.bipush (-4), 2) := by decide +kernel
theorem dX6_dish_41 : decode cX6_dish 41 = .ok (.ireturn, 1) := by decide +kernel
theorem dX6_dish_42 : decode cX6_dish 42 = .ok (.bipush 12, 2) := by decide +kernel
theorem dX6_dish_44 : decode cX6_dish 44 = .ok (.iload_n 1, 1) := by decide +kernel
theorem dX6_dish_45 : decode cX6_dish 45 = .ok (.imul, 1) := by decide +kernel
theorem dX6_dish_46 : decode cX6_dish 46 = .ok (.aload_n 0, 1) := by decide +kernel
theorem dX6_dish_47 : decode cX6_dish 47 = .ok (.getfield 13, 3) := by decide +kernel
theorem dX6_dish_50 : decode cX6_dish 50 = .ok (.iload_n 1, 1) := by decide +kernel
theorem dX6_dish_51 : decode cX6_dish 51 = .ok (.iaload, 1) := by decide +kernel
theorem dX6_dish_52 : decode cX6_dish 52 = .ok (.iadd, 1) := by decide +kernel
theorem dX6_dish_53 : decode cX6_dish 53 = .ok (.iconst 1, 1) := by decide +kernel
theorem dX6_dish_54 : decode cX6_dish 54 = .ok (.isub, 1) := by decide +kernel
theorem dX6_dish_55 : decode cX6_dish 55 = .ok (.iload_n 2, 1) := by decide +kernel
theorem dX6_dish_56 : decode cX6_dish 56 = .ok (.isub, 1) := by decide +kernel
theorem dX6_dish_57 : decode cX6_dish 57 = .ok (.istore 4, 2) := by decide +kernel
theorem dX6_dish_59 : decode cX6_dish 59 = .ok (.iload_n 3, 1) := by decide +kernel
theorem dX6_dish_60 : decode cX6_dish 60 = .ok (.ifCond .ne 13, 3) := by decide +kernel
theorem dX6_dish_63 : decode cX6_dish 63 = .ok (.aload_n 0, 1) := by decide +kernel
theorem dX6_dish_64 : decode cX6_dish 64 = .ok (.getfield 17, 3) := by decide +kernel
theorem dX6_dish_67 : decode cX6_dish 67 = .ok (.iload 4, 2) := by decide +kernel
theorem dX6_dish_69 : decode cX6_dish 69 = .ok (.iaload, 1) := by decide +kernel
theorem dX6_dish_70 : decode cX6_dish 70 = .ok (.goto 10, 3) := by decide +kernel
theorem dX6_dish_73 : decode cX6_dish 73 = .ok (.aload_n 0, 1) := by decide +kernel
theorem dX6_dish_74 : decode cX6_dish 74 = .ok (.getfield 20, 3) := by decide +kernel
theorem dX6_dish_77 : decode cX6_dish 77 = .ok (.iload 4, 2) := by decide +kernel
theorem dX6_dish_79 : decode cX6_dish 79 = .ok (.iaload, 1) := by decide +kernel
theorem dX6_dish_80 : decode cX6_dish 80 = .ok (.ireturn, 1) := by decide +kernel
theorem dX6_dishes_0 : decode cX6_dishes 0 = .ok (.aload_n 0, 1) := by decide +kernel
theorem dX6_dishes_1 : decode cX6_dishes 1 = .ok (.iconst 0, 1) := by decide +kernel
theorem dX6_dishes_2 : decode cX6_dishes 2 = .ok (.putfield 77, 3) := by decide +kernel
theorem dX6_dishes_5 : decode cX6_dishes 5 = .ok (.aload_n 0, 1) := by decide +kernel
theorem dX6_dishes_6 : decode cX6_dishes 6 = .ok (.iload_n 1, 1) := by decide +kernel
theorem dX6_dishes_7 : decode cX6_dishes 7 = .ok (.invokevirtual 163, 3) := by decide +kernel
theorem dX6_dishes_10 : decode cX6_dishes 10 = .ok (.ifCond .eq 12, 3) := by decide +kernel
theorem dX6_dishes_13 : decode cX6_dishes 13 = .ok (.aload_n 0, 1) := by decide +kernel
theorem dX6_dishes_14 : decode cX6_dishes 14 = .ok (.getfield 13, 3) := by decide +kernel
theorem dX6_dishes_17 : decode cX6_dishes 17 = .ok (.iload_n 1, 1) := by decide +kernel
theorem dX6_dishes_18 : decode cX6_dishes 18 = .ok (.iaload, 1) := by decide +kernel
theorem dX6_dishes_19 : decode cX6_dishes 19 = .ok (.goto 4, 3) := by decide +kernel
theorem dX6_dishes_22 : decode cX6_dishes 22 = .ok (.iconst (-1), 1) := by decide +kernel
theorem dX6_dishes_23 : decode cX6_dishes 23 = .ok (.ireturn, 1) := by decide +kernel
theorem dX6_least_0 : decode cX6_least 0 = .ok (.lload_n 0, 1) := by decide +kernel
theorem dX6_least_1 : decode cX6_least 1 = .ok (.lstore 5, 2) := by decide +kernel
theorem dX6_least_3 : decode cX6_least 3 = .ok (.lload_n 2, 1) := by decide +kernel
theorem dX6_least_4 : decode cX6_least 4 = .ok (.lstore 7, 2) := by decide +kernel
theorem dX6_least_6 : decode cX6_least 6 = .ok (.lload 7, 2) := by decide +kernel
theorem dX6_least_8 : decode cX6_least 8 = .ok (.lconst 0, 1) := by decide +kernel
theorem dX6_least_9 : decode cX6_least 9 = .ok (.lcmp, 1) := by decide +kernel
theorem dX6_least_10 : decode cX6_least 10 = .ok (.ifCond .eq 21, 3) := by decide +kernel
theorem dX6_least_13 : decode cX6_least 13 = .ok (.lload 5, 2) := by decide +kernel
theorem dX6_least_15 : decode cX6_least 15 = .ok (.lload 7, 2) := by decide +kernel
theorem dX6_least_17 : decode cX6_least 17 = .ok (.lrem, 1) := by decide +kernel
theorem dX6_least_18 : decode cX6_least 18 = .ok (.lstore 9, 2) := by decide +kernel
theorem dX6_least_20 : decode cX6_least 20 = .ok (.lload 7, 2) := by decide +kernel
theorem dX6_least_22 : decode cX6_least 22 = .ok (.lstore 5, 2) := by decide +kernel
theorem dX6_least_24 : decode cX6_least 24 = .ok (.lload 9, 2) := by decide +kernel
theorem dX6_least_26 : decode cX6_least 26 = .ok (.lstore 7, 2) := by decide +kernel
theorem dX6_least_28 : decode cX6_least 28 = .ok (.goto (-22), 3) := by decide +kernel
theorem dX6_least_31 : decode cX6_least 31 = .ok (.iload 4, 2) := by decide +kernel
theorem dX6_least_33 : decode cX6_least 33 = .ok (.ifCond .ne 10, 3) := by decide +kernel
theorem dX6_least_36 : decode cX6_least 36 = .ok (.lload_n 0, 1) := by decide +kernel
theorem dX6_least_37 : decode cX6_least 37 = .ok (.lload 5, 2) := by decide +kernel
theorem dX6_least_39 : decode cX6_least 39 = .ok (.ldiv, 1) := by decide +kernel
theorem dX6_least_40 : decode cX6_least 40 = .ok (.goto 7, 3) := by decide +kernel
theorem dX6_least_43 : decode cX6_least 43 = .ok (.lload_n 2, 1) := by decide +kernel
theorem dX6_least_44 : decode cX6_least 44 = .ok (.lload 5, 2) := by decide +kernel
theorem dX6_least_46 : decode cX6_least 46 = .ok (.ldiv, 1) := by decide +kernel
theorem dX6_least_47 : decode cX6_least 47 = .ok (.lreturn, 1) := by decide +kernel
theorem dX6_taste_0 : decode cX6_taste 0 = .ok (.aload_n 0, 1) := by decide +kernel
theorem dX6_taste_1 : decode cX6_taste 1 = .ok (.iconst 0, 1) := by decide +kernel
theorem dX6_taste_2 : decode cX6_taste 2 = .ok (.putfield 77, 3) := by decide +kernel
theorem dX6_taste_5 : decode cX6_taste 5 = .ok (.aload_n 0, 1) := by decide +kernel
theorem dX6_taste_6 : decode cX6_taste 6 = .ok (.iload_n 1, 1) := by decide +kernel
theorem dX6_taste_7 : decode cX6_taste 7 = .ok (.invokevirtual 163, 3) := by decide +kernel
theorem dX6_taste_10 : decode cX6_taste 10 = .ok (.ifCond .eq 25, 3) := by decide +kernel
theorem dX6_taste_13 : decode cX6_taste 13 = .ok (.iload_n 2, 1) := by decide +kernel
theorem dX6_taste_14 : decode cX6_taste 14 = .ok (.i2l, 1) := by decide +kernel
theorem dX6_taste_15 : decode cX6_taste 15 = .ok (.lconst 0, 1) := by decide +kernel
theorem dX6_taste_16 : decode cX6_taste 16 = .ok (.ldc2_w 195, 3) := by decide +kernel
theorem dX6_taste_19 : decode cX6_taste 19 = .ok (.invokestatic 84, 3) := by decide +kernel
theorem dX6_taste_22 : decode cX6_taste 22 = .ok (.ifCond .eq 13, 3) := by decide +kernel
theorem dX6_taste_25 : decode cX6_taste 25 = .ok (.iload_n 3, 1) := by decide +kernel
theorem dX6_taste_26 : decode cX6_taste 26 = .ok (.i2l, 1) := by decide +kernel
theorem dX6_taste_27 : decode cX6_taste 27 = .ok (.lconst 0, 1) := by decide +kernel
theorem dX6_taste_28 : decode cX6_taste 28 = .ok (.lconst 1, 1) := by decide +kernel
theorem dX6_taste_29 : decode cX6_taste 29 = .ok (.invokestatic 84, 3) := by decide +kernel
theorem dX6_taste_32 : decode cX6_taste 32 = .ok (.ifCond .ne 7, 3) := by decide +kernel
theorem dX6_taste_35 : decode cX6_taste 35 = .ok (.ldc2_w 197, 3) := by decide +kernel
theorem dX6_taste_38 : decode cX6_taste 38 = .ok (.lreturn, 1) := by decide +kernel
theorem dX6_taste_39 : decode cX6_taste 39 = .ok (.aload_n 0, 1) := by decide +kernel
theorem dX6_taste_40 : decode cX6_taste 40 = .ok (.getfield 7, 3) := by decide +kernel
theorem dX6_taste_43 : decode cX6_taste 43 = .ok (.iconst 4, 1) := by decide +kernel
theorem dX6_taste_44 : decode cX6_taste 44 = .ok (.iload_n 1, 1) := by decide +kernel
theorem dX6_taste_45 : decode cX6_taste 45 = .ok (.imul, 1) := by decide +kernel
theorem dX6_taste_46 : decode cX6_taste 46 = .ok (.iload_n 2, 1) := by decide +kernel
theorem dX6_taste_47 : decode cX6_taste 47 = .ok (.iadd, 1) := by decide +kernel
theorem dX6_taste_48 : decode cX6_taste 48 = .ok (.laload, 1) := by decide +kernel
theorem dX6_taste_49 : decode cX6_taste 49 = .ok (.aload_n 0, 1) := by decide +kernel
theorem dX6_taste_50 : decode cX6_taste 50 = .ok (.getfield 13, 3) := by decide +kernel
theorem dX6_taste_53 : decode cX6_taste 53 = .ok (.iload_n 1, 1) := by decide +kernel
theorem dX6_taste_54 : decode cX6_taste 54 = .ok (.iaload, 1) := by decide +kernel
theorem dX6_taste_55 : decode cX6_taste 55 = .ok (.invokestatic 90, 3) := by decide +kernel
theorem dX6_taste_58 : decode cX6_taste 58 = .ok (.iload_n 3, 1) := by decide +kernel
theorem dX6_taste_59 : decode cX6_taste 59 = .ok (.invokestatic 199, 3) := by decide +kernel
theorem dX6_taste_62 : decode cX6_taste 62 = .ok (.lreturn, 1) := by decide +kernel
theorem dX6_all_0 : decode cX6_all 0 = .ok (.aload_n 0, 1) := by decide +kernel
theorem dX6_all_1 : decode cX6_all 1 = .ok (.iconst 0, 1) := by decide +kernel
theorem dX6_all_2 : decode cX6_all 2 = .ok (.putfield 77, 3) := by decide +kernel
theorem dX6_all_5 : decode cX6_all 5 = .ok (.aload_n 0, 1) := by decide +kernel
theorem dX6_all_6 : decode cX6_all 6 = .ok (.iload_n 1, 1) := by decide +kernel
theorem dX6_all_7 : decode cX6_all 7 = .ok (.invokevirtual 163, 3) := by decide +kernel
theorem dX6_all_10 : decode cX6_all 10 = .ok (.ifCond .eq 13, 3) := by decide +kernel
theorem dX6_all_13 : decode cX6_all 13 = .ok (.iload_n 2, 1) := by decide +kernel
theorem dX6_all_14 : decode cX6_all 14 = .ok (.i2l, 1) := by decide +kernel
theorem dX6_all_15 : decode cX6_all 15 = .ok (.lconst 0, 1) := by decide +kernel
theorem dX6_all_16 : decode cX6_all 16 = .ok (.lconst 1, 1) := by decide +kernel
theorem dX6_all_17 : decode cX6_all 17 = .ok (.invokestatic 84, 3) := by decide +kernel
theorem dX6_all_20 : decode cX6_all 20 = .ok (.ifCond .ne 7, 3) := by decide +kernel
theorem dX6_all_23 : decode cX6_all 23 = .ok (.ldc2_w 197, 3) := by decide +kernel
theorem dX6_all_26 : decode cX6_all 26 = .ok (.lreturn, 1) := by decide +kernel
theorem dX6_all_27 : decode cX6_all 27 = .ok (.aload_n 0, 1) := by decide +kernel
theorem dX6_all_28 : decode cX6_all 28 = .ok (.iload_n 1, 1) := by decide +kernel
theorem dX6_all_29 : decode cX6_all 29 = .ok (.invokevirtual 106, 3) := by decide +kernel
theorem dX6_all_32 : decode cX6_all 32 = .ok (.aload_n 0, 1) := by decide +kernel
theorem dX6_all_33 : decode cX6_all 33 = .ok (.getfield 13, 3) := by decide +kernel
theorem dX6_all_36 : decode cX6_all 36 = .ok (.iload_n 1, 1) := by decide +kernel
theorem dX6_all_37 : decode cX6_all 37 = .ok (.iaload, 1) := by decide +kernel
theorem dX6_all_38 : decode cX6_all 38 = .ok (.invokestatic 90, 3) := by decide +kernel
theorem dX6_all_41 : decode cX6_all 41 = .ok (.iload_n 2, 1) := by decide +kernel
theorem dX6_all_42 : decode cX6_all 42 = .ok (.invokestatic 199, 3) := by decide +kernel
theorem dX6_all_45 : decode cX6_all 45 = .ok (.lreturn, 1) := by decide +kernel
theorem dX6_portion_0 : decode cX6_portion 0 = .ok (.aload_n 0, 1) := by decide +kernel
theorem dX6_portion_1 : decode cX6_portion 1 = .ok (.iconst 0, 1) := by decide +kernel
theorem dX6_portion_2 : decode cX6_portion 2 = .ok (.putfield 77, 3) := by decide +kernel
theorem dX6_portion_5 : decode cX6_portion 5 = .ok (.aload_n 0, 1) := by decide +kernel
theorem dX6_portion_6 : decode cX6_portion 6 = .ok (.iload_n 1, 1) := by decide +kernel
theorem dX6_portion_7 : decode cX6_portion 7 = .ok (.invokevirtual 163, 3) := by decide +kernel
theorem dX6_portion_10 : decode cX6_portion 10 = .ok (.ifCond .eq 24, 3) := by decide +kernel
theorem dX6_portion_13 : decode cX6_portion 13 = .ok (.iload_n 2, 1) := by decide +kernel
theorem dX6_portion_14 : decode cX6_portion 14 = .ok (.i2l, 1) := by decide +kernel
theorem dX6_portion_15 : decode cX6_portion 15 = .ok (.lconst 0, 1) := by decide +kernel
theorem dX6_portion_16 : decode cX6_portion 16 = .ok (.ldc2_w 195, 3) := by decide +kernel
theorem dX6_portion_19 : decode cX6_portion 19 = .ok (.invokestatic 84, 3) := by decide +kernel
theorem dX6_portion_22 : decode cX6_portion 22 = .ok (.ifCond .eq 12, 3) := by decide +kernel
theorem dX6_portion_25 : decode cX6_portion 25 = .ok (.aload_n 0, 1) := by decide +kernel
theorem dX6_portion_26 : decode cX6_portion 26 = .ok (.iload_n 1, 1) := by decide +kernel
theorem dX6_portion_27 : decode cX6_portion 27 = .ok (.iload_n 2, 1) := by decide +kernel
theorem dX6_portion_28 : decode cX6_portion 28 = .ok (.invokevirtual 203, 3) := by decide +kernel
theorem dX6_portion_31 : decode cX6_portion 31 = .ok (.goto 4, 3) := by decide +kernel
theorem dX6_portion_34 : decode cX6_portion 34 = .ok (.iconst (-1), 1) := by decide +kernel
theorem dX6_portion_35 : decode cX6_portion 35 = .ok (.ireturn, 1) := by decide +kernel
theorem dX6_over_0 : decode cX6_over 0 = .ok (.aload_n 0, 1) := by decide +kernel
theorem dX6_over_1 : decode cX6_over 1 = .ok (.iconst 0, 1) := by decide +kernel
theorem dX6_over_2 : decode cX6_over 2 = .ok (.putfield 77, 3) := by decide +kernel
theorem dX6_over_5 : decode cX6_over 5 = .ok (.aload_n 0, 1) := by decide +kernel
theorem dX6_over_6 : decode cX6_over 6 = .ok (.iload_n 1, 1) := by decide +kernel
theorem dX6_over_7 : decode cX6_over 7 = .ok (.invokevirtual 163, 3) := by decide +kernel
theorem dX6_over_10 : decode cX6_over 10 = .ok (.ifCond .eq 27, 3) := by decide +kernel
theorem dX6_over_13 : decode cX6_over 13 = .ok (.iload_n 2, 1) := by decide +kernel
theorem dX6_over_14 : decode cX6_over 14 = .ok (.i2l, 1) := by decide +kernel
theorem dX6_over_15 : decode cX6_over 15 = .ok (.lconst 0, 1) := by decide +kernel
theorem dX6_over_16 : decode cX6_over 16 = .ok (.ldc2_w 195, 3) := by decide +kernel
theorem dX6_over_19 : decode cX6_over 19 = .ok (.invokestatic 84, 3) := by decide +kernel
theorem dX6_over_22 : decode cX6_over 22 = .ok (.ifCond .eq 15, 3) := by decide +kernel
theorem dX6_over_25 : decode cX6_over 25 = .ok (.iload_n 3, 1) := by decide +kernel
theorem dX6_over_26 : decode cX6_over 26 = .ok (.i2l, 1) := by decide +kernel
theorem dX6_over_27 : decode cX6_over 27 = .ok (.lconst 0, 1) := by decide +kernel
theorem dX6_over_28 : decode cX6_over 28 = .ok (.ldc2_w 109, 3) := by decide +kernel
theorem dX6_over_31 : decode cX6_over 31 = .ok (.invokestatic 84, 3) := by decide +kernel
theorem dX6_over_34 : decode cX6_over 34 = .ok (.ifCond .ne 5, 3) := by decide +kernel
theorem dX6_over_37 : decode cX6_over 37 = .ok (.iconst (-1), 1) := by decide +kernel
theorem dX6_over_38 : decode cX6_over 38 = .ok (.ireturn, 1) := by decide +kernel
theorem dX6_over_39 : decode cX6_over 39 = .ok (.aload_n 0, 1) := by decide +kernel
theorem dX6_over_40 : decode cX6_over 40 = .ok (.iload_n 1, 1) := by decide +kernel
theorem dX6_over_41 : decode cX6_over 41 = .ok (.iload_n 2, 1) := by decide +kernel
theorem dX6_over_42 : decode cX6_over 42 = .ok (.iload_n 3, 1) := by decide +kernel
theorem dX6_over_43 : decode cX6_over 43 = .ok (.invokevirtual 111, 3) := by decide +kernel
theorem dX6_over_46 : decode cX6_over 46 = .ok (.ifCond .eq 7, 3) := by decide +kernel
theorem dX6_over_49 : decode cX6_over 49 = .ok (.iconst 1, 1) := by decide +kernel
theorem dX6_over_50 : decode cX6_over 50 = .ok (.goto 4, 3) := by decide +kernel
theorem dX6_over_53 : decode cX6_over 53 = .ok (.iconst 0, 1) := by decide +kernel
theorem dX6_over_54 : decode cX6_over 54 = .ok (.ireturn, 1) := by decide +kernel
theorem dX6_partOf_0 : decode cX6_partOf 0 = .ok (.lconst 1, 1) := by decide +kernel
theorem dX6_partOf_1 : decode cX6_partOf 1 = .ok (.lstore_n 3, 1) := by decide +kernel
theorem dX6_partOf_2 : decode cX6_partOf 2 = .ok (.iconst 0, 1) := by decide +kernel
theorem dX6_partOf_3 : decode cX6_partOf 3 = .ok (.istore 5, 2) := by decide +kernel
theorem dX6_partOf_5 : decode cX6_partOf 5 = .ok (.iload 5, 2) := by decide +kernel
theorem dX6_partOf_7 : decode cX6_partOf 7 = .ok (.iload_n 2, 1) := by decide +kernel
theorem dX6_partOf_8 : decode cX6_partOf 8 = .ok (.if_icmp .ge 37, 3) := by decide +kernel
theorem dX6_partOf_11 : decode cX6_partOf 11 = .ok (.lload_n 3, 1) := by decide +kernel
theorem dX6_partOf_12 : decode cX6_partOf 12 = .ok (.aload_n 0, 1) := by decide +kernel
theorem dX6_partOf_13 : decode cX6_partOf 13 = .ok (.getfield 17, 3) := by decide +kernel
theorem dX6_partOf_16 : decode cX6_partOf 16 = .ok (.bipush 12, 2) := by decide +kernel
theorem dX6_partOf_18 : decode cX6_partOf 18 = .ok (.iload_n 1, 1) := by decide +kernel
theorem dX6_partOf_19 : decode cX6_partOf 19 = .ok (.imul, 1) := by decide +kernel
theorem dX6_partOf_20 : decode cX6_partOf 20 = .ok (.aload_n 0, 1) := by decide +kernel
theorem dX6_partOf_21 : decode cX6_partOf 21 = .ok (.getfield 13, 3) := by decide +kernel
theorem dX6_partOf_24 : decode cX6_partOf 24 = .ok (.iload_n 1, 1) := by decide +kernel
theorem dX6_partOf_25 : decode cX6_partOf 25 = .ok (.iaload, 1) := by decide +kernel
theorem dX6_partOf_26 : decode cX6_partOf 26 = .ok (.iadd, 1) := by decide +kernel
theorem dX6_partOf_27 : decode cX6_partOf 27 = .ok (.iconst 1, 1) := by decide +kernel
theorem dX6_partOf_28 : decode cX6_partOf 28 = .ok (.isub, 1) := by decide +kernel
theorem dX6_partOf_29 : decode cX6_partOf 29 = .ok (.iload 5, 2) := by decide +kernel
theorem dX6_partOf_31 : decode cX6_partOf 31 = .ok (.isub, 1) := by decide +kernel
theorem dX6_partOf_32 : decode cX6_partOf 32 = .ok (.iaload, 1) := by decide +kernel
theorem dX6_partOf_33 : decode cX6_partOf 33 = .ok (.invokestatic 98, 3) := by decide +kernel
theorem dX6_partOf_36 : decode cX6_partOf 36 = .ok (.i2l, 1) := by decide +kernel
theorem dX6_partOf_37 : decode cX6_partOf 37 = .ok (.lmul, 1) := by decide +kernel
theorem dX6_partOf_38 : decode cX6_partOf 38 = .ok (.lstore_n 3, 1) := by decide +kernel
theorem dX6_partOf_39 : decode cX6_partOf 39 = .ok (.iinc 5 1, 3) := by decide +kernel
theorem dX6_partOf_42 : decode cX6_partOf 42 = .ok (.goto (-37), 3) := by decide +kernel
theorem dX6_partOf_45 : decode cX6_partOf 45 = .ok (.lload_n 3, 1) := by decide +kernel
theorem dX6_partOf_46 : decode cX6_partOf 46 = .ok (.lreturn, 1) := by decide +kernel
theorem dX6_part_0 : decode cX6_part 0 = .ok (.aload_n 0, 1) := by decide +kernel
theorem dX6_part_1 : decode cX6_part 1 = .ok (.iconst 0, 1) := by decide +kernel
theorem dX6_part_2 : decode cX6_part 2 = .ok (.putfield 77, 3) := by decide +kernel
theorem dX6_part_5 : decode cX6_part 5 = .ok (.aload_n 0, 1) := by decide +kernel
theorem dX6_part_6 : decode cX6_part 6 = .ok (.iload_n 1, 1) := by decide +kernel
theorem dX6_part_7 : decode cX6_part 7 = .ok (.invokevirtual 163, 3) := by decide +kernel
theorem dX6_part_10 : decode cX6_part 10 = .ok (.ifCond .eq 31, 3) := by decide +kernel
theorem dX6_part_13 : decode cX6_part 13 = .ok (.iload_n 2, 1) := by decide +kernel
theorem dX6_part_14 : decode cX6_part 14 = .ok (.i2l, 1) := by decide +kernel
theorem dX6_part_15 : decode cX6_part 15 = .ok (.lconst 0, 1) := by decide +kernel
theorem dX6_part_16 : decode cX6_part 16 = .ok (.aload_n 0, 1) := by decide +kernel
theorem dX6_part_17 : decode cX6_part 17 = .ok (.getfield 13, 3) := by decide +kernel
theorem dX6_part_20 : decode cX6_part 20 = .ok (.iload_n 1, 1) := by decide +kernel
theorem dX6_part_21 : decode cX6_part 21 = .ok (.iaload, 1) := by decide +kernel
theorem dX6_part_22 : decode cX6_part 22 = .ok (.iconst 1, 1) := by decide +kernel
theorem dX6_part_23 : decode cX6_part 23 = .ok (.isub, 1) := by decide +kernel
theorem dX6_part_24 : decode cX6_part 24 = .ok (.i2l, 1) := by decide +kernel
theorem dX6_part_25 : decode cX6_part 25 = .ok (.invokestatic 84, 3) := by decide +kernel
theorem dX6_part_28 : decode cX6_part 28 = .ok (.ifCond .eq 13, 3) := by decide +kernel
theorem dX6_part_31 : decode cX6_part 31 = .ok (.iload_n 3, 1) := by decide +kernel
theorem dX6_part_32 : decode cX6_part 32 = .ok (.i2l, 1) := by decide +kernel
theorem dX6_part_33 : decode cX6_part 33 = .ok (.lconst 0, 1) := by decide +kernel
theorem dX6_part_34 : decode cX6_part 34 = .ok (.lconst 1, 1) := by decide +kernel
theorem dX6_part_35 : decode cX6_part 35 = .ok (.invokestatic 84, 3) := by decide +kernel
theorem dX6_part_38 : decode cX6_part 38 = .ok (.ifCond .ne 7, 3) := by decide +kernel
theorem dX6_part_41 : decode cX6_part 41 = .ok (.ldc2_w 197, 3) := by decide +kernel
theorem dX6_part_44 : decode cX6_part 44 = .ok (.lreturn, 1) := by decide +kernel
theorem dX6_part_45 : decode cX6_part 45 = .ok (.aload_n 0, 1) := by decide +kernel
theorem dX6_part_46 : decode cX6_part 46 = .ok (.iload_n 1, 1) := by decide +kernel
theorem dX6_part_47 : decode cX6_part 47 = .ok (.iload_n 2, 1) := by decide +kernel
theorem dX6_part_48 : decode cX6_part 48 = .ok (.invokevirtual 206, 3) := by decide +kernel
theorem dX6_part_51 : decode cX6_part 51 = .ok (.iload_n 2, 1) := by decide +kernel
theorem dX6_part_52 : decode cX6_part 52 = .ok (.invokestatic 90, 3) := by decide +kernel
theorem dX6_part_55 : decode cX6_part 55 = .ok (.iload_n 3, 1) := by decide +kernel
theorem dX6_part_56 : decode cX6_part 56 = .ok (.invokestatic 199, 3) := by decide +kernel
theorem dX6_part_59 : decode cX6_part 59 = .ok (.lreturn, 1) := by decide +kernel
theorem dX6_back_0 : decode cX6_back 0 = .ok (.aload_n 0, 1) := by decide +kernel
theorem dX6_back_1 : decode cX6_back 1 = .ok (.iconst 0, 1) := by decide +kernel
theorem dX6_back_2 : decode cX6_back 2 = .ok (.putfield 77, 3) := by decide +kernel
theorem dX6_back_5 : decode cX6_back 5 = .ok (.aload_n 0, 1) := by decide +kernel
theorem dX6_back_6 : decode cX6_back 6 = .ok (.iload_n 1, 1) := by decide +kernel
theorem dX6_back_7 : decode cX6_back 7 = .ok (.invokevirtual 163, 3) := by decide +kernel
theorem dX6_back_10 : decode cX6_back 10 = .ok (.ifCond .eq 15, 3) := by decide +kernel
theorem dX6_back_13 : decode cX6_back 13 = .ok (.iload_n 2, 1) := by decide +kernel
theorem dX6_back_14 : decode cX6_back 14 = .ok (.i2l, 1) := by decide +kernel
theorem dX6_back_15 : decode cX6_back 15 = .ok (.lconst 1, 1) := by decide +kernel
theorem dX6_back_16 : decode cX6_back 16 = .ok (.ldc2_w 109, 3) := by decide +kernel
theorem dX6_back_19 : decode cX6_back 19 = .ok (.invokestatic 84, 3) := by decide +kernel
theorem dX6_back_22 : decode cX6_back 22 = .ok (.ifCond .ne 5, 3) := by decide +kernel
theorem dX6_back_25 : decode cX6_back 25 = .ok (.iconst (-1), 1) := by decide +kernel
theorem dX6_back_26 : decode cX6_back 26 = .ok (.ireturn, 1) := by decide +kernel
theorem dX6_back_27 : decode cX6_back 27 = .ok (.iconst 0, 1) := by decide +kernel
theorem dX6_back_28 : decode cX6_back 28 = .ok (.istore_n 3, 1) := by decide +kernel
theorem dX6_back_29 : decode cX6_back 29 = .ok (.iload_n 3, 1) := by decide +kernel
theorem dX6_back_30 : decode cX6_back 30 = .ok (.aload_n 0, 1) := by decide +kernel
theorem dX6_back_31 : decode cX6_back 31 = .ok (.getfield 13, 3) := by decide +kernel
theorem dX6_back_34 : decode cX6_back 34 = .ok (.iload_n 1, 1) := by decide +kernel
theorem dX6_back_35 : decode cX6_back 35 = .ok (.iaload, 1) := by decide +kernel
theorem dX6_back_36 : decode cX6_back 36 = .ok (.if_icmp .ge 30, 3) := by decide +kernel
theorem dX6_back_39 : decode cX6_back 39 = .ok (.ldc2_w 109, 3) := by decide +kernel
theorem dX6_back_42 : decode cX6_back 42 = .ok (.aload_n 0, 1) := by decide +kernel
theorem dX6_back_43 : decode cX6_back 43 = .ok (.iload_n 1, 1) := by decide +kernel
theorem dX6_back_44 : decode cX6_back 44 = .ok (.iload_n 3, 1) := by decide +kernel
theorem dX6_back_45 : decode cX6_back 45 = .ok (.invokevirtual 206, 3) := by decide +kernel
theorem dX6_back_48 : decode cX6_back 48 = .ok (.lmul, 1) := by decide +kernel
theorem dX6_back_49 : decode cX6_back 49 = .ok (.iload_n 2, 1) := by decide +kernel
theorem dX6_back_50 : decode cX6_back 50 = .ok (.i2l, 1) := by decide +kernel
theorem dX6_back_51 : decode cX6_back 51 = .ok (.iload_n 3, 1) := by decide +kernel
theorem dX6_back_52 : decode cX6_back 52 = .ok (.invokestatic 90, 3) := by decide +kernel
theorem dX6_back_55 : decode cX6_back 55 = .ok (.lmul, 1) := by decide +kernel
theorem dX6_back_56 : decode cX6_back 56 = .ok (.lcmp, 1) := by decide +kernel
theorem dX6_back_57 : decode cX6_back 57 = .ok (.ifCond .lt 9, 3) := by decide +kernel
theorem dX6_back_60 : decode cX6_back 60 = .ok (.iinc 3 1, 3) := by decide +kernel
theorem dX6_back_63 : decode cX6_back 63 = .ok (.goto (-34), 3) := by decide +kernel
theorem dX6_back_66 : decode cX6_back 66 = .ok (.iload_n 3, 1) := by decide +kernel
theorem dX6_back_67 : decode cX6_back 67 = .ok (.ireturn, 1) := by decide +kernel
theorem dX6_strongest_0 : decode cX6_strongest 0 = .ok (.aload_n 0, 1) := by decide +kernel
theorem dX6_strongest_1 : decode cX6_strongest 1 = .ok (.iconst 0, 1) := by decide +kernel
theorem dX6_strongest_2 : decode cX6_strongest 2 = .ok (.putfield 77, 3) := by decide +kernel
theorem dX6_strongest_5 : decode cX6_strongest 5 = .ok (.aload_n 0, 1) := by decide +kernel
theorem dX6_strongest_6 : decode cX6_strongest 6 = .ok (.iload_n 1, 1) := by decide +kernel
theorem dX6_strongest_7 : decode cX6_strongest 7 = .ok (.invokevirtual 163, 3) := by decide +kernel
theorem dX6_strongest_10 : decode cX6_strongest 10 = .ok (.ifCond .ne 5, 3) := by decide +kernel
theorem dX6_strongest_13 : decode cX6_strongest 13 = .ok (.iconst (-1), 1) := by decide +kernel
theorem dX6_strongest_14 : decode cX6_strongest 14 = .ok (.ireturn, 1) := by decide +kernel
theorem dX6_strongest_15 : decode cX6_strongest 15 = .ok (.iconst 0, 1) := by decide +kernel
theorem dX6_strongest_16 : decode cX6_strongest 16 = .ok (.istore_n 2, 1) := by decide +kernel
theorem dX6_strongest_17 : decode cX6_strongest 17 = .ok (.iconst 1, 1) := by decide +kernel
theorem dX6_strongest_18 : decode cX6_strongest 18 = .ok (.istore_n 3, 1) := by decide +kernel
theorem dX6_strongest_19 : decode cX6_strongest 19 = .ok (.iload_n 3, 1) := by decide +kernel
theorem dX6_strongest_20 : decode cX6_strongest 20 = .ok (.iconst 4, 1) := by decide +kernel
theorem dX6_strongest_21 : decode cX6_strongest 21 = .ok (.if_icmp .ge 39, 3) := by decide +kernel
theorem dX6_strongest_24 : decode cX6_strongest 24 = .ok (.aload_n 0, 1) := by decide +kernel
theorem dX6_strongest_25 : decode cX6_strongest 25 = .ok (.getfield 7, 3) := by decide +kernel
theorem dX6_strongest_28 : decode cX6_strongest 28 = .ok (.iconst 4, 1) := by decide +kernel
theorem dX6_strongest_29 : decode cX6_strongest 29 = .ok (.iload_n 1, 1) := by decide +kernel
theorem dX6_strongest_30 : decode cX6_strongest 30 = .ok (.imul, 1) := by decide +kernel
theorem dX6_strongest_31 : decode cX6_strongest 31 = .ok (.iload_n 3, 1) := by decide +kernel
theorem dX6_strongest_32 : decode cX6_strongest 32 = .ok (.iadd, 1) := by decide +kernel
theorem dX6_strongest_33 : decode cX6_strongest 33 = .ok (.laload, 1) := by decide +kernel
theorem dX6_strongest_34 : decode cX6_strongest 34 = .ok (.aload_n 0, 1) := by decide +kernel
theorem dX6_strongest_35 : decode cX6_strongest 35 = .ok (.getfield 7, 3) := by decide +kernel
theorem dX6_strongest_38 : decode cX6_strongest 38 = .ok (.iconst 4, 1) := by decide +kernel
theorem dX6_strongest_39 : decode cX6_strongest 39 = .ok (.iload_n 1, 1) := by decide +kernel
theorem dX6_strongest_40 : decode cX6_strongest 40 = .ok (.imul, 1) := by decide +kernel
theorem dX6_strongest_41 : decode cX6_strongest 41 = .ok (.iload_n 2, 1) := by decide +kernel
theorem dX6_strongest_42 : decode cX6_strongest 42 = .ok (.iadd, 1) := by decide +kernel
theorem dX6_strongest_43 : decode cX6_strongest 43 = .ok (.laload, 1) := by decide +kernel
theorem dX6_strongest_44 : decode cX6_strongest 44 = .ok (.lcmp, 1) := by decide +kernel
theorem dX6_strongest_45 : decode cX6_strongest 45 = .ok (.ifCond .le 7, 3) := by decide +kernel
theorem dX6_strongest_48 : decode cX6_strongest 48 = .ok (.iload_n 3, 1) := by decide +kernel
theorem dX6_strongest_49 : decode cX6_strongest 49 = .ok (.goto 4, 3) := by decide +kernel
theorem dX6_strongest_52 : decode cX6_strongest 52 = .ok (.iload_n 2, 1) := by decide +kernel
theorem dX6_strongest_53 : decode cX6_strongest 53 = .ok (.istore_n 2, 1) := by decide +kernel
theorem dX6_strongest_54 : decode cX6_strongest 54 = .ok (.iinc 3 1, 3) := by decide +kernel
theorem dX6_strongest_57 : decode cX6_strongest 57 = .ok (.goto (-38), 3) := by decide +kernel
theorem dX6_strongest_60 : decode cX6_strongest 60 = .ok (.aload_n 0, 1) := by decide +kernel
theorem dX6_strongest_61 : decode cX6_strongest 61 = .ok (.iload_n 1, 1) := by decide +kernel
theorem dX6_strongest_62 : decode cX6_strongest 62 = .ok (.invokevirtual 106, 3) := by decide +kernel
theorem dX6_strongest_65 : decode cX6_strongest 65 = .ok (.lconst 0, 1) := by decide +kernel
theorem dX6_strongest_66 : decode cX6_strongest 66 = .ok (.lcmp, 1) := by decide +kernel
theorem dX6_strongest_67 : decode cX6_strongest 67 = .ok (.ifCond .ne 8, 3) := by decide +kernel
theorem dX6_strongest_70 : decode cX6_strongest 70 = .ok (.bipush (-4), 2) := by decide +kernel
theorem dX6_strongest_72 : decode cX6_strongest 72 = .ok (.goto 4, 3) := by decide +kernel
theorem dX6_strongest_75 : decode cX6_strongest 75 = .ok (.iload_n 2, 1) := by decide +kernel
theorem dX6_strongest_76 : decode cX6_strongest 76 = .ok (.ireturn, 1) := by decide +kernel
theorem dX6_isLine_0 : decode cX6_isLine 0 = .ok (.iload_n 0, 1) := by decide +kernel
theorem dX6_isLine_1 : decode cX6_isLine 1 = .ok (.i2l, 1) := by decide +kernel
theorem dX6_isLine_2 : decode cX6_isLine 2 = .ok (.lconst 0, 1) := by decide +kernel
theorem dX6_isLine_3 : decode cX6_isLine 3 = .ok (.ldc2_w 210, 3) := by decide +kernel
theorem dX6_isLine_6 : decode cX6_isLine 6 = .ok (.invokestatic 84, 3) := by decide +kernel
theorem dX6_isLine_9 : decode cX6_isLine 9 = .ok (.ifCond .eq 19, 3) := by decide +kernel
theorem dX6_isLine_12 : decode cX6_isLine 12 = .ok (.iload_n 1, 1) := by decide +kernel
theorem dX6_isLine_13 : decode cX6_isLine 13 = .ok (.i2l, 1) := by decide +kernel
theorem dX6_isLine_14 : decode cX6_isLine 14 = .ok (.lconst 0, 1) := by decide +kernel
theorem dX6_isLine_15 : decode cX6_isLine 15 = .ok (.ldc2_w 109, 3) := by decide +kernel
theorem dX6_isLine_18 : decode cX6_isLine 18 = .ok (.invokestatic 84, 3) := by decide +kernel
theorem dX6_isLine_21 : decode cX6_isLine 21 = .ok (.ifCond .eq 7, 3) := by decide +kernel
theorem dX6_isLine_24 : decode cX6_isLine 24 = .ok (.iconst 1, 1) := by decide +kernel
theorem dX6_isLine_25 : decode cX6_isLine 25 = .ok (.goto 4, 3) := by decide +kernel
theorem dX6_isLine_28 : decode cX6_isLine 28 = .ok (.iconst 0, 1) := by decide +kernel
theorem dX6_isLine_29 : decode cX6_isLine 29 = .ok (.ireturn, 1) := by decide +kernel
theorem dX6_harms_0 : decode cX6_harms 0 = .ok (.aload_n 0, 1) := by decide +kernel
theorem dX6_harms_1 : decode cX6_harms 1 = .ok (.iconst 0, 1) := by decide +kernel
theorem dX6_harms_2 : decode cX6_harms 2 = .ok (.putfield 77, 3) := by decide +kernel
theorem dX6_harms_5 : decode cX6_harms 5 = .ok (.aload_n 0, 1) := by decide +kernel
theorem dX6_harms_6 : decode cX6_harms 6 = .ok (.iload_n 1, 1) := by decide +kernel
theorem dX6_harms_7 : decode cX6_harms 7 = .ok (.invokevirtual 163, 3) := by decide +kernel
theorem dX6_harms_10 : decode cX6_harms 10 = .ok (.ifCond .eq 11, 3) := by decide +kernel
theorem dX6_harms_13 : decode cX6_harms 13 = .ok (.iload_n 2, 1) := by decide +kernel
theorem dX6_harms_14 : decode cX6_harms 14 = .ok (.iload_n 3, 1) := by decide +kernel
theorem dX6_harms_15 : decode cX6_harms 15 = .ok (.invokestatic 212, 3) := by decide +kernel
theorem dX6_harms_18 : decode cX6_harms 18 = .ok (.ifCond .ne 5, 3) := by decide +kernel
theorem dX6_harms_21 : decode cX6_harms 21 = .ok (.iconst (-1), 1) := by decide +kernel
theorem dX6_harms_22 : decode cX6_harms 22 = .ok (.ireturn, 1) := by decide +kernel
theorem dX6_harms_23 : decode cX6_harms 23 = .ok (.aload_n 0, 1) := by decide +kernel
theorem dX6_harms_24 : decode cX6_harms 24 = .ok (.iload_n 1, 1) := by decide +kernel
theorem dX6_harms_25 : decode cX6_harms 25 = .ok (.iload_n 2, 1) := by decide +kernel
theorem dX6_harms_26 : decode cX6_harms 26 = .ok (.iload_n 3, 1) := by decide +kernel
theorem dX6_harms_27 : decode cX6_harms 27 = .ok (.invokevirtual 216, 3) := by decide +kernel
theorem dX6_harms_30 : decode cX6_harms 30 = .ok (.ifCond .eq 7, 3) := by decide +kernel
theorem dX6_harms_33 : decode cX6_harms 33 = .ok (.iconst 1, 1) := by decide +kernel
theorem dX6_harms_34 : decode cX6_harms 34 = .ok (.goto 4, 3) := by decide +kernel
theorem dX6_harms_37 : decode cX6_harms 37 = .ok (.iconst 0, 1) := by decide +kernel
theorem dX6_harms_38 : decode cX6_harms 38 = .ok (.ireturn, 1) := by decide +kernel
theorem dX6_wrongDishes_0 : decode cX6_wrongDishes 0 = .ok (.aload_n 0, 1) := by decide +kernel
theorem dX6_wrongDishes_1 : decode cX6_wrongDishes 1 = .ok (.iload_n 1, 1) := by decide +kernel
theorem dX6_wrongDishes_2 : decode cX6_wrongDishes 2 = .ok (.iconst 0, 1) := by decide +kernel
theorem dX6_wrongDishes_3 : decode cX6_wrongDishes 3 = .ok (.invokevirtual 174, 3) := by decide +kernel
theorem dX6_wrongDishes_6 : decode cX6_wrongDishes 6 = .ok (.istore 4, 2) := by decide +kernel
theorem dX6_wrongDishes_8 : decode cX6_wrongDishes 8 = .ok (.iload 4, 2) := by decide +kernel
theorem dX6_wrongDishes_10 : decode cX6_wrongDishes 10 = .ok (.ifCond .ge 6, 3) := by decide +kernel
theorem dX6_wrongDishes_13 : decode cX6_wrongDishes 13 = .ok (.iload 4, 2) := by decide +kernel
theorem dX6_wrongDishes_15 : decode cX6_wrongDishes 15 = .ok (.ireturn, 1) := by decide +kernel
theorem dX6_wrongDishes_16 : decode cX6_wrongDishes 16 = .ok (.aload_n 0, 1) := by decide +kernel
theorem dX6_wrongDishes_17 : decode cX6_wrongDishes 17 = .ok (.getfield 68, 3) := by decide +kernel
theorem dX6_wrongDishes_20 : decode cX6_wrongDishes 20 = .ok (.iload_n 1, 1) := by decide +kernel
theorem dX6_wrongDishes_21 : decode cX6_wrongDishes 21 = .ok (.iaload, 1) := by decide +kernel
theorem dX6_wrongDishes_22 : decode cX6_wrongDishes 22 = .ok (.iload_n 2, 1) := by decide +kernel
theorem dX6_wrongDishes_23 : decode cX6_wrongDishes 23 = .ok (.irem, 1) := by decide +kernel
theorem dX6_wrongDishes_24 : decode cX6_wrongDishes 24 = .ok (.ifCond .ne 19, 3) := by decide +kernel
theorem dX6_wrongDishes_27 : decode cX6_wrongDishes 27 = .ok (.aload_n 0, 1) := by decide +kernel
theorem dX6_wrongDishes_28 : decode cX6_wrongDishes 28 = .ok (.getfield 68, 3) := by decide +kernel
theorem dX6_wrongDishes_31 : decode cX6_wrongDishes 31 = .ok (.iload_n 1, 1) := by decide +kernel
theorem dX6_wrongDishes_32 : decode cX6_wrongDishes 32 = .ok (.iaload, 1) := by decide +kernel
theorem dX6_wrongDishes_33 : decode cX6_wrongDishes 33 = .ok (.iload_n 2, 1) := by decide +kernel
theorem dX6_wrongDishes_34 : decode cX6_wrongDishes 34 = .ok (.iload_n 3, 1) := by decide +kernel
theorem dX6_wrongDishes_35 : decode cX6_wrongDishes 35 = .ok (.imul, 1) := by decide +kernel
theorem dX6_wrongDishes_36 : decode cX6_wrongDishes 36 = .ok (.if_icmp .gt 7, 3) := by decide +kernel
theorem dX6_wrongDishes_39 : decode cX6_wrongDishes 39 = .ok (.iconst 1, 1) := by decide +kernel
theorem dX6_wrongDishes_40 : decode cX6_wrongDishes 40 = .ok (.goto 4, 3) := by decide +kernel
theorem dX6_wrongDishes_43 : decode cX6_wrongDishes 43 = .ok (.iconst 0, 1) := by decide +kernel
theorem dX6_wrongDishes_44 : decode cX6_wrongDishes 44 = .ok (.istore 5, 2) := by decide +kernel
theorem dX6_wrongDishes_46 : decode cX6_wrongDishes 46 = .ok (.iconst 0, 1) := by decide +kernel
theorem dX6_wrongDishes_47 : decode cX6_wrongDishes 47 = .ok (.istore 6, 2) := by decide +kernel
theorem dX6_wrongDishes_49 : decode cX6_wrongDishes 49 = .ok (.iload 6, 2) := by decide +kernel
theorem dX6_wrongDishes_51 : decode cX6_wrongDishes 51 = .ok (.aload_n 0, 1) := by decide +kernel
theorem dX6_wrongDishes_52 : decode cX6_wrongDishes 52 = .ok (.getfield 68, 3) := by decide +kernel
theorem dX6_wrongDishes_55 : decode cX6_wrongDishes 55 = .ok (.iload_n 1, 1) := by decide +kernel
theorem dX6_wrongDishes_56 : decode cX6_wrongDishes 56 = .ok (.iaload, 1) := by decide +kernel
theorem dX6_wrongDishes_57 : decode cX6_wrongDishes 57 = .ok (.if_icmp .ge 72, 3) := by decide +kernel
theorem dX6_wrongDishes_60 : decode cX6_wrongDishes 60 = .ok (.iload 5, 2) := by decide +kernel
theorem dX6_wrongDishes_62 : decode cX6_wrongDishes 62 = .ok (.ifCond .eq 67, 3) := by decide +kernel
theorem dX6_wrongDishes_65 : decode cX6_wrongDishes 65 = .ok (.iload_n 2, 1) := by decide +kernel
theorem dX6_wrongDishes_66 : decode cX6_wrongDishes 66 = .ok (.iconst 1, 1) := by decide +kernel
theorem dX6_wrongDishes_67 : decode cX6_wrongDishes 67 = .ok (.isub, 1) := by decide +kernel
theorem dX6_wrongDishes_68 : decode cX6_wrongDishes 68 = .ok (.iload 6, 2) := by decide +kernel
theorem dX6_wrongDishes_70 : decode cX6_wrongDishes 70 = .ok (.iload_n 2, 1) := by decide +kernel
theorem dX6_wrongDishes_71 : decode cX6_wrongDishes 71 = .ok (.irem, 1) := by decide +kernel
theorem dX6_wrongDishes_72 : decode cX6_wrongDishes 72 = .ok (.isub, 1) := by decide +kernel
theorem dX6_wrongDishes_73 : decode cX6_wrongDishes 73 = .ok (.istore 7, 2) := by decide +kernel
theorem dX6_wrongDishes_75 : decode cX6_wrongDishes 75 = .ok (.aload_n 0, 1) := by decide +kernel
theorem dX6_wrongDishes_76 : decode cX6_wrongDishes 76 = .ok (.getfield 71, 3) := by decide +kernel
theorem dX6_wrongDishes_79 : decode cX6_wrongDishes 79 = .ok (.bipush 100, 2) := by decide +kernel
theorem dX6_wrongDishes_81 : decode cX6_wrongDishes 81 = .ok (.iload_n 1, 1) := by decide +kernel
theorem dX6_wrongDishes_82 : decode cX6_wrongDishes 82 = .ok (.imul, 1) := by decide +kernel
theorem dX6_wrongDishes_83 : decode cX6_wrongDishes 83 = .ok (.iload 6, 2) := by decide +kernel
theorem dX6_wrongDishes_85 : decode cX6_wrongDishes 85 = .ok (.iadd, 1) := by decide +kernel
theorem dX6_wrongDishes_86 : decode cX6_wrongDishes 86 = .ok (.laload, 1) := by decide +kernel
theorem dX6_wrongDishes_87 : decode cX6_wrongDishes 87 = .ok (.lconst 0, 1) := by decide +kernel
theorem dX6_wrongDishes_88 : decode cX6_wrongDishes 88 = .ok (.iload 7, 2) := by decide +kernel
theorem dX6_wrongDishes_90 : decode cX6_wrongDishes 90 = .ok (.ifCond .ne 9, 3) := by decide +kernel
theorem dX6_wrongDishes_93 : decode cX6_wrongDishes 93 = .ok (.ldc2_w 88, 3) := by decide +kernel
theorem dX6_wrongDishes_96 : decode cX6_wrongDishes 96 = .ok (.goto 22, 3) := by decide +kernel
theorem dX6_wrongDishes_99 : decode cX6_wrongDishes 99 = .ok (.iload 7, 2) := by decide +kernel
theorem dX6_wrongDishes_101 : decode cX6_wrongDishes 101 = .ok (.iconst 1, 1) := by decide +kernel
theorem dX6_wrongDishes_102 : decode cX6_wrongDishes 102 = .ok (.if_icmp .ne 9, 3) := by decide +kernel
theorem dX6_wrongDishes_105 : decode cX6_wrongDishes 105 = .ok (.ldc2_w 190, 3) := by decide +kernel
theorem dX6_wrongDishes_108 : decode cX6_wrongDishes 108 = .ok (.goto 10, 3) := by decide +kernel
theorem dX6_wrongDishes_111 : decode cX6_wrongDishes 111 = .ok (.aload_n 0, 1) := by decide +kernel
theorem dX6_wrongDishes_112 : decode cX6_wrongDishes 112 = .ok (.getfield 81, 3) := by decide +kernel
theorem dX6_wrongDishes_115 : decode cX6_wrongDishes 115 = .ok (.iconst 1, 1) := by decide +kernel
theorem dX6_wrongDishes_116 : decode cX6_wrongDishes 116 = .ok (.isub, 1) := by decide +kernel
theorem dX6_wrongDishes_117 : decode cX6_wrongDishes 117 = .ok (.i2l, 1) := by decide +kernel
theorem dX6_wrongDishes_118 : decode cX6_wrongDishes 118 = .ok (.invokestatic 84, 3) := by decide +kernel
theorem dX6_wrongDishes_121 : decode cX6_wrongDishes 121 = .ok (.istore 5, 2) := by decide +kernel
theorem dX6_wrongDishes_123 : decode cX6_wrongDishes 123 = .ok (.iinc 6 1, 3) := by decide +kernel
theorem dX6_wrongDishes_126 : decode cX6_wrongDishes 126 = .ok (.goto (-77), 3) := by decide +kernel
theorem dX6_wrongDishes_129 : decode cX6_wrongDishes 129 = .ok (.iload 5, 2) := by decide +kernel
theorem dX6_wrongDishes_131 : decode cX6_wrongDishes 131 = .ok (.ifCond .eq 7, 3) := by decide +kernel
theorem dX6_wrongDishes_134 : decode cX6_wrongDishes 134 = .ok (.iconst 0, 1) := by decide +kernel
theorem dX6_wrongDishes_135 : decode cX6_wrongDishes 135 = .ok (.goto 5, 3) := by decide +kernel
theorem dX6_wrongDishes_138 : decode cX6_wrongDishes 138 = .ok (.bipush (-13), 2) := by decide +kernel
theorem dX6_wrongDishes_140 : decode cX6_wrongDishes 140 = .ok (.ireturn, 1) := by decide +kernel
theorem dX6_element0_0 : decode cX6_element0 0 = .ok (.aload_n 0, 1) := by decide +kernel
theorem dX6_element0_1 : decode cX6_element0 1 = .ok (.getfield 71, 3) := by decide +kernel
theorem dX6_element0_4 : decode cX6_element0 4 = .ok (.bipush 100, 2) := by decide +kernel
theorem dX6_element0_6 : decode cX6_element0 6 = .ok (.iload_n 1, 1) := by decide +kernel
theorem dX6_element0_7 : decode cX6_element0 7 = .ok (.imul, 1) := by decide +kernel
theorem dX6_element0_8 : decode cX6_element0 8 = .ok (.iload_n 2, 1) := by decide +kernel
theorem dX6_element0_9 : decode cX6_element0 9 = .ok (.iadd, 1) := by decide +kernel
theorem dX6_element0_10 : decode cX6_element0 10 = .ok (.laload, 1) := by decide +kernel
theorem dX6_element0_11 : decode cX6_element0 11 = .ok (.l2i, 1) := by decide +kernel
theorem dX6_element0_12 : decode cX6_element0 12 = .ok (.ireturn, 1) := by decide +kernel
theorem dX6_first_0 : decode cX6_first 0 = .ok (.aload_n 0, 1) := by decide +kernel
theorem dX6_first_1 : decode cX6_first 1 = .ok (.iconst 0, 1) := by decide +kernel
theorem dX6_first_2 : decode cX6_first 2 = .ok (.putfield 77, 3) := by decide +kernel
theorem dX6_first_5 : decode cX6_first 5 = .ok (.iload_n 2, 1) := by decide +kernel
theorem dX6_first_6 : decode cX6_first 6 = .ok (.iload_n 3, 1) := by decide +kernel
theorem dX6_first_7 : decode cX6_first 7 = .ok (.invokestatic 212, 3) := by decide +kernel
theorem dX6_first_10 : decode cX6_first 10 = .ok (.ifCond .eq 14, 3) := by decide +kernel
theorem dX6_first_13 : decode cX6_first 13 = .ok (.aload_n 0, 1) := by decide +kernel
theorem dX6_first_14 : decode cX6_first 14 = .ok (.iload_n 1, 1) := by decide +kernel
theorem dX6_first_15 : decode cX6_first 15 = .ok (.iconst 3, 1) := by decide +kernel
theorem dX6_first_16 : decode cX6_first 16 = .ok (.bipush 8, 2) := by decide +kernel
theorem dX6_first_18 : decode cX6_first 18 = .ok (.invokevirtual 219, 3) := by decide +kernel
theorem dX6_first_21 : decode cX6_first 21 = .ok (.goto 4, 3) := by decide +kernel
theorem dX6_first_24 : decode cX6_first 24 = .ok (.iconst (-1), 1) := by decide +kernel
theorem dX6_first_25 : decode cX6_first 25 = .ok (.istore 4, 2) := by decide +kernel
theorem dX6_first_27 : decode cX6_first 27 = .ok (.iload 4, 2) := by decide +kernel
theorem dX6_first_29 : decode cX6_first 29 = .ok (.ifCond .ge 6, 3) := by decide +kernel
theorem dX6_first_32 : decode cX6_first 32 = .ok (.iload 4, 2) := by decide +kernel
theorem dX6_first_34 : decode cX6_first 34 = .ok (.ireturn, 1) := by decide +kernel
theorem dX6_first_35 : decode cX6_first 35 = .ok (.aload_n 0, 1) := by decide +kernel
theorem dX6_first_36 : decode cX6_first 36 = .ok (.invokevirtual 181, 3) := by decide +kernel
theorem dX6_first_39 : decode cX6_first 39 = .ok (.bipush (-4), 2) := by decide +kernel
theorem dX6_first_41 : decode cX6_first 41 = .ok (.istore 5, 2) := by decide +kernel
theorem dX6_first_43 : decode cX6_first 43 = .ok (.iconst 0, 1) := by decide +kernel
theorem dX6_first_44 : decode cX6_first 44 = .ok (.istore 6, 2) := by decide +kernel
theorem dX6_first_46 : decode cX6_first 46 = .ok (.iload 6, 2) := by decide +kernel
theorem dX6_first_48 : decode cX6_first 48 = .ok (.aload_n 0, 1) := by decide +kernel
theorem dX6_first_49 : decode cX6_first 49 = .ok (.getfield 68, 3) := by decide +kernel
theorem dX6_first_52 : decode cX6_first 52 = .ok (.iload_n 1, 1) := by decide +kernel
theorem dX6_first_53 : decode cX6_first 53 = .ok (.iaload, 1) := by decide +kernel
theorem dX6_first_54 : decode cX6_first 54 = .ok (.iconst 3, 1) := by decide +kernel
theorem dX6_first_55 : decode cX6_first 55 = .ok (.idiv, 1) := by decide +kernel
theorem dX6_first_56 : decode cX6_first 56 = .ok (.if_icmp .ge 88, 3) := by decide +kernel
theorem dX6_first_59 : decode cX6_first 59 = .ok (.iload 5, 2) := by decide +kernel
theorem dX6_first_61 : decode cX6_first 61 = .ok (.ifCond .ge 83, 3) := by decide +kernel
theorem dX6_first_64 : decode cX6_first 64 = .ok (.aload_n 0, 1) := by decide +kernel
theorem dX6_first_65 : decode cX6_first 65 = .ok (.iload_n 1, 1) := by decide +kernel
theorem dX6_first_66 : decode cX6_first 66 = .ok (.iconst 3, 1) := by decide +kernel
theorem dX6_first_67 : decode cX6_first 67 = .ok (.iload 6, 2) := by decide +kernel
theorem dX6_first_69 : decode cX6_first 69 = .ok (.imul, 1) := by decide +kernel
theorem dX6_first_70 : decode cX6_first 70 = .ok (.invokevirtual 222, 3) := by decide +kernel
theorem dX6_first_73 : decode cX6_first 73 = .ok (.istore 7, 2) := by decide +kernel
theorem dX6_first_75 : decode cX6_first 75 = .ok (.aload_n 0, 1) := by decide +kernel
theorem dX6_first_76 : decode cX6_first 76 = .ok (.iload 7, 2) := by decide +kernel
theorem dX6_first_78 : decode cX6_first 78 = .ok (.aload_n 0, 1) := by decide +kernel
theorem dX6_first_79 : decode cX6_first 79 = .ok (.iload_n 1, 1) := by decide +kernel
theorem dX6_first_80 : decode cX6_first 80 = .ok (.iconst 3, 1) := by decide +kernel
theorem dX6_first_81 : decode cX6_first 81 = .ok (.iload 6, 2) := by decide +kernel
theorem dX6_first_83 : decode cX6_first 83 = .ok (.imul, 1) := by decide +kernel
theorem dX6_first_84 : decode cX6_first 84 = .ok (.iconst 1, 1) := by decide +kernel
theorem dX6_first_85 : decode cX6_first 85 = .ok (.iadd, 1) := by decide +kernel
theorem dX6_first_86 : decode cX6_first 86 = .ok (.invokevirtual 222, 3) := by decide +kernel
theorem dX6_first_89 : decode cX6_first 89 = .ok (.aload_n 0, 1) := by decide +kernel
theorem dX6_first_90 : decode cX6_first 90 = .ok (.iload_n 1, 1) := by decide +kernel
theorem dX6_first_91 : decode cX6_first 91 = .ok (.iconst 3, 1) := by decide +kernel
theorem dX6_first_92 : decode cX6_first 92 = .ok (.iload 6, 2) := by decide +kernel
theorem dX6_first_94 : decode cX6_first 94 = .ok (.imul, 1) := by decide +kernel
theorem dX6_first_95 : decode cX6_first 95 = .ok (.iconst 2, 1) := by decide +kernel
theorem dX6_first_96 : decode cX6_first 96 = .ok (.iadd, 1) := by decide +kernel
theorem dX6_first_97 : decode cX6_first 97 = .ok (.invokevirtual 222, 3) := by decide +kernel
theorem dX6_first_100 : decode cX6_first 100 = .ok (.invokevirtual 167, 3) := by decide +kernel
theorem dX6_first_103 : decode cX6_first 103 = .ok (.ifCond .eq 18, 3) := by decide +kernel
theorem dX6_first_106 : decode cX6_first 106 = .ok (.aload_n 0, 1) := by decide +kernel
theorem dX6_first_107 : decode cX6_first 107 = .ok (.iload 7, 2) := by decide +kernel
theorem dX6_first_109 : decode cX6_first 109 = .ok (.iload_n 2, 1) := by decide +kernel
theorem dX6_first_110 : decode cX6_first 110 = .ok (.iload_n 3, 1) := by decide +kernel
theorem dX6_first_111 : decode cX6_first 111 = .ok (.invokevirtual 216, 3) := by decide +kernel
theorem dX6_first_114 : decode cX6_first 114 = .ok (.ifCond .ne 7, 3) := by decide +kernel
theorem dX6_first_117 : decode cX6_first 117 = .ok (.iconst 1, 1) := by decide +kernel
theorem dX6_first_118 : decode cX6_first 118 = .ok (.goto 4, 3) := by decide +kernel
theorem dX6_first_121 : decode cX6_first 121 = .ok (.iconst 0, 1) := by decide +kernel
theorem dX6_first_122 : decode cX6_first 122 = .ok (.istore 8, 2) := by decide +kernel
theorem dX6_first_124 : decode cX6_first 124 = .ok (.iload 8, 2) := by decide +kernel
theorem dX6_first_126 : decode cX6_first 126 = .ok (.ifCond .eq 8, 3) := by decide +kernel
theorem dX6_first_129 : decode cX6_first 129 = .ok (.bipush (-4), 2) := by decide +kernel
theorem dX6_first_131 : decode cX6_first 131 = .ok (.goto 5, 3) := by decide +kernel
theorem dX6_first_134 : decode cX6_first 134 = .ok (.iload 6, 2) := by decide +kernel
theorem dX6_first_136 : decode cX6_first 136 = .ok (.istore 5, 2) := by decide +kernel
theorem dX6_first_138 : decode cX6_first 138 = .ok (.iinc 6 1, 3) := by decide +kernel
theorem dX6_first_141 : decode cX6_first 141 = .ok (.goto (-95), 3) := by decide +kernel
theorem dX6_first_144 : decode cX6_first 144 = .ok (.aload_n 0, 1) := by decide +kernel
theorem dX6_first_145 : decode cX6_first 145 = .ok (.invokevirtual 187, 3) := by decide +kernel
theorem dX6_first_148 : decode cX6_first 148 = .ok (.iload 5, 2) := by decide +kernel
theorem dX6_first_150 : decode cX6_first 150 = .ok (.ireturn, 1) := by decide +kernel
theorem dX6_power_0 : decode cX6_power 0 = .ok (.iconst 1, 1) := by decide +kernel
theorem dX6_power_1 : decode cX6_power 1 = .ok (.istore_n 2, 1) := by decide +kernel
theorem dX6_power_2 : decode cX6_power 2 = .ok (.iconst 0, 1) := by decide +kernel
theorem dX6_power_3 : decode cX6_power 3 = .ok (.istore_n 3, 1) := by decide +kernel
theorem dX6_power_4 : decode cX6_power 4 = .ok (.iload_n 3, 1) := by decide +kernel
theorem dX6_power_5 : decode cX6_power 5 = .ok (.iload_n 1, 1) := by decide +kernel
theorem dX6_power_6 : decode cX6_power 6 = .ok (.if_icmp .ge 13, 3) := by decide +kernel
theorem dX6_power_9 : decode cX6_power 9 = .ok (.iload_n 2, 1) := by decide +kernel
theorem dX6_power_10 : decode cX6_power 10 = .ok (.iload_n 0, 1) := by decide +kernel
theorem dX6_power_11 : decode cX6_power 11 = .ok (.imul, 1) := by decide +kernel
theorem dX6_power_12 : decode cX6_power 12 = .ok (.istore_n 2, 1) := by decide +kernel
theorem dX6_power_13 : decode cX6_power 13 = .ok (.iinc 3 1, 3) := by decide +kernel
theorem dX6_power_16 : decode cX6_power 16 = .ok (.goto (-12), 3) := by decide +kernel
theorem dX6_power_19 : decode cX6_power 19 = .ok (.iload_n 2, 1) := by decide +kernel
theorem dX6_power_20 : decode cX6_power 20 = .ok (.ireturn, 1) := by decide +kernel
theorem dX6_week_0 : decode cX6_week 0 = .ok (.aload_n 0, 1) := by decide +kernel
theorem dX6_week_1 : decode cX6_week 1 = .ok (.iconst 0, 1) := by decide +kernel
theorem dX6_week_2 : decode cX6_week 2 = .ok (.putfield 77, 3) := by decide +kernel
theorem dX6_week_5 : decode cX6_week 5 = .ok (.iload_n 1, 1) := by decide +kernel
theorem dX6_week_6 : decode cX6_week 6 = .ok (.i2l, 1) := by decide +kernel
theorem dX6_week_7 : decode cX6_week 7 = .ok (.lconst 0, 1) := by decide +kernel
theorem dX6_week_8 : decode cX6_week 8 = .ok (.ldc2_w 190, 3) := by decide +kernel
theorem dX6_week_11 : decode cX6_week 11 = .ok (.invokestatic 84, 3) := by decide +kernel
theorem dX6_week_14 : decode cX6_week 14 = .ok (.ifCond .eq 22, 3) := by decide +kernel
theorem dX6_week_17 : decode cX6_week 17 = .ok (.iload_n 2, 1) := by decide +kernel
theorem dX6_week_18 : decode cX6_week 18 = .ok (.iload_n 3, 1) := by decide +kernel
theorem dX6_week_19 : decode cX6_week 19 = .ok (.invokestatic 212, 3) := by decide +kernel
theorem dX6_week_22 : decode cX6_week 22 = .ok (.ifCond .eq 14, 3) := by decide +kernel
theorem dX6_week_25 : decode cX6_week 25 = .ok (.iload 4, 2) := by decide +kernel
theorem dX6_week_27 : decode cX6_week 27 = .ok (.i2l, 1) := by decide +kernel
theorem dX6_week_28 : decode cX6_week 28 = .ok (.lconst 0, 1) := by decide +kernel
theorem dX6_week_29 : decode cX6_week 29 = .ok (.lconst 1, 1) := by decide +kernel
theorem dX6_week_30 : decode cX6_week 30 = .ok (.invokestatic 84, 3) := by decide +kernel
theorem dX6_week_33 : decode cX6_week 33 = .ok (.ifCond .ne 5, 3) := by decide +kernel
theorem dX6_week_36 : decode cX6_week 36 = .ok (.iconst (-1), 1) := by decide +kernel
theorem dX6_week_37 : decode cX6_week 37 = .ok (.ireturn, 1) := by decide +kernel
theorem dX6_week_38 : decode cX6_week 38 = .ok (.aload_n 0, 1) := by decide +kernel
theorem dX6_week_39 : decode cX6_week 39 = .ok (.getfield 81, 3) := by decide +kernel
theorem dX6_week_42 : decode cX6_week 42 = .ok (.ifCond .ne 8, 3) := by decide +kernel
theorem dX6_week_45 : decode cX6_week 45 = .ok (.bipush (-3), 2) := by decide +kernel
theorem dX6_week_47 : decode cX6_week 47 = .ok (.goto 10, 3) := by decide +kernel
theorem dX6_week_50 : decode cX6_week 50 = .ok (.aload_n 0, 1) := by decide +kernel
theorem dX6_week_51 : decode cX6_week 51 = .ok (.iload_n 1, 1) := by decide +kernel
theorem dX6_week_52 : decode cX6_week 52 = .ok (.iconst 2, 1) := by decide +kernel
theorem dX6_week_53 : decode cX6_week 53 = .ok (.iconst 5, 1) := by decide +kernel
theorem dX6_week_54 : decode cX6_week 54 = .ok (.invokevirtual 219, 3) := by decide +kernel
theorem dX6_week_57 : decode cX6_week 57 = .ok (.istore 5, 2) := by decide +kernel
theorem dX6_week_59 : decode cX6_week 59 = .ok (.iload 5, 2) := by decide +kernel
theorem dX6_week_61 : decode cX6_week 61 = .ok (.ifCond .ge 6, 3) := by decide +kernel
theorem dX6_week_64 : decode cX6_week 64 = .ok (.iload 5, 2) := by decide +kernel
theorem dX6_week_66 : decode cX6_week 66 = .ok (.ireturn, 1) := by decide +kernel
theorem dX6_week_67 : decode cX6_week 67 = .ok (.aload_n 0, 1) := by decide +kernel
theorem dX6_week_68 : decode cX6_week 68 = .ok (.getfield 68, 3) := by decide +kernel
theorem dX6_week_71 : decode cX6_week 71 = .ok (.iload_n 1, 1) := by decide +kernel
theorem dX6_week_72 : decode cX6_week 72 = .ok (.iaload, 1) := by decide +kernel
theorem dX6_week_73 : decode cX6_week 73 = .ok (.iconst 2, 1) := by decide +kernel
theorem dX6_week_74 : decode cX6_week 74 = .ok (.idiv, 1) := by decide +kernel
theorem dX6_week_75 : decode cX6_week 75 = .ok (.istore 6, 2) := by decide +kernel
theorem dX6_week_77 : decode cX6_week 77 = .ok (.iconst 0, 1) := by decide +kernel
theorem dX6_week_78 : decode cX6_week 78 = .ok (.istore 7, 2) := by decide +kernel
theorem dX6_week_80 : decode cX6_week 80 = .ok (.bipush (-4), 2) := by decide +kernel
theorem dX6_week_82 : decode cX6_week 82 = .ok (.istore 8, 2) := by decide +kernel
theorem dX6_week_84 : decode cX6_week 84 = .ok (.iconst 0, 1) := by decide +kernel
theorem dX6_week_85 : decode cX6_week 85 = .ok (.istore 9, 2) := by decide +kernel
theorem dX6_week_87 : decode cX6_week 87 = .ok (.iload 9, 2) := by decide +kernel
theorem dX6_week_89 : decode cX6_week 89 = .ok (.aload_n 0, 1) := by decide +kernel
theorem dX6_week_90 : decode cX6_week 90 = .ok (.getfield 81, 3) := by decide +kernel
theorem dX6_week_93 : decode cX6_week 93 = .ok (.iload 6, 2) := by decide +kernel
theorem dX6_week_95 : decode cX6_week 95 = .ok (.invokestatic 225, 3) := by decide +kernel
theorem dX6_week_98 : decode cX6_week 98 = .ok (.if_icmp .ge 167, 3) := by decide +kernel
theorem dX6_week_101 : decode cX6_week 101 = .ok (.aload_n 0, 1) := by decide +kernel
theorem dX6_week_102 : decode cX6_week 102 = .ok (.invokevirtual 181, 3) := by decide +kernel
theorem dX6_week_105 : decode cX6_week 105 = .ok (.iconst 1, 1) := by decide +kernel
theorem dX6_week_106 : decode cX6_week 106 = .ok (.istore 10, 2) := by decide +kernel
theorem dX6_week_108 : decode cX6_week 108 = .ok (.iconst 0, 1) := by decide +kernel
theorem dX6_week_109 : decode cX6_week 109 = .ok (.istore 11, 2) := by decide +kernel
theorem dX6_week_111 : decode cX6_week 111 = .ok (.aload_n 0, 1) := by decide +kernel
theorem dX6_week_112 : decode cX6_week 112 = .ok (.getfield 81, 3) := by decide +kernel
theorem dX6_week_115 : decode cX6_week 115 = .ok (.iload 6, 2) := by decide +kernel
theorem dX6_week_117 : decode cX6_week 117 = .ok (.invokestatic 225, 3) := by decide +kernel
theorem dX6_week_120 : decode cX6_week 120 = .ok (.istore 12, 2) := by decide +kernel
theorem dX6_week_122 : decode cX6_week 122 = .ok (.iconst 0, 1) := by decide +kernel
theorem dX6_week_123 : decode cX6_week 123 = .ok (.istore 13, 2) := by decide +kernel
theorem dX6_week_125 : decode cX6_week 125 = .ok (.iload 13, 2) := by decide +kernel
theorem dX6_week_127 : decode cX6_week 127 = .ok (.iload 6, 2) := by decide +kernel
theorem dX6_week_129 : decode cX6_week 129 = .ok (.if_icmp .ge 92, 3) := by decide +kernel
theorem dX6_week_132 : decode cX6_week 132 = .ok (.iload 10, 2) := by decide +kernel
theorem dX6_week_134 : decode cX6_week 134 = .ok (.ifCond .eq 87, 3) := by decide +kernel
theorem dX6_week_137 : decode cX6_week 137 = .ok (.iload 12, 2) := by decide +kernel
theorem dX6_week_139 : decode cX6_week 139 = .ok (.aload_n 0, 1) := by decide +kernel
theorem dX6_week_140 : decode cX6_week 140 = .ok (.getfield 81, 3) := by decide +kernel
theorem dX6_week_143 : decode cX6_week 143 = .ok (.idiv, 1) := by decide +kernel
theorem dX6_week_144 : decode cX6_week 144 = .ok (.istore 12, 2) := by decide +kernel
theorem dX6_week_146 : decode cX6_week 146 = .ok (.iload 9, 2) := by decide +kernel
theorem dX6_week_148 : decode cX6_week 148 = .ok (.iload 12, 2) := by decide +kernel
theorem dX6_week_150 : decode cX6_week 150 = .ok (.idiv, 1) := by decide +kernel
theorem dX6_week_151 : decode cX6_week 151 = .ok (.aload_n 0, 1) := by decide +kernel
theorem dX6_week_152 : decode cX6_week 152 = .ok (.getfield 81, 3) := by decide +kernel
theorem dX6_week_155 : decode cX6_week 155 = .ok (.irem, 1) := by decide +kernel
theorem dX6_week_156 : decode cX6_week 156 = .ok (.istore 14, 2) := by decide +kernel
theorem dX6_week_158 : decode cX6_week 158 = .ok (.bipush 10, 2) := by decide +kernel
theorem dX6_week_160 : decode cX6_week 160 = .ok (.iload 11, 2) := by decide +kernel
theorem dX6_week_162 : decode cX6_week 162 = .ok (.imul, 1) := by decide +kernel
theorem dX6_week_163 : decode cX6_week 163 = .ok (.iload 14, 2) := by decide +kernel
theorem dX6_week_165 : decode cX6_week 165 = .ok (.iadd, 1) := by decide +kernel
theorem dX6_week_166 : decode cX6_week 166 = .ok (.istore 11, 2) := by decide +kernel
theorem dX6_week_168 : decode cX6_week 168 = .ok (.aload_n 0, 1) := by decide +kernel
theorem dX6_week_169 : decode cX6_week 169 = .ok (.iload 14, 2) := by decide +kernel
theorem dX6_week_171 : decode cX6_week 171 = .ok (.aload_n 0, 1) := by decide +kernel
theorem dX6_week_172 : decode cX6_week 172 = .ok (.iload_n 1, 1) := by decide +kernel
theorem dX6_week_173 : decode cX6_week 173 = .ok (.iconst 2, 1) := by decide +kernel
theorem dX6_week_174 : decode cX6_week 174 = .ok (.iload 13, 2) := by decide +kernel
theorem dX6_week_176 : decode cX6_week 176 = .ok (.imul, 1) := by decide +kernel
theorem dX6_week_177 : decode cX6_week 177 = .ok (.invokevirtual 222, 3) := by decide +kernel
theorem dX6_week_180 : decode cX6_week 180 = .ok (.aload_n 0, 1) := by decide +kernel
theorem dX6_week_181 : decode cX6_week 181 = .ok (.iload_n 1, 1) := by decide +kernel
theorem dX6_week_182 : decode cX6_week 182 = .ok (.iconst 2, 1) := by decide +kernel
theorem dX6_week_183 : decode cX6_week 183 = .ok (.iload 13, 2) := by decide +kernel
theorem dX6_week_185 : decode cX6_week 185 = .ok (.imul, 1) := by decide +kernel
theorem dX6_week_186 : decode cX6_week 186 = .ok (.iconst 1, 1) := by decide +kernel
theorem dX6_week_187 : decode cX6_week 187 = .ok (.iadd, 1) := by decide +kernel
theorem dX6_week_188 : decode cX6_week 188 = .ok (.invokevirtual 222, 3) := by decide +kernel
theorem dX6_week_191 : decode cX6_week 191 = .ok (.invokevirtual 167, 3) := by decide +kernel
theorem dX6_week_194 : decode cX6_week 194 = .ok (.ifCond .eq 18, 3) := by decide +kernel
theorem dX6_week_197 : decode cX6_week 197 = .ok (.aload_n 0, 1) := by decide +kernel
theorem dX6_week_198 : decode cX6_week 198 = .ok (.iload 14, 2) := by decide +kernel
theorem dX6_week_200 : decode cX6_week 200 = .ok (.iload_n 2, 1) := by decide +kernel
theorem dX6_week_201 : decode cX6_week 201 = .ok (.iload_n 3, 1) := by decide +kernel
theorem dX6_week_202 : decode cX6_week 202 = .ok (.invokevirtual 216, 3) := by decide +kernel
theorem dX6_week_205 : decode cX6_week 205 = .ok (.ifCond .ne 7, 3) := by decide +kernel
theorem dX6_week_208 : decode cX6_week 208 = .ok (.iconst 1, 1) := by decide +kernel
theorem dX6_week_209 : decode cX6_week 209 = .ok (.goto 4, 3) := by decide +kernel
theorem dX6_week_212 : decode cX6_week 212 = .ok (.iconst 0, 1) := by decide +kernel
theorem dX6_week_213 : decode cX6_week 213 = .ok (.istore 10, 2) := by decide +kernel
theorem dX6_week_215 : decode cX6_week 215 = .ok (.iinc 13 1, 3) := by decide +kernel
theorem dX6_week_218 : decode cX6_week 218 = .ok (.goto (-93), 3) := by decide +kernel
theorem dX6_week_221 : decode cX6_week 221 = .ok (.aload_n 0, 1) := by decide +kernel
theorem dX6_week_222 : decode cX6_week 222 = .ok (.invokevirtual 187, 3) := by decide +kernel
theorem dX6_week_225 : decode cX6_week 225 = .ok (.iload 10, 2) := by decide +kernel
theorem dX6_week_227 : decode cX6_week 227 = .ok (.ifCond .eq 13, 3) := by decide +kernel
theorem dX6_week_230 : decode cX6_week 230 = .ok (.iload 7, 2) := by decide +kernel
theorem dX6_week_232 : decode cX6_week 232 = .ok (.ifCond .ne 8, 3) := by decide +kernel
theorem dX6_week_235 : decode cX6_week 235 = .ok (.iload 11, 2) := by decide +kernel
theorem dX6_week_237 : decode cX6_week 237 = .ok (.goto 5, 3) := by decide +kernel
theorem dX6_week_240 : decode cX6_week 240 = .ok (.iload 8, 2) := by decide +kernel
theorem dX6_week_242 : decode cX6_week 242 = .ok (.istore 8, 2) := by decide +kernel
theorem dX6_week_244 : decode cX6_week 244 = .ok (.iload 7, 2) := by decide +kernel
theorem dX6_week_246 : decode cX6_week 246 = .ok (.iload 10, 2) := by decide +kernel
theorem dX6_week_248 : decode cX6_week 248 = .ok (.ifCond .eq 7, 3) := by decide +kernel
theorem dX6_week_251 : decode cX6_week 251 = .ok (.iconst 1, 1) := by decide +kernel
theorem dX6_week_252 : decode cX6_week 252 = .ok (.goto 4, 3) := by decide +kernel
theorem dX6_week_255 : decode cX6_week 255 = .ok (.iconst 0, 1) := by decide +kernel
theorem dX6_week_256 : decode cX6_week 256 = .ok (.iadd, 1) := by decide +kernel
theorem dX6_week_257 : decode cX6_week 257 = .ok (.istore 7, 2) := by decide +kernel
theorem dX6_week_259 : decode cX6_week 259 = .ok (.iinc 9 1, 3) := by decide +kernel
theorem dX6_week_262 : decode cX6_week 262 = .ok (.goto (-175), 3) := by decide +kernel
theorem dX6_week_265 : decode cX6_week 265 = .ok (.iload 4, 2) := by decide +kernel
theorem dX6_week_267 : decode cX6_week 267 = .ok (.ifCond .ne 8, 3) := by decide +kernel
theorem dX6_week_270 : decode cX6_week 270 = .ok (.iload 7, 2) := by decide +kernel
theorem dX6_week_272 : decode cX6_week 272 = .ok (.goto 5, 3) := by decide +kernel
theorem dX6_week_275 : decode cX6_week 275 = .ok (.iload 8, 2) := by decide +kernel
theorem dX6_week_277 : decode cX6_week 277 = .ok (.ireturn, 1) := by decide +kernel
theorem dX6_cooksCode_0 : decode cX6_cooksCode 0 = .ok (.iconst 1, 1) := by decide +kernel
theorem dX6_cooksCode_1 : decode cX6_cooksCode 1 = .ok (.istore 4, 2) := by decide +kernel
theorem dX6_cooksCode_3 : decode cX6_cooksCode 3 = .ok (.bipush 8, 2) := by decide +kernel
theorem dX6_cooksCode_5 : decode cX6_cooksCode 5 = .ok (.iload_n 2, 1) := by decide +kernel
theorem dX6_cooksCode_6 : decode cX6_cooksCode 6 = .ok (.invokestatic 225, 3) := by decide +kernel
theorem dX6_cooksCode_9 : decode cX6_cooksCode 9 = .ok (.istore 5, 2) := by decide +kernel
theorem dX6_cooksCode_11 : decode cX6_cooksCode 11 = .ok (.iconst 0, 1) := by decide +kernel
theorem dX6_cooksCode_12 : decode cX6_cooksCode 12 = .ok (.istore 6, 2) := by decide +kernel
theorem dX6_cooksCode_14 : decode cX6_cooksCode 14 = .ok (.iload 6, 2) := by decide +kernel
theorem dX6_cooksCode_16 : decode cX6_cooksCode 16 = .ok (.iload_n 2, 1) := by decide +kernel
theorem dX6_cooksCode_17 : decode cX6_cooksCode 17 = .ok (.if_icmp .ge 37, 3) := by decide +kernel
theorem dX6_cooksCode_20 : decode cX6_cooksCode 20 = .ok (.iload 4, 2) := by decide +kernel
theorem dX6_cooksCode_22 : decode cX6_cooksCode 22 = .ok (.ifCond .eq 32, 3) := by decide +kernel
theorem dX6_cooksCode_25 : decode cX6_cooksCode 25 = .ok (.iload 5, 2) := by decide +kernel
theorem dX6_cooksCode_27 : decode cX6_cooksCode 27 = .ok (.bipush 8, 2) := by decide +kernel
theorem dX6_cooksCode_29 : decode cX6_cooksCode 29 = .ok (.idiv, 1) := by decide +kernel
theorem dX6_cooksCode_30 : decode cX6_cooksCode 30 = .ok (.istore 5, 2) := by decide +kernel
theorem dX6_cooksCode_32 : decode cX6_cooksCode 32 = .ok (.aload_n 0, 1) := by decide +kernel
theorem dX6_cooksCode_33 : decode cX6_cooksCode 33 = .ok (.bipush 6, 2) := by decide +kernel
theorem dX6_cooksCode_35 : decode cX6_cooksCode 35 = .ok (.iload_n 1, 1) := by decide +kernel
theorem dX6_cooksCode_36 : decode cX6_cooksCode 36 = .ok (.iload 5, 2) := by decide +kernel
theorem dX6_cooksCode_38 : decode cX6_cooksCode 38 = .ok (.idiv, 1) := by decide +kernel
theorem dX6_cooksCode_39 : decode cX6_cooksCode 39 = .ok (.bipush 8, 2) := by decide +kernel
theorem dX6_cooksCode_41 : decode cX6_cooksCode 41 = .ok (.irem, 1) := by decide +kernel
theorem dX6_cooksCode_42 : decode cX6_cooksCode 42 = .ok (.iload_n 3, 1) := by decide +kernel
theorem dX6_cooksCode_43 : decode cX6_cooksCode 43 = .ok (.invokevirtual 167, 3) := by decide +kernel
theorem dX6_cooksCode_46 : decode cX6_cooksCode 46 = .ok (.istore 4, 2) := by decide +kernel
theorem dX6_cooksCode_48 : decode cX6_cooksCode 48 = .ok (.iinc 6 1, 3) := by decide +kernel
theorem dX6_cooksCode_51 : decode cX6_cooksCode 51 = .ok (.goto (-37), 3) := by decide +kernel
theorem dX6_cooksCode_54 : decode cX6_cooksCode 54 = .ok (.iload 4, 2) := by decide +kernel
theorem dX6_cooksCode_56 : decode cX6_cooksCode 56 = .ok (.ireturn, 1) := by decide +kernel
theorem dX6_bring_0 : decode cX6_bring 0 = .ok (.aload_n 0, 1) := by decide +kernel
theorem dX6_bring_1 : decode cX6_bring 1 = .ok (.iconst 0, 1) := by decide +kernel
theorem dX6_bring_2 : decode cX6_bring 2 = .ok (.putfield 77, 3) := by decide +kernel
theorem dX6_bring_5 : decode cX6_bring 5 = .ok (.aload_n 0, 1) := by decide +kernel
theorem dX6_bring_6 : decode cX6_bring 6 = .ok (.iload_n 1, 1) := by decide +kernel
theorem dX6_bring_7 : decode cX6_bring 7 = .ok (.invokevirtual 163, 3) := by decide +kernel
theorem dX6_bring_10 : decode cX6_bring 10 = .ok (.ifCond .eq 51, 3) := by decide +kernel
theorem dX6_bring_13 : decode cX6_bring 13 = .ok (.iload_n 2, 1) := by decide +kernel
theorem dX6_bring_14 : decode cX6_bring 14 = .ok (.i2l, 1) := by decide +kernel
theorem dX6_bring_15 : decode cX6_bring 15 = .ok (.lconst 0, 1) := by decide +kernel
theorem dX6_bring_16 : decode cX6_bring 16 = .ok (.ldc2_w 195, 3) := by decide +kernel
theorem dX6_bring_19 : decode cX6_bring 19 = .ok (.invokestatic 84, 3) := by decide +kernel
theorem dX6_bring_22 : decode cX6_bring 22 = .ok (.ifCond .eq 39, 3) := by decide +kernel
theorem dX6_bring_25 : decode cX6_bring 25 = .ok (.iload_n 3, 1) := by decide +kernel
theorem dX6_bring_26 : decode cX6_bring 26 = .ok (.i2l, 1) := by decide +kernel
theorem dX6_bring_27 : decode cX6_bring 27 = .ok (.lconst 0, 1) := by decide +kernel
theorem dX6_bring_28 : decode cX6_bring 28 = .ok (.ldc2_w 109, 3) := by decide +kernel
theorem dX6_bring_31 : decode cX6_bring 31 = .ok (.invokestatic 84, 3) := by decide +kernel
theorem dX6_bring_34 : decode cX6_bring 34 = .ok (.ifCond .eq 27, 3) := by decide +kernel
theorem dX6_bring_37 : decode cX6_bring 37 = .ok (.iload 4, 2) := by decide +kernel
theorem dX6_bring_39 : decode cX6_bring 39 = .ok (.i2l, 1) := by decide +kernel
theorem dX6_bring_40 : decode cX6_bring 40 = .ok (.lconst 0, 1) := by decide +kernel
theorem dX6_bring_41 : decode cX6_bring 41 = .ok (.ldc2_w 88, 3) := by decide +kernel
theorem dX6_bring_44 : decode cX6_bring 44 = .ok (.invokestatic 84, 3) := by decide +kernel
theorem dX6_bring_47 : decode cX6_bring 47 = .ok (.ifCond .eq 14, 3) := by decide +kernel
theorem dX6_bring_50 : decode cX6_bring 50 = .ok (.iload 5, 2) := by decide +kernel
theorem dX6_bring_52 : decode cX6_bring 52 = .ok (.i2l, 1) := by decide +kernel
theorem dX6_bring_53 : decode cX6_bring 53 = .ok (.lconst 0, 1) := by decide +kernel
theorem dX6_bring_54 : decode cX6_bring 54 = .ok (.lconst 1, 1) := by decide +kernel
theorem dX6_bring_55 : decode cX6_bring 55 = .ok (.invokestatic 84, 3) := by decide +kernel
theorem dX6_bring_58 : decode cX6_bring 58 = .ok (.ifCond .ne 5, 3) := by decide +kernel
theorem dX6_bring_61 : decode cX6_bring 61 = .ok (.iconst (-1), 1) := by decide +kernel
theorem dX6_bring_62 : decode cX6_bring 62 = .ok (.ireturn, 1) := by decide +kernel
theorem dX6_bring_63 : decode cX6_bring 63 = .ok (.iconst 0, 1) := by decide +kernel
theorem dX6_bring_64 : decode cX6_bring 64 = .ok (.istore 6, 2) := by decide +kernel
theorem dX6_bring_66 : decode cX6_bring 66 = .ok (.iload 6, 2) := by decide +kernel
theorem dX6_bring_68 : decode cX6_bring 68 = .ok (.iconst 4, 1) := by decide +kernel
theorem dX6_bring_69 : decode cX6_bring 69 = .ok (.if_icmp .ge 94, 3) := by decide +kernel
theorem dX6_bring_72 : decode cX6_bring 72 = .ok (.iconst 0, 1) := by decide +kernel
theorem dX6_bring_73 : decode cX6_bring 73 = .ok (.istore 7, 2) := by decide +kernel
theorem dX6_bring_75 : decode cX6_bring 75 = .ok (.iload 7, 2) := by decide +kernel
theorem dX6_bring_77 : decode cX6_bring 77 = .ok (.bipush 8, 2) := by decide +kernel
theorem dX6_bring_79 : decode cX6_bring 79 = .ok (.iload 6, 2) := by decide +kernel
theorem dX6_bring_81 : decode cX6_bring 81 = .ok (.invokestatic 225, 3) := by decide +kernel
theorem dX6_bring_84 : decode cX6_bring 84 = .ok (.if_icmp .ge 73, 3) := by decide +kernel
theorem dX6_bring_87 : decode cX6_bring 87 = .ok (.aload_n 0, 1) := by decide +kernel
theorem dX6_bring_88 : decode cX6_bring 88 = .ok (.iload_n 1, 1) := by decide +kernel
theorem dX6_bring_89 : decode cX6_bring 89 = .ok (.bipush 6, 2) := by decide +kernel
theorem dX6_bring_91 : decode cX6_bring 91 = .ok (.invokevirtual 170, 3) := by decide +kernel
theorem dX6_bring_94 : decode cX6_bring 94 = .ok (.aload_n 0, 1) := by decide +kernel
theorem dX6_bring_95 : decode cX6_bring 95 = .ok (.iload 7, 2) := by decide +kernel
theorem dX6_bring_97 : decode cX6_bring 97 = .ok (.iload 6, 2) := by decide +kernel
theorem dX6_bring_99 : decode cX6_bring 99 = .ok (.iload 4, 2) := by decide +kernel
theorem dX6_bring_101 : decode cX6_bring 101 = .ok (.invokevirtual 228, 3) := by decide +kernel
theorem dX6_bring_104 : decode cX6_bring 104 = .ok (.ifCond .eq 47, 3) := by decide +kernel
theorem dX6_bring_107 : decode cX6_bring 107 = .ok (.aload_n 0, 1) := by decide +kernel
theorem dX6_bring_108 : decode cX6_bring 108 = .ok (.bipush 6, 2) := by decide +kernel
theorem dX6_bring_110 : decode cX6_bring 110 = .ok (.iload_n 2, 1) := by decide +kernel
theorem dX6_bring_111 : decode cX6_bring 111 = .ok (.iload_n 3, 1) := by decide +kernel
theorem dX6_bring_112 : decode cX6_bring 112 = .ok (.invokevirtual 111, 3) := by decide +kernel
theorem dX6_bring_115 : decode cX6_bring 115 = .ok (.ifCond .eq 36, 3) := by decide +kernel
theorem dX6_bring_118 : decode cX6_bring 118 = .ok (.iload 5, 2) := by decide +kernel
theorem dX6_bring_120 : decode cX6_bring 120 = .ok (.ifCond .ne 8, 3) := by decide +kernel
theorem dX6_bring_123 : decode cX6_bring 123 = .ok (.iload 6, 2) := by decide +kernel
theorem dX6_bring_125 : decode cX6_bring 125 = .ok (.goto 25, 3) := by decide +kernel
theorem dX6_bring_128 : decode cX6_bring 128 = .ok (.iload 6, 2) := by decide +kernel
theorem dX6_bring_130 : decode cX6_bring 130 = .ok (.ifCond .ne 8, 3) := by decide +kernel
theorem dX6_bring_133 : decode cX6_bring 133 = .ok (.bipush (-4), 2) := by decide +kernel
theorem dX6_bring_135 : decode cX6_bring 135 = .ok (.goto 15, 3) := by decide +kernel
theorem dX6_bring_138 : decode cX6_bring 138 = .ok (.iload 7, 2) := by decide +kernel
theorem dX6_bring_140 : decode cX6_bring 140 = .ok (.bipush 8, 2) := by decide +kernel
theorem dX6_bring_142 : decode cX6_bring 142 = .ok (.iload 6, 2) := by decide +kernel
theorem dX6_bring_144 : decode cX6_bring 144 = .ok (.iconst 1, 1) := by decide +kernel
theorem dX6_bring_145 : decode cX6_bring 145 = .ok (.isub, 1) := by decide +kernel
theorem dX6_bring_146 : decode cX6_bring 146 = .ok (.invokestatic 225, 3) := by decide +kernel
theorem dX6_bring_149 : decode cX6_bring 149 = .ok (.idiv, 1) := by decide +kernel
theorem dX6_bring_150 : decode cX6_bring 150 = .ok (.ireturn, 1) := by decide +kernel
theorem dX6_bring_151 : decode cX6_bring 151 = .ok (.iinc 7 1, 3) := by decide +kernel
theorem dX6_bring_154 : decode cX6_bring 154 = .ok (.goto (-79), 3) := by decide +kernel
theorem dX6_bring_157 : decode cX6_bring 157 = .ok (.iinc 6 1, 3) := by decide +kernel
theorem dX6_bring_160 : decode cX6_bring 160 = .ok (.goto (-94), 3) := by decide +kernel
theorem dX6_bring_163 : decode cX6_bring 163 = .ok (.bipush (-4), 2) := by decide +kernel
theorem dX6_bring_165 : decode cX6_bring 165 = .ok (.ireturn, 1) := by decide +kernel
theorem dX6_digitsOf_0 : decode cX6_digitsOf 0 = .ok (.iconst 0, 1) := by decide +kernel
theorem dX6_digitsOf_1 : decode cX6_digitsOf 1 = .ok (.istore_n 2, 1) := by decide +kernel
theorem dX6_digitsOf_2 : decode cX6_digitsOf 2 = .ok (.bipush 8, 2) := by decide +kernel
theorem dX6_digitsOf_4 : decode cX6_digitsOf 4 = .ok (.iload_n 1, 1) := by decide +kernel
theorem dX6_digitsOf_5 : decode cX6_digitsOf 5 = .ok (.invokestatic 225, 3) := by decide +kernel
theorem dX6_digitsOf_8 : decode cX6_digitsOf 8 = .ok (.istore_n 3, 1) := by decide +kernel
theorem dX6_digitsOf_9 : decode cX6_digitsOf 9 = .ok (.iconst 0, 1) := by decide +kernel
theorem dX6_digitsOf_10 : decode cX6_digitsOf 10 = .ok (.istore 4, 2) := by decide +kernel
theorem dX6_digitsOf_12 : decode cX6_digitsOf 12 = .ok (.iload 4, 2) := by decide +kernel
theorem dX6_digitsOf_14 : decode cX6_digitsOf 14 = .ok (.iload_n 1, 1) := by decide +kernel
theorem dX6_digitsOf_15 : decode cX6_digitsOf 15 = .ok (.if_icmp .ge 26, 3) := by decide +kernel
theorem dX6_digitsOf_18 : decode cX6_digitsOf 18 = .ok (.iload_n 3, 1) := by decide +kernel
theorem dX6_digitsOf_19 : decode cX6_digitsOf 19 = .ok (.bipush 8, 2) := by decide +kernel
theorem dX6_digitsOf_21 : decode cX6_digitsOf 21 = .ok (.idiv, 1) := by decide +kernel
theorem dX6_digitsOf_22 : decode cX6_digitsOf 22 = .ok (.istore_n 3, 1) := by decide +kernel
theorem dX6_digitsOf_23 : decode cX6_digitsOf 23 = .ok (.bipush 10, 2) := by decide +kernel
theorem dX6_digitsOf_25 : decode cX6_digitsOf 25 = .ok (.iload_n 2, 1) := by decide +kernel
theorem dX6_digitsOf_26 : decode cX6_digitsOf 26 = .ok (.imul, 1) := by decide +kernel
theorem dX6_digitsOf_27 : decode cX6_digitsOf 27 = .ok (.iload_n 0, 1) := by decide +kernel
theorem dX6_digitsOf_28 : decode cX6_digitsOf 28 = .ok (.iload_n 3, 1) := by decide +kernel
theorem dX6_digitsOf_29 : decode cX6_digitsOf 29 = .ok (.idiv, 1) := by decide +kernel
theorem dX6_digitsOf_30 : decode cX6_digitsOf 30 = .ok (.bipush 8, 2) := by decide +kernel
theorem dX6_digitsOf_32 : decode cX6_digitsOf 32 = .ok (.irem, 1) := by decide +kernel
theorem dX6_digitsOf_33 : decode cX6_digitsOf 33 = .ok (.iadd, 1) := by decide +kernel
theorem dX6_digitsOf_34 : decode cX6_digitsOf 34 = .ok (.istore_n 2, 1) := by decide +kernel
theorem dX6_digitsOf_35 : decode cX6_digitsOf 35 = .ok (.iinc 4 1, 3) := by decide +kernel
theorem dX6_digitsOf_38 : decode cX6_digitsOf 38 = .ok (.goto (-26), 3) := by decide +kernel
theorem dX6_digitsOf_41 : decode cX6_digitsOf 41 = .ok (.iload_n 2, 1) := by decide +kernel
theorem dX6_digitsOf_42 : decode cX6_digitsOf 42 = .ok (.ireturn, 1) := by decide +kernel
theorem dX6_mayHave_0 : decode cX6_mayHave 0 = .ok (.aload_n 0, 1) := by decide +kernel
theorem dX6_mayHave_1 : decode cX6_mayHave 1 = .ok (.iconst 0, 1) := by decide +kernel
theorem dX6_mayHave_2 : decode cX6_mayHave 2 = .ok (.putfield 77, 3) := by decide +kernel
theorem dX6_mayHave_5 : decode cX6_mayHave 5 = .ok (.aload_n 0, 1) := by decide +kernel
theorem dX6_mayHave_6 : decode cX6_mayHave 6 = .ok (.iload_n 1, 1) := by decide +kernel
theorem dX6_mayHave_7 : decode cX6_mayHave 7 = .ok (.invokevirtual 163, 3) := by decide +kernel
theorem dX6_mayHave_10 : decode cX6_mayHave 10 = .ok (.ifCond .eq 38, 3) := by decide +kernel
theorem dX6_mayHave_13 : decode cX6_mayHave 13 = .ok (.iload_n 2, 1) := by decide +kernel
theorem dX6_mayHave_14 : decode cX6_mayHave 14 = .ok (.i2l, 1) := by decide +kernel
theorem dX6_mayHave_15 : decode cX6_mayHave 15 = .ok (.lconst 1, 1) := by decide +kernel
theorem dX6_mayHave_16 : decode cX6_mayHave 16 = .ok (.ldc2_w 195, 3) := by decide +kernel
theorem dX6_mayHave_19 : decode cX6_mayHave 19 = .ok (.invokestatic 84, 3) := by decide +kernel
theorem dX6_mayHave_22 : decode cX6_mayHave 22 = .ok (.ifCond .eq 26, 3) := by decide +kernel
theorem dX6_mayHave_25 : decode cX6_mayHave 25 = .ok (.iload_n 3, 1) := by decide +kernel
theorem dX6_mayHave_26 : decode cX6_mayHave 26 = .ok (.i2l, 1) := by decide +kernel
theorem dX6_mayHave_27 : decode cX6_mayHave 27 = .ok (.lconst 0, 1) := by decide +kernel
theorem dX6_mayHave_28 : decode cX6_mayHave 28 = .ok (.ldc2_w 88, 3) := by decide +kernel
theorem dX6_mayHave_31 : decode cX6_mayHave 31 = .ok (.invokestatic 84, 3) := by decide +kernel
theorem dX6_mayHave_34 : decode cX6_mayHave 34 = .ok (.ifCond .eq 14, 3) := by decide +kernel
theorem dX6_mayHave_37 : decode cX6_mayHave 37 = .ok (.iload 4, 2) := by decide +kernel
theorem dX6_mayHave_39 : decode cX6_mayHave 39 = .ok (.i2l, 1) := by decide +kernel
theorem dX6_mayHave_40 : decode cX6_mayHave 40 = .ok (.lconst 0, 1) := by decide +kernel
theorem dX6_mayHave_41 : decode cX6_mayHave 41 = .ok (.lconst 1, 1) := by decide +kernel
theorem dX6_mayHave_42 : decode cX6_mayHave 42 = .ok (.invokestatic 84, 3) := by decide +kernel
theorem dX6_mayHave_45 : decode cX6_mayHave 45 = .ok (.ifCond .ne 5, 3) := by decide +kernel
theorem dX6_mayHave_48 : decode cX6_mayHave 48 = .ok (.iconst (-1), 1) := by decide +kernel
theorem dX6_mayHave_49 : decode cX6_mayHave 49 = .ok (.ireturn, 1) := by decide +kernel
theorem dX6_mayHave_50 : decode cX6_mayHave 50 = .ok (.iconst 0, 1) := by decide +kernel
theorem dX6_mayHave_51 : decode cX6_mayHave 51 = .ok (.istore 5, 2) := by decide +kernel
theorem dX6_mayHave_53 : decode cX6_mayHave 53 = .ok (.bipush (-4), 2) := by decide +kernel
theorem dX6_mayHave_55 : decode cX6_mayHave 55 = .ok (.istore 6, 2) := by decide +kernel
theorem dX6_mayHave_57 : decode cX6_mayHave 57 = .ok (.iconst 0, 1) := by decide +kernel
theorem dX6_mayHave_58 : decode cX6_mayHave 58 = .ok (.istore 7, 2) := by decide +kernel
theorem dX6_mayHave_60 : decode cX6_mayHave 60 = .ok (.iload 7, 2) := by decide +kernel
theorem dX6_mayHave_62 : decode cX6_mayHave 62 = .ok (.bipush 8, 2) := by decide +kernel
theorem dX6_mayHave_64 : decode cX6_mayHave 64 = .ok (.iload_n 2, 1) := by decide +kernel
theorem dX6_mayHave_65 : decode cX6_mayHave 65 = .ok (.invokestatic 225, 3) := by decide +kernel
theorem dX6_mayHave_68 : decode cX6_mayHave 68 = .ok (.if_icmp .ge 155, 3) := by decide +kernel
theorem dX6_mayHave_71 : decode cX6_mayHave 71 = .ok (.aload_n 0, 1) := by decide +kernel
theorem dX6_mayHave_72 : decode cX6_mayHave 72 = .ok (.bipush 6, 2) := by decide +kernel
theorem dX6_mayHave_74 : decode cX6_mayHave 74 = .ok (.invokevirtual 159, 3) := by decide +kernel
theorem dX6_mayHave_77 : decode cX6_mayHave 77 = .ok (.aload_n 0, 1) := by decide +kernel
theorem dX6_mayHave_78 : decode cX6_mayHave 78 = .ok (.iload 7, 2) := by decide +kernel
theorem dX6_mayHave_80 : decode cX6_mayHave 80 = .ok (.iload_n 2, 1) := by decide +kernel
theorem dX6_mayHave_81 : decode cX6_mayHave 81 = .ok (.iload_n 3, 1) := by decide +kernel
theorem dX6_mayHave_82 : decode cX6_mayHave 82 = .ok (.invokevirtual 228, 3) := by decide +kernel
theorem dX6_mayHave_85 : decode cX6_mayHave 85 = .ok (.pop, 1) := by decide +kernel
theorem dX6_mayHave_86 : decode cX6_mayHave 86 = .ok (.iconst 1, 1) := by decide +kernel
theorem dX6_mayHave_87 : decode cX6_mayHave 87 = .ok (.istore 8, 2) := by decide +kernel
theorem dX6_mayHave_89 : decode cX6_mayHave 89 = .ok (.iconst 0, 1) := by decide +kernel
theorem dX6_mayHave_90 : decode cX6_mayHave 90 = .ok (.istore 9, 2) := by decide +kernel
theorem dX6_mayHave_92 : decode cX6_mayHave 92 = .ok (.iload 9, 2) := by decide +kernel
theorem dX6_mayHave_94 : decode cX6_mayHave 94 = .ok (.iconst 4, 1) := by decide +kernel
theorem dX6_mayHave_95 : decode cX6_mayHave 95 = .ok (.if_icmp .ge 84, 3) := by decide +kernel
theorem dX6_mayHave_98 : decode cX6_mayHave 98 = .ok (.iconst 0, 1) := by decide +kernel
theorem dX6_mayHave_99 : decode cX6_mayHave 99 = .ok (.istore 10, 2) := by decide +kernel
theorem dX6_mayHave_101 : decode cX6_mayHave 101 = .ok (.iload 10, 2) := by decide +kernel
theorem dX6_mayHave_103 : decode cX6_mayHave 103 = .ok (.iconst 2, 1) := by decide +kernel
theorem dX6_mayHave_104 : decode cX6_mayHave 104 = .ok (.if_icmp .ge 69, 3) := by decide +kernel
theorem dX6_mayHave_107 : decode cX6_mayHave 107 = .ok (.iload 8, 2) := by decide +kernel
theorem dX6_mayHave_109 : decode cX6_mayHave 109 = .ok (.ifCond .eq 55, 3) := by decide +kernel
theorem dX6_mayHave_112 : decode cX6_mayHave 112 = .ok (.aload_n 0, 1) := by decide +kernel
theorem dX6_mayHave_113 : decode cX6_mayHave 113 = .ok (.getfield 7, 3) := by decide +kernel
theorem dX6_mayHave_116 : decode cX6_mayHave 116 = .ok (.bipush 24, 2) := by decide +kernel
theorem dX6_mayHave_118 : decode cX6_mayHave 118 = .ok (.iload 9, 2) := by decide +kernel
theorem dX6_mayHave_120 : decode cX6_mayHave 120 = .ok (.iadd, 1) := by decide +kernel
theorem dX6_mayHave_121 : decode cX6_mayHave 121 = .ok (.laload, 1) := by decide +kernel
theorem dX6_mayHave_122 : decode cX6_mayHave 122 = .ok (.iload_n 2, 1) := by decide +kernel
theorem dX6_mayHave_123 : decode cX6_mayHave 123 = .ok (.invokestatic 90, 3) := by decide +kernel
theorem dX6_mayHave_126 : decode cX6_mayHave 126 = .ok (.iload 10, 2) := by decide +kernel
theorem dX6_mayHave_128 : decode cX6_mayHave 128 = .ok (.invokestatic 199, 3) := by decide +kernel
theorem dX6_mayHave_131 : decode cX6_mayHave 131 = .ok (.aload_n 0, 1) := by decide +kernel
theorem dX6_mayHave_132 : decode cX6_mayHave 132 = .ok (.getfield 7, 3) := by decide +kernel
theorem dX6_mayHave_135 : decode cX6_mayHave 135 = .ok (.iconst 4, 1) := by decide +kernel
theorem dX6_mayHave_136 : decode cX6_mayHave 136 = .ok (.iload_n 1, 1) := by decide +kernel
theorem dX6_mayHave_137 : decode cX6_mayHave 137 = .ok (.imul, 1) := by decide +kernel
theorem dX6_mayHave_138 : decode cX6_mayHave 138 = .ok (.iload 9, 2) := by decide +kernel
theorem dX6_mayHave_140 : decode cX6_mayHave 140 = .ok (.iadd, 1) := by decide +kernel
theorem dX6_mayHave_141 : decode cX6_mayHave 141 = .ok (.laload, 1) := by decide +kernel
theorem dX6_mayHave_142 : decode cX6_mayHave 142 = .ok (.aload_n 0, 1) := by decide +kernel
theorem dX6_mayHave_143 : decode cX6_mayHave 143 = .ok (.getfield 13, 3) := by decide +kernel
theorem dX6_mayHave_146 : decode cX6_mayHave 146 = .ok (.iload_n 1, 1) := by decide +kernel
theorem dX6_mayHave_147 : decode cX6_mayHave 147 = .ok (.iaload, 1) := by decide +kernel
theorem dX6_mayHave_148 : decode cX6_mayHave 148 = .ok (.invokestatic 90, 3) := by decide +kernel
theorem dX6_mayHave_151 : decode cX6_mayHave 151 = .ok (.iload 10, 2) := by decide +kernel
theorem dX6_mayHave_153 : decode cX6_mayHave 153 = .ok (.invokestatic 199, 3) := by decide +kernel
theorem dX6_mayHave_156 : decode cX6_mayHave 156 = .ok (.lcmp, 1) := by decide +kernel
theorem dX6_mayHave_157 : decode cX6_mayHave 157 = .ok (.ifCond .ne 7, 3) := by decide +kernel
theorem dX6_mayHave_160 : decode cX6_mayHave 160 = .ok (.iconst 1, 1) := by decide +kernel
theorem dX6_mayHave_161 : decode cX6_mayHave 161 = .ok (.goto 4, 3) := by decide +kernel
theorem dX6_mayHave_164 : decode cX6_mayHave 164 = .ok (.iconst 0, 1) := by decide +kernel
theorem dX6_mayHave_165 : decode cX6_mayHave 165 = .ok (.istore 8, 2) := by decide +kernel
theorem dX6_mayHave_167 : decode cX6_mayHave 167 = .ok (.iinc 10 1, 3) := by decide +kernel
theorem dX6_mayHave_170 : decode cX6_mayHave 170 = .ok (.goto (-69), 3) := by decide +kernel
theorem dX6_mayHave_173 : decode cX6_mayHave 173 = .ok (.iinc 9 1, 3) := by decide +kernel
theorem dX6_mayHave_176 : decode cX6_mayHave 176 = .ok (.goto (-84), 3) := by decide +kernel
theorem dX6_mayHave_179 : decode cX6_mayHave 179 = .ok (.iload 8, 2) := by decide +kernel
theorem dX6_mayHave_181 : decode cX6_mayHave 181 = .ok (.ifCond .eq 17, 3) := by decide +kernel
theorem dX6_mayHave_184 : decode cX6_mayHave 184 = .ok (.iload 5, 2) := by decide +kernel
theorem dX6_mayHave_186 : decode cX6_mayHave 186 = .ok (.ifCond .ne 12, 3) := by decide +kernel
theorem dX6_mayHave_189 : decode cX6_mayHave 189 = .ok (.iload 7, 2) := by decide +kernel
theorem dX6_mayHave_191 : decode cX6_mayHave 191 = .ok (.iload_n 2, 1) := by decide +kernel
theorem dX6_mayHave_192 : decode cX6_mayHave 192 = .ok (.invokestatic 231, 3) := by decide +kernel
theorem dX6_mayHave_195 : decode cX6_mayHave 195 = .ok (.goto 5, 3) := by decide +kernel
theorem dX6_mayHave_198 : decode cX6_mayHave 198 = .ok (.iload 6, 2) := by decide +kernel
theorem dX6_mayHave_200 : decode cX6_mayHave 200 = .ok (.istore 6, 2) := by decide +kernel
theorem dX6_mayHave_202 : decode cX6_mayHave 202 = .ok (.iload 5, 2) := by decide +kernel
theorem dX6_mayHave_204 : decode cX6_mayHave 204 = .ok (.iload 8, 2) := by decide +kernel
theorem dX6_mayHave_206 : decode cX6_mayHave 206 = .ok (.ifCond .eq 7, 3) := by decide +kernel
theorem dX6_mayHave_209 : decode cX6_mayHave 209 = .ok (.iconst 1, 1) := by decide +kernel
theorem dX6_mayHave_210 : decode cX6_mayHave 210 = .ok (.goto 4, 3) := by decide +kernel
theorem dX6_mayHave_213 : decode cX6_mayHave 213 = .ok (.iconst 0, 1) := by decide +kernel
theorem dX6_mayHave_214 : decode cX6_mayHave 214 = .ok (.iadd, 1) := by decide +kernel
theorem dX6_mayHave_215 : decode cX6_mayHave 215 = .ok (.istore 5, 2) := by decide +kernel
theorem dX6_mayHave_217 : decode cX6_mayHave 217 = .ok (.iinc 7 1, 3) := by decide +kernel
theorem dX6_mayHave_220 : decode cX6_mayHave 220 = .ok (.goto (-160), 3) := by decide +kernel
theorem dX6_mayHave_223 : decode cX6_mayHave 223 = .ok (.iload 4, 2) := by decide +kernel
theorem dX6_mayHave_225 : decode cX6_mayHave 225 = .ok (.ifCond .ne 8, 3) := by decide +kernel
theorem dX6_mayHave_228 : decode cX6_mayHave 228 = .ok (.iload 5, 2) := by decide +kernel
theorem dX6_mayHave_230 : decode cX6_mayHave 230 = .ok (.goto 5, 3) := by decide +kernel
theorem dX6_mayHave_233 : decode cX6_mayHave 233 = .ok (.iload 6, 2) := by decide +kernel
theorem dX6_mayHave_235 : decode cX6_mayHave 235 = .ok (.ireturn, 1) := by decide +kernel
theorem dX6_alikeIn_0 : decode cX6_alikeIn 0 = .ok (.iconst 0, 1) := by decide +kernel
theorem dX6_alikeIn_1 : decode cX6_alikeIn 1 = .ok (.istore_n 2, 1) := by decide +kernel
theorem dX6_alikeIn_2 : decode cX6_alikeIn 2 = .ok (.iconst 0, 1) := by decide +kernel
theorem dX6_alikeIn_3 : decode cX6_alikeIn 3 = .ok (.istore_n 3, 1) := by decide +kernel
theorem dX6_alikeIn_4 : decode cX6_alikeIn 4 = .ok (.iload_n 3, 1) := by decide +kernel
theorem dX6_alikeIn_5 : decode cX6_alikeIn 5 = .ok (.aload_n 0, 1) := by decide +kernel
theorem dX6_alikeIn_6 : decode cX6_alikeIn 6 = .ok (.getfield 81, 3) := by decide +kernel
theorem dX6_alikeIn_9 : decode cX6_alikeIn 9 = .ok (.if_icmp .ge 69, 3) := by decide +kernel
theorem dX6_alikeIn_12 : decode cX6_alikeIn 12 = .ok (.iconst 0, 1) := by decide +kernel
theorem dX6_alikeIn_13 : decode cX6_alikeIn 13 = .ok (.istore 4, 2) := by decide +kernel
theorem dX6_alikeIn_15 : decode cX6_alikeIn 15 = .ok (.iconst 0, 1) := by decide +kernel
theorem dX6_alikeIn_16 : decode cX6_alikeIn 16 = .ok (.istore 5, 2) := by decide +kernel
theorem dX6_alikeIn_18 : decode cX6_alikeIn 18 = .ok (.iload 5, 2) := by decide +kernel
theorem dX6_alikeIn_20 : decode cX6_alikeIn 20 = .ok (.aload_n 0, 1) := by decide +kernel
theorem dX6_alikeIn_21 : decode cX6_alikeIn 21 = .ok (.getfield 81, 3) := by decide +kernel
theorem dX6_alikeIn_24 : decode cX6_alikeIn 24 = .ok (.if_icmp .ge 35, 3) := by decide +kernel
theorem dX6_alikeIn_27 : decode cX6_alikeIn 27 = .ok (.iload 4, 2) := by decide +kernel
theorem dX6_alikeIn_29 : decode cX6_alikeIn 29 = .ok (.aload_n 0, 1) := by decide +kernel
theorem dX6_alikeIn_30 : decode cX6_alikeIn 30 = .ok (.iload_n 3, 1) := by decide +kernel
theorem dX6_alikeIn_31 : decode cX6_alikeIn 31 = .ok (.iload_n 1, 1) := by decide +kernel
theorem dX6_alikeIn_32 : decode cX6_alikeIn 32 = .ok (.invokevirtual 203, 3) := by decide +kernel
theorem dX6_alikeIn_35 : decode cX6_alikeIn 35 = .ok (.aload_n 0, 1) := by decide +kernel
theorem dX6_alikeIn_36 : decode cX6_alikeIn 36 = .ok (.iload 5, 2) := by decide +kernel
theorem dX6_alikeIn_38 : decode cX6_alikeIn 38 = .ok (.iload_n 1, 1) := by decide +kernel
theorem dX6_alikeIn_39 : decode cX6_alikeIn 39 = .ok (.invokevirtual 203, 3) := by decide +kernel
theorem dX6_alikeIn_42 : decode cX6_alikeIn 42 = .ok (.if_icmp .ne 7, 3) := by decide +kernel
theorem dX6_alikeIn_45 : decode cX6_alikeIn 45 = .ok (.iconst 1, 1) := by decide +kernel
theorem dX6_alikeIn_46 : decode cX6_alikeIn 46 = .ok (.goto 4, 3) := by decide +kernel
theorem dX6_alikeIn_49 : decode cX6_alikeIn 49 = .ok (.iconst 0, 1) := by decide +kernel
theorem dX6_alikeIn_50 : decode cX6_alikeIn 50 = .ok (.iadd, 1) := by decide +kernel
theorem dX6_alikeIn_51 : decode cX6_alikeIn 51 = .ok (.istore 4, 2) := by decide +kernel
theorem dX6_alikeIn_53 : decode cX6_alikeIn 53 = .ok (.iinc 5 1, 3) := by decide +kernel
theorem dX6_alikeIn_56 : decode cX6_alikeIn 56 = .ok (.goto (-38), 3) := by decide +kernel
theorem dX6_alikeIn_59 : decode cX6_alikeIn 59 = .ok (.iload 4, 2) := by decide +kernel
theorem dX6_alikeIn_61 : decode cX6_alikeIn 61 = .ok (.iload_n 2, 1) := by decide +kernel
theorem dX6_alikeIn_62 : decode cX6_alikeIn 62 = .ok (.if_icmp .le 8, 3) := by decide +kernel
theorem dX6_alikeIn_65 : decode cX6_alikeIn 65 = .ok (.iload 4, 2) := by decide +kernel
theorem dX6_alikeIn_67 : decode cX6_alikeIn 67 = .ok (.goto 4, 3) := by decide +kernel
theorem dX6_alikeIn_70 : decode cX6_alikeIn 70 = .ok (.iload_n 2, 1) := by decide +kernel
theorem dX6_alikeIn_71 : decode cX6_alikeIn 71 = .ok (.istore_n 2, 1) := by decide +kernel
theorem dX6_alikeIn_72 : decode cX6_alikeIn 72 = .ok (.iinc 3 1, 3) := by decide +kernel
theorem dX6_alikeIn_75 : decode cX6_alikeIn 75 = .ok (.goto (-71), 3) := by decide +kernel
theorem dX6_alikeIn_78 : decode cX6_alikeIn 78 = .ok (.iload_n 2, 1) := by decide +kernel
theorem dX6_alikeIn_79 : decode cX6_alikeIn 79 = .ok (.ireturn, 1) := by decide +kernel
theorem dX6_tells_0 : decode cX6_tells 0 = .ok (.aload_n 0, 1) := by decide +kernel
theorem dX6_tells_1 : decode cX6_tells 1 = .ok (.iconst 0, 1) := by decide +kernel
theorem dX6_tells_2 : decode cX6_tells 2 = .ok (.putfield 77, 3) := by decide +kernel
theorem dX6_tells_5 : decode cX6_tells 5 = .ok (.iload_n 1, 1) := by decide +kernel
theorem dX6_tells_6 : decode cX6_tells 6 = .ok (.i2l, 1) := by decide +kernel
theorem dX6_tells_7 : decode cX6_tells 7 = .ok (.lconst 0, 1) := by decide +kernel
theorem dX6_tells_8 : decode cX6_tells 8 = .ok (.lconst 1, 1) := by decide +kernel
theorem dX6_tells_9 : decode cX6_tells 9 = .ok (.invokestatic 84, 3) := by decide +kernel
theorem dX6_tells_12 : decode cX6_tells 12 = .ok (.ifCond .ne 5, 3) := by decide +kernel
theorem dX6_tells_15 : decode cX6_tells 15 = .ok (.iconst (-1), 1) := by decide +kernel
theorem dX6_tells_16 : decode cX6_tells 16 = .ok (.ireturn, 1) := by decide +kernel
theorem dX6_tells_17 : decode cX6_tells 17 = .ok (.aload_n 0, 1) := by decide +kernel
theorem dX6_tells_18 : decode cX6_tells 18 = .ok (.getfield 81, 3) := by decide +kernel
theorem dX6_tells_21 : decode cX6_tells 21 = .ok (.ifCond .ne 6, 3) := by decide +kernel
theorem dX6_tells_24 : decode cX6_tells 24 = .ok (.bipush (-4), 2) := by decide +kernel
theorem dX6_tells_26 : decode cX6_tells 26 = .ok (.ireturn, 1) := by decide +kernel
theorem dX6_tells_27 : decode cX6_tells 27 = .ok (.iconst 0, 1) := by decide +kernel
theorem dX6_tells_28 : decode cX6_tells 28 = .ok (.istore_n 2, 1) := by decide +kernel
theorem dX6_tells_29 : decode cX6_tells 29 = .ok (.iconst 1, 1) := by decide +kernel
theorem dX6_tells_30 : decode cX6_tells 30 = .ok (.istore_n 3, 1) := by decide +kernel
theorem dX6_tells_31 : decode cX6_tells 31 = .ok (.iload_n 3, 1) := by decide +kernel
theorem dX6_tells_32 : decode cX6_tells 32 = .ok (.iconst 4, 1) := by decide +kernel
theorem dX6_tells_33 : decode cX6_tells 33 = .ok (.if_icmp .ge 28, 3) := by decide +kernel
theorem dX6_tells_36 : decode cX6_tells 36 = .ok (.aload_n 0, 1) := by decide +kernel
theorem dX6_tells_37 : decode cX6_tells 37 = .ok (.iload_n 3, 1) := by decide +kernel
theorem dX6_tells_38 : decode cX6_tells 38 = .ok (.invokevirtual 234, 3) := by decide +kernel
theorem dX6_tells_41 : decode cX6_tells 41 = .ok (.aload_n 0, 1) := by decide +kernel
theorem dX6_tells_42 : decode cX6_tells 42 = .ok (.iload_n 2, 1) := by decide +kernel
theorem dX6_tells_43 : decode cX6_tells 43 = .ok (.invokevirtual 234, 3) := by decide +kernel
theorem dX6_tells_46 : decode cX6_tells 46 = .ok (.if_icmp .ge 7, 3) := by decide +kernel
theorem dX6_tells_49 : decode cX6_tells 49 = .ok (.iload_n 3, 1) := by decide +kernel
theorem dX6_tells_50 : decode cX6_tells 50 = .ok (.goto 4, 3) := by decide +kernel
theorem dX6_tells_53 : decode cX6_tells 53 = .ok (.iload_n 2, 1) := by decide +kernel
theorem dX6_tells_54 : decode cX6_tells 54 = .ok (.istore_n 2, 1) := by decide +kernel
theorem dX6_tells_55 : decode cX6_tells 55 = .ok (.iinc 3 1, 3) := by decide +kernel
theorem dX6_tells_58 : decode cX6_tells 58 = .ok (.goto (-27), 3) := by decide +kernel
theorem dX6_tells_61 : decode cX6_tells 61 = .ok (.iload_n 1, 1) := by decide +kernel
theorem dX6_tells_62 : decode cX6_tells 62 = .ok (.ifCond .ne 7, 3) := by decide +kernel
theorem dX6_tells_65 : decode cX6_tells 65 = .ok (.iload_n 2, 1) := by decide +kernel
theorem dX6_tells_66 : decode cX6_tells 66 = .ok (.goto 8, 3) := by decide +kernel
theorem dX6_tells_69 : decode cX6_tells 69 = .ok (.aload_n 0, 1) := by decide +kernel
theorem dX6_tells_70 : decode cX6_tells 70 = .ok (.iload_n 2, 1) := by decide +kernel
theorem dX6_tells_71 : decode cX6_tells 71 = .ok (.invokevirtual 234, 3) := by decide +kernel
theorem dX6_tells_74 : decode cX6_tells 74 = .ok (.ireturn, 1) := by decide +kernel
theorem dX6_lent_0 : decode cX6_lent 0 = .ok (.aload_n 0, 1) := by decide +kernel
theorem dX6_lent_1 : decode cX6_lent 1 = .ok (.iconst 0, 1) := by decide +kernel
theorem dX6_lent_2 : decode cX6_lent 2 = .ok (.putfield 77, 3) := by decide +kernel
theorem dX6_lent_5 : decode cX6_lent 5 = .ok (.aload_n 0, 1) := by decide +kernel
theorem dX6_lent_6 : decode cX6_lent 6 = .ok (.iload_n 2, 1) := by decide +kernel
theorem dX6_lent_7 : decode cX6_lent 7 = .ok (.invokevirtual 163, 3) := by decide +kernel
theorem dX6_lent_10 : decode cX6_lent 10 = .ok (.ifCond .eq 11, 3) := by decide +kernel
theorem dX6_lent_13 : decode cX6_lent 13 = .ok (.aload_n 0, 1) := by decide +kernel
theorem dX6_lent_14 : decode cX6_lent 14 = .ok (.iload_n 1, 1) := by decide +kernel
theorem dX6_lent_15 : decode cX6_lent 15 = .ok (.invokevirtual 192, 3) := by decide +kernel
theorem dX6_lent_18 : decode cX6_lent 18 = .ok (.goto 4, 3) := by decide +kernel
theorem dX6_lent_21 : decode cX6_lent 21 = .ok (.iconst (-1), 1) := by decide +kernel
theorem dX6_lent_22 : decode cX6_lent 22 = .ok (.istore_n 3, 1) := by decide +kernel
theorem dX6_lent_23 : decode cX6_lent 23 = .ok (.iload_n 3, 1) := by decide +kernel
theorem dX6_lent_24 : decode cX6_lent 24 = .ok (.ifCond .ge 8, 3) := by decide +kernel
theorem dX6_lent_27 : decode cX6_lent 27 = .ok (.iload_n 3, 1) := by decide +kernel
theorem dX6_lent_28 : decode cX6_lent 28 = .ok (.ldc 237, 2) := by decide +kernel
theorem dX6_lent_30 : decode cX6_lent 30 = .ok (.isub, 1) := by decide +kernel
theorem dX6_lent_31 : decode cX6_lent 31 = .ok (.ireturn, 1) := by decide +kernel
theorem dX6_lent_32 : decode cX6_lent 32 = .ok (.aload_n 0, 1) := by decide +kernel
theorem dX6_lent_33 : decode cX6_lent 33 = .ok (.getfield 62, 3) := by decide +kernel
theorem dX6_lent_36 : decode cX6_lent 36 = .ok (.iload_n 1, 1) := by decide +kernel
theorem dX6_lent_37 : decode cX6_lent 37 = .ok (.iaload, 1) := by decide +kernel
theorem dX6_lent_38 : decode cX6_lent 38 = .ok (.iconst 4, 1) := by decide +kernel
theorem dX6_lent_39 : decode cX6_lent 39 = .ok (.irem, 1) := by decide +kernel
theorem dX6_lent_40 : decode cX6_lent 40 = .ok (.istore 4, 2) := by decide +kernel
theorem dX6_lent_42 : decode cX6_lent 42 = .ok (.aload_n 0, 1) := by decide +kernel
theorem dX6_lent_43 : decode cX6_lent 43 = .ok (.iload_n 2, 1) := by decide +kernel
theorem dX6_lent_44 : decode cX6_lent 44 = .ok (.bipush 6, 2) := by decide +kernel
theorem dX6_lent_46 : decode cX6_lent 46 = .ok (.invokevirtual 170, 3) := by decide +kernel
theorem dX6_lent_49 : decode cX6_lent 49 = .ok (.aload_n 0, 1) := by decide +kernel
theorem dX6_lent_50 : decode cX6_lent 50 = .ok (.bipush 6, 2) := by decide +kernel
theorem dX6_lent_52 : decode cX6_lent 52 = .ok (.aload_n 0, 1) := by decide +kernel
theorem dX6_lent_53 : decode cX6_lent 53 = .ok (.getfield 59, 3) := by decide +kernel
theorem dX6_lent_56 : decode cX6_lent 56 = .ok (.iload_n 1, 1) := by decide +kernel
theorem dX6_lent_57 : decode cX6_lent 57 = .ok (.iaload, 1) := by decide +kernel
theorem dX6_lent_58 : decode cX6_lent 58 = .ok (.aload_n 0, 1) := by decide +kernel
theorem dX6_lent_59 : decode cX6_lent 59 = .ok (.getfield 62, 3) := by decide +kernel
theorem dX6_lent_62 : decode cX6_lent 62 = .ok (.iload_n 1, 1) := by decide +kernel
theorem dX6_lent_63 : decode cX6_lent 63 = .ok (.iaload, 1) := by decide +kernel
theorem dX6_lent_64 : decode cX6_lent 64 = .ok (.invokevirtual 102, 3) := by decide +kernel
theorem dX6_lent_67 : decode cX6_lent 67 = .ok (.aload_n 0, 1) := by decide +kernel
theorem dX6_lent_68 : decode cX6_lent 68 = .ok (.bipush 6, 2) := by decide +kernel
theorem dX6_lent_70 : decode cX6_lent 70 = .ok (.iload 4, 2) := by decide +kernel
theorem dX6_lent_72 : decode cX6_lent 72 = .ok (.invokevirtual 203, 3) := by decide +kernel
theorem dX6_lent_75 : decode cX6_lent 75 = .ok (.istore 5, 2) := by decide +kernel
theorem dX6_lent_77 : decode cX6_lent 77 = .ok (.aload_n 0, 1) := by decide +kernel
theorem dX6_lent_78 : decode cX6_lent 78 = .ok (.bipush 6, 2) := by decide +kernel
theorem dX6_lent_80 : decode cX6_lent 80 = .ok (.invokevirtual 159, 3) := by decide +kernel
theorem dX6_lent_83 : decode cX6_lent 83 = .ok (.aload_n 0, 1) := by decide +kernel
theorem dX6_lent_84 : decode cX6_lent 84 = .ok (.bipush 6, 2) := by decide +kernel
theorem dX6_lent_86 : decode cX6_lent 86 = .ok (.aload_n 0, 1) := by decide +kernel
theorem dX6_lent_87 : decode cX6_lent 87 = .ok (.getfield 59, 3) := by decide +kernel
theorem dX6_lent_90 : decode cX6_lent 90 = .ok (.iload_n 1, 1) := by decide +kernel
theorem dX6_lent_91 : decode cX6_lent 91 = .ok (.iaload, 1) := by decide +kernel
theorem dX6_lent_92 : decode cX6_lent 92 = .ok (.aload_n 0, 1) := by decide +kernel
theorem dX6_lent_93 : decode cX6_lent 93 = .ok (.getfield 62, 3) := by decide +kernel
theorem dX6_lent_96 : decode cX6_lent 96 = .ok (.iload_n 1, 1) := by decide +kernel
theorem dX6_lent_97 : decode cX6_lent 97 = .ok (.iaload, 1) := by decide +kernel
theorem dX6_lent_98 : decode cX6_lent 98 = .ok (.invokevirtual 102, 3) := by decide +kernel
theorem dX6_lent_101 : decode cX6_lent 101 = .ok (.iload 5, 2) := by decide +kernel
theorem dX6_lent_103 : decode cX6_lent 103 = .ok (.aload_n 0, 1) := by decide +kernel
theorem dX6_lent_104 : decode cX6_lent 104 = .ok (.bipush 6, 2) := by decide +kernel
theorem dX6_lent_106 : decode cX6_lent 106 = .ok (.iload 4, 2) := by decide +kernel
theorem dX6_lent_108 : decode cX6_lent 108 = .ok (.invokevirtual 203, 3) := by decide +kernel
theorem dX6_lent_111 : decode cX6_lent 111 = .ok (.isub, 1) := by decide +kernel
theorem dX6_lent_112 : decode cX6_lent 112 = .ok (.ireturn, 1) := by decide +kernel
theorem dX6_gone_0 : decode cX6_gone 0 = .ok (.aload_n 0, 1) := by decide +kernel
theorem dX6_gone_1 : decode cX6_gone 1 = .ok (.iconst 0, 1) := by decide +kernel
theorem dX6_gone_2 : decode cX6_gone 2 = .ok (.putfield 77, 3) := by decide +kernel
theorem dX6_gone_5 : decode cX6_gone 5 = .ok (.iload_n 1, 1) := by decide +kernel
theorem dX6_gone_6 : decode cX6_gone 6 = .ok (.i2l, 1) := by decide +kernel
theorem dX6_gone_7 : decode cX6_gone 7 = .ok (.lconst 0, 1) := by decide +kernel
theorem dX6_gone_8 : decode cX6_gone 8 = .ok (.ldc2_w 190, 3) := by decide +kernel
theorem dX6_gone_11 : decode cX6_gone 11 = .ok (.invokestatic 84, 3) := by decide +kernel
theorem dX6_gone_14 : decode cX6_gone 14 = .ok (.ifCond .eq 27, 3) := by decide +kernel
theorem dX6_gone_17 : decode cX6_gone 17 = .ok (.iload_n 2, 1) := by decide +kernel
theorem dX6_gone_18 : decode cX6_gone 18 = .ok (.i2l, 1) := by decide +kernel
theorem dX6_gone_19 : decode cX6_gone 19 = .ok (.lconst 0, 1) := by decide +kernel
theorem dX6_gone_20 : decode cX6_gone 20 = .ok (.ldc2_w 88, 3) := by decide +kernel
theorem dX6_gone_23 : decode cX6_gone 23 = .ok (.invokestatic 84, 3) := by decide +kernel
theorem dX6_gone_26 : decode cX6_gone 26 = .ok (.ifCond .eq 15, 3) := by decide +kernel
theorem dX6_gone_29 : decode cX6_gone 29 = .ok (.iload_n 3, 1) := by decide +kernel
theorem dX6_gone_30 : decode cX6_gone 30 = .ok (.i2l, 1) := by decide +kernel
theorem dX6_gone_31 : decode cX6_gone 31 = .ok (.lconst 1, 1) := by decide +kernel
theorem dX6_gone_32 : decode cX6_gone 32 = .ok (.ldc2_w 109, 3) := by decide +kernel
theorem dX6_gone_35 : decode cX6_gone 35 = .ok (.invokestatic 84, 3) := by decide +kernel
theorem dX6_gone_38 : decode cX6_gone 38 = .ok (.ifCond .ne 5, 3) := by decide +kernel
theorem dX6_gone_41 : decode cX6_gone 41 = .ok (.iconst (-1), 1) := by decide +kernel
theorem dX6_gone_42 : decode cX6_gone 42 = .ok (.ireturn, 1) := by decide +kernel
theorem dX6_gone_43 : decode cX6_gone 43 = .ok (.ldc2_w 109, 3) := by decide +kernel
theorem dX6_gone_46 : decode cX6_gone 46 = .ok (.lstore 4, 2) := by decide +kernel
theorem dX6_gone_48 : decode cX6_gone 48 = .ok (.iload_n 3, 1) := by decide +kernel
theorem dX6_gone_49 : decode cX6_gone 49 = .ok (.i2l, 1) := by decide +kernel
theorem dX6_gone_50 : decode cX6_gone 50 = .ok (.lstore 6, 2) := by decide +kernel
theorem dX6_gone_52 : decode cX6_gone 52 = .ok (.iconst 0, 1) := by decide +kernel
theorem dX6_gone_53 : decode cX6_gone 53 = .ok (.istore 8, 2) := by decide +kernel
theorem dX6_gone_55 : decode cX6_gone 55 = .ok (.lload 4, 2) := by decide +kernel
theorem dX6_gone_57 : decode cX6_gone 57 = .ok (.lload 6, 2) := by decide +kernel
theorem dX6_gone_59 : decode cX6_gone 59 = .ok (.lcmp, 1) := by decide +kernel
theorem dX6_gone_60 : decode cX6_gone 60 = .ok (.ifCond .lt 27, 3) := by decide +kernel
theorem dX6_gone_63 : decode cX6_gone 63 = .ok (.lload 4, 2) := by decide +kernel
theorem dX6_gone_65 : decode cX6_gone 65 = .ok (.iload_n 1, 1) := by decide +kernel
theorem dX6_gone_66 : decode cX6_gone 66 = .ok (.invokestatic 98, 3) := by decide +kernel
theorem dX6_gone_69 : decode cX6_gone 69 = .ok (.i2l, 1) := by decide +kernel
theorem dX6_gone_70 : decode cX6_gone 70 = .ok (.lmul, 1) := by decide +kernel
theorem dX6_gone_71 : decode cX6_gone 71 = .ok (.lstore 4, 2) := by decide +kernel
theorem dX6_gone_73 : decode cX6_gone 73 = .ok (.lload 6, 2) := by decide +kernel
theorem dX6_gone_75 : decode cX6_gone 75 = .ok (.ldc2_w 88, 3) := by decide +kernel
theorem dX6_gone_78 : decode cX6_gone 78 = .ok (.lmul, 1) := by decide +kernel
theorem dX6_gone_79 : decode cX6_gone 79 = .ok (.lstore 6, 2) := by decide +kernel
theorem dX6_gone_81 : decode cX6_gone 81 = .ok (.iinc 8 1, 3) := by decide +kernel
theorem dX6_gone_84 : decode cX6_gone 84 = .ok (.goto (-29), 3) := by decide +kernel
theorem dX6_gone_87 : decode cX6_gone 87 = .ok (.iload 8, 2) := by decide +kernel
theorem dX6_gone_89 : decode cX6_gone 89 = .ok (.ireturn, 1) := by decide +kernel
theorem dX6_draw_0 : decode cX6_draw 0 = .ok (.aload_n 0, 1) := by decide +kernel
theorem dX6_draw_1 : decode cX6_draw 1 = .ok (.aload_n 0, 1) := by decide +kernel
theorem dX6_draw_2 : decode cX6_draw 2 = .ok (.getfield 238, 3) := by decide +kernel
theorem dX6_draw_5 : decode cX6_draw 5 = .ok (.ldc 241, 2) := by decide +kernel
theorem dX6_draw_7 : decode cX6_draw 7 = .ok (.imul, 1) := by decide +kernel
theorem dX6_draw_8 : decode cX6_draw 8 = .ok (.sipush 12345, 3) := by decide +kernel
theorem dX6_draw_11 : decode cX6_draw 11 = .ok (.iadd, 1) := by decide +kernel
theorem dX6_draw_12 : decode cX6_draw 12 = .ok (.putfield 238, 3) := by decide +kernel
