theorem dX0_init_0 : decode cX0_init 0 = .ok (.aload_n 0, 1) := by decide +kernel
theorem dX0_init_1 : decode cX0_init 1 = .ok (.invokespecial 3, 3) := by decide +kernel
theorem dX0_init_4 : decode cX0_init 4 = .ok (.aload_n 0, 1) := by decide +kernel
theorem dX0_init_5 : decode cX0_init 5 = .ok (.iconst 4, 1) := by decide +kernel
theorem dX0_init_6 : decode cX0_init 6 = .ok (.newarray .long, 2) := by decide +kernel
theorem dX0_init_8 : decode cX0_init 8 = .ok (.putfield 9, 3) := by decide +kernel
theorem dX0_init_11 : decode cX0_init 11 = .ok (.aload_n 0, 1) := by decide +kernel
theorem dX0_init_12 : decode cX0_init 12 = .ok (.lconst 1, 1) := by decide +kernel
theorem dX0_init_13 : decode cX0_init 13 = .ok (.putfield 15, 3) := by decide +kernel
theorem dX0_init_16 : decode cX0_init 16 = .ok (.return_, 1) := by decide +kernel
theorem dX0_clear_0 : decode cX0_clear 0 = .ok (.iconst 0, 1) := by decide +kernel
theorem dX0_clear_1 : decode cX0_clear 1 = .ok (.istore_n 1, 1) := by decide +kernel
theorem dX0_clear_2 : decode cX0_clear 2 = .ok (.iload_n 1, 1) := by decide +kernel
theorem dX0_clear_3 : decode cX0_clear 3 = .ok (.iconst 4, 1) := by decide +kernel
theorem dX0_clear_4 : decode cX0_clear 4 = .ok (.if_icmp .ge 16, 3) := by decide +kernel
theorem dX0_clear_7 : decode cX0_clear 7 = .ok (.aload_n 0, 1) := by decide +kernel
theorem dX0_clear_8 : decode cX0_clear 8 = .ok (.getfield 9, 3) := by decide +kernel
theorem dX0_clear_11 : decode cX0_clear 11 = .ok (.iload_n 1, 1) := by decide +kernel
theorem dX0_clear_12 : decode cX0_clear 12 = .ok (.lconst 0, 1) := by decide +kernel
theorem dX0_clear_13 : decode cX0_clear 13 = .ok (.lastore, 1) := by decide +kernel
theorem dX0_clear_14 : decode cX0_clear 14 = .ok (.iinc 1 1, 3) := by decide +kernel
theorem dX0_clear_17 : decode cX0_clear 17 = .ok (.goto (-15), 3) := by decide +kernel
theorem dX0_clear_20 : decode cX0_clear 20 = .ok (.aload_n 0, 1) := by decide +kernel
theorem dX0_clear_21 : decode cX0_clear 21 = .ok (.lconst 1, 1) := by decide +kernel
theorem dX0_clear_22 : decode cX0_clear 22 = .ok (.putfield 15, 3) := by decide +kernel
theorem dX0_clear_25 : decode cX0_clear 25 = .ok (.aload_n 0, 1) := by decide +kernel
theorem dX0_clear_26 : decode cX0_clear 26 = .ok (.iconst 0, 1) := by decide +kernel
theorem dX0_clear_27 : decode cX0_clear 27 = .ok (.putfield 19, 3) := by decide +kernel
theorem dX0_clear_30 : decode cX0_clear 30 = .ok (.return_, 1) := by decide +kernel
theorem dX0_become_0 : decode cX0_become 0 = .ok (.iconst 0, 1) := by decide +kernel
theorem dX0_become_1 : decode cX0_become 1 = .ok (.istore_n 2, 1) := by decide +kernel
theorem dX0_become_2 : decode cX0_become 2 = .ok (.iload_n 2, 1) := by decide +kernel
theorem dX0_become_3 : decode cX0_become 3 = .ok (.iconst 4, 1) := by decide +kernel
theorem dX0_become_4 : decode cX0_become 4 = .ok (.if_icmp .ge 21, 3) := by decide +kernel
theorem dX0_become_7 : decode cX0_become 7 = .ok (.aload_n 0, 1) := by decide +kernel
theorem dX0_become_8 : decode cX0_become 8 = .ok (.getfield 9, 3) := by decide +kernel
theorem dX0_become_11 : decode cX0_become 11 = .ok (.iload_n 2, 1) := by decide +kernel
theorem dX0_become_12 : decode cX0_become 12 = .ok (.aload_n 1, 1) := by decide +kernel
theorem dX0_become_13 : decode cX0_become 13 = .ok (.getfield 9, 3) := by decide +kernel
theorem dX0_become_16 : decode cX0_become 16 = .ok (.iload_n 2, 1) := by decide +kernel
theorem dX0_become_17 : decode cX0_become 17 = .ok (.laload, 1) := by decide +kernel
theorem dX0_become_18 : decode cX0_become 18 = .ok (.lastore, 1) := by decide +kernel
theorem dX0_become_19 : decode cX0_become 19 = .ok (.iinc 2 1, 3) := by decide +kernel
theorem dX0_become_22 : decode cX0_become 22 = .ok (.goto (-20), 3) := by decide +kernel
theorem dX0_become_25 : decode cX0_become 25 = .ok (.aload_n 0, 1) := by decide +kernel
theorem dX0_become_26 : decode cX0_become 26 = .ok (.aload_n 1, 1) := by decide +kernel
theorem dX0_become_27 : decode cX0_become 27 = .ok (.getfield 15, 3) := by decide +kernel
theorem dX0_become_30 : decode cX0_become 30 = .ok (.putfield 15, 3) := by decide +kernel
theorem dX0_become_33 : decode cX0_become 33 = .ok (.aload_n 0, 1) := by decide +kernel
theorem dX0_become_34 : decode cX0_become 34 = .ok (.aload_n 1, 1) := by decide +kernel
theorem dX0_become_35 : decode cX0_become 35 = .ok (.getfield 19, 3) := by decide +kernel
theorem dX0_become_38 : decode cX0_become 38 = .ok (.putfield 19, 3) := by decide +kernel
theorem dX0_become_41 : decode cX0_become 41 = .ok (.return_, 1) := by decide +kernel
theorem dX0_hasRoom_0 : decode cX0_hasRoom 0 = .ok (.aload_n 0, 1) := by decide +kernel
theorem dX0_hasRoom_1 : decode cX0_hasRoom 1 = .ok (.getfield 19, 3) := by decide +kernel
theorem dX0_hasRoom_4 : decode cX0_hasRoom 4 = .ok (.bipush 12, 2) := by decide +kernel
theorem dX0_hasRoom_6 : decode cX0_hasRoom 6 = .ok (.if_icmp .ge 7, 3) := by decide +kernel
theorem dX0_hasRoom_9 : decode cX0_hasRoom 9 = .ok (.iconst 1, 1) := by decide +kernel
theorem dX0_hasRoom_10 : decode cX0_hasRoom 10 = .ok (.goto 4, 3) := by decide +kernel
theorem dX0_hasRoom_13 : decode cX0_hasRoom 13 = .ok (.iconst 0, 1) := by decide +kernel
theorem dX0_hasRoom_14 : decode cX0_hasRoom 14 = .ok (.ireturn, 1) := by decide +kernel
theorem dX0_takeIn_0 : decode cX0_takeIn 0 = .ok (.iload_n 1, 1) := by decide +kernel
theorem dX0_takeIn_1 : decode cX0_takeIn 1 = .ok (.invokestatic 23, 3) := by decide +kernel
theorem dX0_takeIn_4 : decode cX0_takeIn 4 = .ok (.istore_n 3, 1) := by decide +kernel
theorem dX0_takeIn_5 : decode cX0_takeIn 5 = .ok (.aload_n 0, 1) := by decide +kernel
theorem dX0_takeIn_6 : decode cX0_takeIn 6 = .ok (.dup, 1) := by decide +kernel
theorem dX0_takeIn_7 : decode cX0_takeIn 7 = .ok (.getfield 15, 3) := by decide +kernel
theorem dX0_takeIn_10 : decode cX0_takeIn 10 = .ok (.ldc2_w 27, 3) := by decide +kernel
theorem dX0_takeIn_13 : decode cX0_takeIn 13 = .ok (.lmul, 1) := by decide +kernel
theorem dX0_takeIn_14 : decode cX0_takeIn 14 = .ok (.putfield 15, 3) := by decide +kernel
theorem dX0_takeIn_17 : decode cX0_takeIn 17 = .ok (.iconst 0, 1) := by decide +kernel
theorem dX0_takeIn_18 : decode cX0_takeIn 18 = .ok (.istore 4, 2) := by decide +kernel
theorem dX0_takeIn_20 : decode cX0_takeIn 20 = .ok (.iload 4, 2) := by decide +kernel
theorem dX0_takeIn_22 : decode cX0_takeIn 22 = .ok (.iconst 4, 1) := by decide +kernel
theorem dX0_takeIn_23 : decode cX0_takeIn 23 = .ok (.if_icmp .ge 40, 3) := by decide +kernel
theorem dX0_takeIn_26 : decode cX0_takeIn 26 = .ok (.aload_n 0, 1) := by decide +kernel
theorem dX0_takeIn_27 : decode cX0_takeIn 27 = .ok (.getfield 9, 3) := by decide +kernel
theorem dX0_takeIn_30 : decode cX0_takeIn 30 = .ok (.iload 4, 2) := by decide +kernel
theorem dX0_takeIn_32 : decode cX0_takeIn 32 = .ok (.iload_n 1, 1) := by decide +kernel
theorem dX0_takeIn_33 : decode cX0_takeIn 33 = .ok (.iload_n 2, 1) := by decide +kernel
theorem dX0_takeIn_34 : decode cX0_takeIn 34 = .ok (.iload 4, 2) := by decide +kernel
theorem dX0_takeIn_36 : decode cX0_takeIn 36 = .ok (.invokestatic 29, 3) := by decide +kernel
theorem dX0_takeIn_39 : decode cX0_takeIn 39 = .ok (.i2l, 1) := by decide +kernel
theorem dX0_takeIn_40 : decode cX0_takeIn 40 = .ok (.aload_n 0, 1) := by decide +kernel
theorem dX0_takeIn_41 : decode cX0_takeIn 41 = .ok (.getfield 15, 3) := by decide +kernel
theorem dX0_takeIn_44 : decode cX0_takeIn 44 = .ok (.lmul, 1) := by decide +kernel
theorem dX0_takeIn_45 : decode cX0_takeIn 45 = .ok (.iload_n 3, 1) := by decide +kernel
theorem dX0_takeIn_46 : decode cX0_takeIn 46 = .ok (.i2l, 1) := by decide +kernel
theorem dX0_takeIn_47 : decode cX0_takeIn 47 = .ok (.aload_n 0, 1) := by decide +kernel
theorem dX0_takeIn_48 : decode cX0_takeIn 48 = .ok (.getfield 9, 3) := by decide +kernel
theorem dX0_takeIn_51 : decode cX0_takeIn 51 = .ok (.iload 4, 2) := by decide +kernel
theorem dX0_takeIn_53 : decode cX0_takeIn 53 = .ok (.laload, 1) := by decide +kernel
theorem dX0_takeIn_54 : decode cX0_takeIn 54 = .ok (.lmul, 1) := by decide +kernel
theorem dX0_takeIn_55 : decode cX0_takeIn 55 = .ok (.ladd, 1) := by decide +kernel
theorem dX0_takeIn_56 : decode cX0_takeIn 56 = .ok (.lastore, 1) := by decide +kernel
theorem dX0_takeIn_57 : decode cX0_takeIn 57 = .ok (.iinc 4 1, 3) := by decide +kernel
theorem dX0_takeIn_60 : decode cX0_takeIn 60 = .ok (.goto (-40), 3) := by decide +kernel
theorem dX0_takeIn_63 : decode cX0_takeIn 63 = .ok (.aload_n 0, 1) := by decide +kernel
theorem dX0_takeIn_64 : decode cX0_takeIn 64 = .ok (.dup, 1) := by decide +kernel
theorem dX0_takeIn_65 : decode cX0_takeIn 65 = .ok (.getfield 19, 3) := by decide +kernel
theorem dX0_takeIn_68 : decode cX0_takeIn 68 = .ok (.iconst 1, 1) := by decide +kernel
theorem dX0_takeIn_69 : decode cX0_takeIn 69 = .ok (.iadd, 1) := by decide +kernel
theorem dX0_takeIn_70 : decode cX0_takeIn 70 = .ok (.putfield 19, 3) := by decide +kernel
theorem dX0_takeIn_73 : decode cX0_takeIn 73 = .ok (.return_, 1) := by decide +kernel
theorem dX0_takeCode_0 : decode cX0_takeCode 0 = .ok (.iload_n 2, 1) := by decide +kernel
theorem dX0_takeCode_1 : decode cX0_takeCode 1 = .ok (.iconst 1, 1) := by decide +kernel
theorem dX0_takeCode_2 : decode cX0_takeCode 2 = .ok (.isub, 1) := by decide +kernel
theorem dX0_takeCode_3 : decode cX0_takeCode 3 = .ok (.istore 4, 2) := by decide +kernel
theorem dX0_takeCode_5 : decode cX0_takeCode 5 = .ok (.iload 4, 2) := by decide +kernel
theorem dX0_takeCode_7 : decode cX0_takeCode 7 = .ok (.ifCond .lt 20, 3) := by decide +kernel
theorem dX0_takeCode_10 : decode cX0_takeCode 10 = .ok (.aload_n 0, 1) := by decide +kernel
theorem dX0_takeCode_11 : decode cX0_takeCode 11 = .ok (.iload_n 1, 1) := by decide +kernel
theorem dX0_takeCode_12 : decode cX0_takeCode 12 = .ok (.iload 4, 2) := by decide +kernel
theorem dX0_takeCode_14 : decode cX0_takeCode 14 = .ok (.invokestatic 33, 3) := by decide +kernel
theorem dX0_takeCode_17 : decode cX0_takeCode 17 = .ok (.iload_n 3, 1) := by decide +kernel
theorem dX0_takeCode_18 : decode cX0_takeCode 18 = .ok (.invokevirtual 37, 3) := by decide +kernel
theorem dX0_takeCode_21 : decode cX0_takeCode 21 = .ok (.iinc 4 (-1), 3) := by decide +kernel
theorem dX0_takeCode_24 : decode cX0_takeCode 24 = .ok (.goto (-19), 3) := by decide +kernel
theorem dX0_takeCode_27 : decode cX0_takeCode 27 = .ok (.return_, 1) := by decide +kernel
theorem dX0_totalAbove_0 : decode cX0_totalAbove 0 = .ok (.lconst 0, 1) := by decide +kernel
theorem dX0_totalAbove_1 : decode cX0_totalAbove 1 = .ok (.lstore_n 1, 1) := by decide +kernel
theorem dX0_totalAbove_2 : decode cX0_totalAbove 2 = .ok (.iconst 0, 1) := by decide +kernel
theorem dX0_totalAbove_3 : decode cX0_totalAbove 3 = .ok (.istore_n 3, 1) := by decide +kernel
theorem dX0_totalAbove_4 : decode cX0_totalAbove 4 = .ok (.iload_n 3, 1) := by decide +kernel
theorem dX0_totalAbove_5 : decode cX0_totalAbove 5 = .ok (.iconst 4, 1) := by decide +kernel
theorem dX0_totalAbove_6 : decode cX0_totalAbove 6 = .ok (.if_icmp .ge 18, 3) := by decide +kernel
theorem dX0_totalAbove_9 : decode cX0_totalAbove 9 = .ok (.lload_n 1, 1) := by decide +kernel
theorem dX0_totalAbove_10 : decode cX0_totalAbove 10 = .ok (.aload_n 0, 1) := by decide +kernel
theorem dX0_totalAbove_11 : decode cX0_totalAbove 11 = .ok (.getfield 9, 3) := by decide +kernel
theorem dX0_totalAbove_14 : decode cX0_totalAbove 14 = .ok (.iload_n 3, 1) := by decide +kernel
theorem dX0_totalAbove_15 : decode cX0_totalAbove 15 = .ok (.laload, 1) := by decide +kernel
theorem dX0_totalAbove_16 : decode cX0_totalAbove 16 = .ok (.ladd, 1) := by decide +kernel
theorem dX0_totalAbove_17 : decode cX0_totalAbove 17 = .ok (.lstore_n 1, 1) := by decide +kernel
theorem dX0_totalAbove_18 : decode cX0_totalAbove 18 = .ok (.iinc 3 1, 3) := by decide +kernel
theorem dX0_totalAbove_21 : decode cX0_totalAbove 21 = .ok (.goto (-17), 3) := by decide +kernel
theorem dX0_totalAbove_24 : decode cX0_totalAbove 24 = .ok (.lload_n 1, 1) := by decide +kernel
theorem dX0_totalAbove_25 : decode cX0_totalAbove 25 = .ok (.lreturn, 1) := by decide +kernel
theorem dX0_portionOf_0 : decode cX0_portionOf 0 = .ok (.aload_n 0, 1) := by decide +kernel
theorem dX0_portionOf_1 : decode cX0_portionOf 1 = .ok (.invokevirtual 41, 3) := by decide +kernel
theorem dX0_portionOf_4 : decode cX0_portionOf 4 = .ok (.lstore_n 2, 1) := by decide +kernel
theorem dX0_portionOf_5 : decode cX0_portionOf 5 = .ok (.lload_n 2, 1) := by decide +kernel
theorem dX0_portionOf_6 : decode cX0_portionOf 6 = .ok (.lconst 0, 1) := by decide +kernel
theorem dX0_portionOf_7 : decode cX0_portionOf 7 = .ok (.lcmp, 1) := by decide +kernel
theorem dX0_portionOf_8 : decode cX0_portionOf 8 = .ok (.ifCond .ne 7, 3) := by decide +kernel
theorem dX0_portionOf_11 : decode cX0_portionOf 11 = .ok (.iconst 0, 1) := by decide +kernel
theorem dX0_portionOf_12 : decode cX0_portionOf 12 = .ok (.goto 16, 3) := by decide +kernel
theorem dX0_portionOf_15 : decode cX0_portionOf 15 = .ok (.ldc2_w 45, 3) := by decide +kernel
theorem dX0_portionOf_18 : decode cX0_portionOf 18 = .ok (.aload_n 0, 1) := by decide +kernel
theorem dX0_portionOf_19 : decode cX0_portionOf 19 = .ok (.getfield 9, 3) := by decide +kernel
theorem dX0_portionOf_22 : decode cX0_portionOf 22 = .ok (.iload_n 1, 1) := by decide +kernel
theorem dX0_portionOf_23 : decode cX0_portionOf 23 = .ok (.laload, 1) := by decide +kernel
theorem dX0_portionOf_24 : decode cX0_portionOf 24 = .ok (.lmul, 1) := by decide +kernel
theorem dX0_portionOf_25 : decode cX0_portionOf 25 = .ok (.lload_n 2, 1) := by decide +kernel
theorem dX0_portionOf_26 : decode cX0_portionOf 26 = .ok (.ldiv, 1) := by decide +kernel
theorem dX0_portionOf_27 : decode cX0_portionOf 27 = .ok (.l2i, 1) := by decide +kernel
theorem dX0_portionOf_28 : decode cX0_portionOf 28 = .ok (.ireturn, 1) := by decide +kernel
theorem dX0_isOver_0 : decode cX0_isOver 0 = .ok (.ldc2_w 45, 3) := by decide +kernel
theorem dX0_isOver_3 : decode cX0_isOver 3 = .ok (.aload_n 0, 1) := by decide +kernel
theorem dX0_isOver_4 : decode cX0_isOver 4 = .ok (.getfield 9, 3) := by decide +kernel
theorem dX0_isOver_7 : decode cX0_isOver 7 = .ok (.iload_n 1, 1) := by decide +kernel
theorem dX0_isOver_8 : decode cX0_isOver 8 = .ok (.laload, 1) := by decide +kernel
theorem dX0_isOver_9 : decode cX0_isOver 9 = .ok (.lmul, 1) := by decide +kernel
theorem dX0_isOver_10 : decode cX0_isOver 10 = .ok (.iload_n 2, 1) := by decide +kernel
theorem dX0_isOver_11 : decode cX0_isOver 11 = .ok (.i2l, 1) := by decide +kernel
theorem dX0_isOver_12 : decode cX0_isOver 12 = .ok (.aload_n 0, 1) := by decide +kernel
theorem dX0_isOver_13 : decode cX0_isOver 13 = .ok (.invokevirtual 41, 3) := by decide +kernel
theorem dX0_isOver_16 : decode cX0_isOver 16 = .ok (.lmul, 1) := by decide +kernel
theorem dX0_isOver_17 : decode cX0_isOver 17 = .ok (.lcmp, 1) := by decide +kernel
theorem dX0_isOver_18 : decode cX0_isOver 18 = .ok (.ifCond .le 7, 3) := by decide +kernel
theorem dX0_isOver_21 : decode cX0_isOver 21 = .ok (.iconst 1, 1) := by decide +kernel
theorem dX0_isOver_22 : decode cX0_isOver 22 = .ok (.goto 4, 3) := by decide +kernel
theorem dX0_isOver_25 : decode cX0_isOver 25 = .ok (.iconst 0, 1) := by decide +kernel
theorem dX0_isOver_26 : decode cX0_isOver 26 = .ok (.ireturn, 1) := by decide +kernel
theorem dX0_isHarmful_0 : decode cX0_isHarmful 0 = .ok (.iload_n 2, 1) := by decide +kernel
theorem dX0_isHarmful_1 : decode cX0_isHarmful 1 = .ok (.i2l, 1) := by decide +kernel
theorem dX0_isHarmful_2 : decode cX0_isHarmful 2 = .ok (.aload_n 0, 1) := by decide +kernel
theorem dX0_isHarmful_3 : decode cX0_isHarmful 3 = .ok (.invokevirtual 41, 3) := by decide +kernel
theorem dX0_isHarmful_6 : decode cX0_isHarmful 6 = .ok (.lmul, 1) := by decide +kernel
theorem dX0_isHarmful_7 : decode cX0_isHarmful 7 = .ok (.lstore_n 3, 1) := by decide +kernel
theorem dX0_isHarmful_8 : decode cX0_isHarmful 8 = .ok (.iconst 0, 1) := by decide +kernel
theorem dX0_isHarmful_9 : decode cX0_isHarmful 9 = .ok (.istore 5, 2) := by decide +kernel
theorem dX0_isHarmful_11 : decode cX0_isHarmful 11 = .ok (.iload 5, 2) := by decide +kernel
theorem dX0_isHarmful_13 : decode cX0_isHarmful 13 = .ok (.iconst 4, 1) := by decide +kernel
theorem dX0_isHarmful_14 : decode cX0_isHarmful 14 = .ok (.if_icmp .ge 37, 3) := by decide +kernel
theorem dX0_isHarmful_17 : decode cX0_isHarmful 17 = .ok (.iload_n 1, 1) := by decide +kernel
theorem dX0_isHarmful_18 : decode cX0_isHarmful 18 = .ok (.iload 5, 2) := by decide +kernel
theorem dX0_isHarmful_20 : decode cX0_isHarmful 20 = .ok (.ishr, 1) := by decide +kernel
theorem dX0_isHarmful_21 : decode cX0_isHarmful 21 = .ok (.iconst 1, 1) := by decide +kernel
theorem dX0_isHarmful_22 : decode cX0_isHarmful 22 = .ok (.iand, 1) := by decide +kernel
theorem dX0_isHarmful_23 : decode cX0_isHarmful 23 = .ok (.iconst 1, 1) := by decide +kernel
theorem dX0_isHarmful_24 : decode cX0_isHarmful 24 = .ok (.if_icmp .ne 21, 3) := by decide +kernel
theorem dX0_isHarmful_27 : decode cX0_isHarmful 27 = .ok (.ldc2_w 45, 3) := by decide +kernel
theorem dX0_isHarmful_30 : decode cX0_isHarmful 30 = .ok (.aload_n 0, 1) := by decide +kernel
theorem dX0_isHarmful_31 : decode cX0_isHarmful 31 = .ok (.getfield 9, 3) := by decide +kernel
theorem dX0_isHarmful_34 : decode cX0_isHarmful 34 = .ok (.iload 5, 2) := by decide +kernel
theorem dX0_isHarmful_36 : decode cX0_isHarmful 36 = .ok (.laload, 1) := by decide +kernel
theorem dX0_isHarmful_37 : decode cX0_isHarmful 37 = .ok (.lmul, 1) := by decide +kernel
theorem dX0_isHarmful_38 : decode cX0_isHarmful 38 = .ok (.lload_n 3, 1) := by decide +kernel
theorem dX0_isHarmful_39 : decode cX0_isHarmful 39 = .ok (.lcmp, 1) := by decide +kernel
theorem dX0_isHarmful_40 : decode cX0_isHarmful 40 = .ok (.ifCond .le 5, 3) := by decide +kernel
theorem dX0_isHarmful_43 : decode cX0_isHarmful 43 = .ok (.iconst 1, 1) := by decide +kernel
theorem dX0_isHarmful_44 : decode cX0_isHarmful 44 = .ok (.ireturn, 1) := by decide +kernel
theorem dX0_isHarmful_45 : decode cX0_isHarmful 45 = .ok (.iinc 5 1, 3) := by decide +kernel
theorem dX0_isHarmful_48 : decode cX0_isHarmful 48 = .ok (.goto (-37), 3) := by decide +kernel
theorem dX0_isHarmful_51 : decode cX0_isHarmful 51 = .ok (.iconst 0, 1) := by decide +kernel
theorem dX0_isHarmful_52 : decode cX0_isHarmful 52 = .ok (.ireturn, 1) := by decide +kernel
theorem dX0_mostTaste_0 : decode cX0_mostTaste 0 = .ok (.iconst 0, 1) := by decide +kernel
theorem dX0_mostTaste_1 : decode cX0_mostTaste 1 = .ok (.istore_n 1, 1) := by decide +kernel
theorem dX0_mostTaste_2 : decode cX0_mostTaste 2 = .ok (.iconst 1, 1) := by decide +kernel
theorem dX0_mostTaste_3 : decode cX0_mostTaste 3 = .ok (.istore_n 2, 1) := by decide +kernel
theorem dX0_mostTaste_4 : decode cX0_mostTaste 4 = .ok (.iload_n 2, 1) := by decide +kernel
theorem dX0_mostTaste_5 : decode cX0_mostTaste 5 = .ok (.iconst 4, 1) := by decide +kernel
theorem dX0_mostTaste_6 : decode cX0_mostTaste 6 = .ok (.if_icmp .ge 31, 3) := by decide +kernel
theorem dX0_mostTaste_9 : decode cX0_mostTaste 9 = .ok (.aload_n 0, 1) := by decide +kernel
theorem dX0_mostTaste_10 : decode cX0_mostTaste 10 = .ok (.getfield 9, 3) := by decide +kernel
theorem dX0_mostTaste_13 : decode cX0_mostTaste 13 = .ok (.iload_n 2, 1) := by decide +kernel
theorem dX0_mostTaste_14 : decode cX0_mostTaste 14 = .ok (.laload, 1) := by decide +kernel
theorem dX0_mostTaste_15 : decode cX0_mostTaste 15 = .ok (.aload_n 0, 1) := by decide +kernel
theorem dX0_mostTaste_16 : decode cX0_mostTaste 16 = .ok (.getfield 9, 3) := by decide +kernel
theorem dX0_mostTaste_19 : decode cX0_mostTaste 19 = .ok (.iload_n 1, 1) := by decide +kernel
theorem dX0_mostTaste_20 : decode cX0_mostTaste 20 = .ok (.laload, 1) := by decide +kernel
theorem dX0_mostTaste_21 : decode cX0_mostTaste 21 = .ok (.lcmp, 1) := by decide +kernel
theorem dX0_mostTaste_22 : decode cX0_mostTaste 22 = .ok (.ifCond .le 7, 3) := by decide +kernel
theorem dX0_mostTaste_25 : decode cX0_mostTaste 25 = .ok (.iload_n 2, 1) := by decide +kernel
theorem dX0_mostTaste_26 : decode cX0_mostTaste 26 = .ok (.goto 4, 3) := by decide +kernel
theorem dX0_mostTaste_29 : decode cX0_mostTaste 29 = .ok (.iload_n 1, 1) := by decide +kernel
theorem dX0_mostTaste_30 : decode cX0_mostTaste 30 = .ok (.istore_n 1, 1) := by decide +kernel
theorem dX0_mostTaste_31 : decode cX0_mostTaste 31 = .ok (.iinc 2 1, 3) := by decide +kernel
theorem dX0_mostTaste_34 : decode cX0_mostTaste 34 = .ok (.goto (-30), 3) := by decide +kernel
theorem dX0_mostTaste_37 : decode cX0_mostTaste 37 = .ok (.aload_n 0, 1) := by decide +kernel
theorem dX0_mostTaste_38 : decode cX0_mostTaste 38 = .ok (.getfield 9, 3) := by decide +kernel
theorem dX0_mostTaste_41 : decode cX0_mostTaste 41 = .ok (.iload_n 1, 1) := by decide +kernel
theorem dX0_mostTaste_42 : decode cX0_mostTaste 42 = .ok (.laload, 1) := by decide +kernel
theorem dX0_mostTaste_43 : decode cX0_mostTaste 43 = .ok (.lconst 0, 1) := by decide +kernel
theorem dX0_mostTaste_44 : decode cX0_mostTaste 44 = .ok (.lcmp, 1) := by decide +kernel
theorem dX0_mostTaste_45 : decode cX0_mostTaste 45 = .ok (.ifCond .ne 8, 3) := by decide +kernel
theorem dX0_mostTaste_48 : decode cX0_mostTaste 48 = .ok (.bipush (-4), 2) := by decide +kernel
theorem dX0_mostTaste_50 : decode cX0_mostTaste 50 = .ok (.goto 4, 3) := by decide +kernel
theorem dX0_mostTaste_53 : decode cX0_mostTaste 53 = .ok (.iload_n 1, 1) := by decide +kernel
theorem dX0_mostTaste_54 : decode cX0_mostTaste 54 = .ok (.ireturn, 1) := by decide +kernel
theorem dX0_isLike_0 : decode cX0_isLike 0 = .ok (.iconst 0, 1) := by decide +kernel
theorem dX0_isLike_1 : decode cX0_isLike 1 = .ok (.istore_n 2, 1) := by decide +kernel
theorem dX0_isLike_2 : decode cX0_isLike 2 = .ok (.iload_n 2, 1) := by decide +kernel
theorem dX0_isLike_3 : decode cX0_isLike 3 = .ok (.iconst 4, 1) := by decide +kernel
theorem dX0_isLike_4 : decode cX0_isLike 4 = .ok (.if_icmp .ge 37, 3) := by decide +kernel
theorem dX0_isLike_7 : decode cX0_isLike 7 = .ok (.aload_n 0, 1) := by decide +kernel
theorem dX0_isLike_8 : decode cX0_isLike 8 = .ok (.getfield 9, 3) := by decide +kernel
theorem dX0_isLike_11 : decode cX0_isLike 11 = .ok (.iload_n 2, 1) := by decide +kernel
theorem dX0_isLike_12 : decode cX0_isLike 12 = .ok (.laload, 1) := by decide +kernel
theorem dX0_isLike_13 : decode cX0_isLike 13 = .ok (.aload_n 1, 1) := by decide +kernel
theorem dX0_isLike_14 : decode cX0_isLike 14 = .ok (.getfield 15, 3) := by decide +kernel
theorem dX0_isLike_17 : decode cX0_isLike 17 = .ok (.lmul, 1) := by decide +kernel
theorem dX0_isLike_18 : decode cX0_isLike 18 = .ok (.aload_n 1, 1) := by decide +kernel
theorem dX0_isLike_19 : decode cX0_isLike 19 = .ok (.getfield 9, 3) := by decide +kernel
theorem dX0_isLike_22 : decode cX0_isLike 22 = .ok (.iload_n 2, 1) := by decide +kernel
theorem dX0_isLike_23 : decode cX0_isLike 23 = .ok (.laload, 1) := by decide +kernel
theorem dX0_isLike_24 : decode cX0_isLike 24 = .ok (.aload_n 0, 1) := by decide +kernel
theorem dX0_isLike_25 : decode cX0_isLike 25 = .ok (.getfield 15, 3) := by decide +kernel
theorem dX0_isLike_28 : decode cX0_isLike 28 = .ok (.lmul, 1) := by decide +kernel
theorem dX0_isLike_29 : decode cX0_isLike 29 = .ok (.lcmp, 1) := by decide +kernel
theorem dX0_isLike_30 : decode cX0_isLike 30 = .ok (.ifCond .eq 5, 3) := by decide +kernel
theorem dX0_isLike_33 : decode cX0_isLike 33 = .ok (.iconst 0, 1) := by decide +kernel
theorem dX0_isLike_34 : decode cX0_isLike 34 = .ok (.ireturn, 1) := by decide +kernel
theorem dX0_isLike_35 : decode cX0_isLike 35 = .ok (.iinc 2 1, 3) := by decide +kernel
theorem dX0_isLike_38 : decode cX0_isLike 38 = .ok (.goto (-36), 3) := by decide +kernel
theorem dX0_isLike_41 : decode cX0_isLike 41 = .ok (.iconst 1, 1) := by decide +kernel
theorem dX0_isLike_42 : decode cX0_isLike 42 = .ok (.ireturn, 1) := by decide +kernel
theorem dX1_init_0 : decode cX1_init 0 = .ok (.aload_n 0, 1) := by decide +kernel
theorem dX1_init_1 : decode cX1_init 1 = .ok (.invokespecial 3, 3) := by decide +kernel
theorem dX1_init_4 : decode cX1_init 4 = .ok (.aload_n 0, 1) := by decide +kernel
theorem dX1_init_5 : decode cX1_init 5 = .ok (.bipush 6, 2) := by decide +kernel
theorem dX1_init_7 : decode cX1_init 7 = .ok (.anewarray 9, 3) := by decide +kernel
theorem dX1_init_10 : decode cX1_init 10 = .ok (.putfield 11, 3) := by decide +kernel
theorem dX1_init_13 : decode cX1_init 13 = .ok (.iconst 0, 1) := by decide +kernel
theorem dX1_init_14 : decode cX1_init 14 = .ok (.istore_n 1, 1) := by decide +kernel
theorem dX1_init_15 : decode cX1_init 15 = .ok (.iload_n 1, 1) := by decide +kernel
theorem dX1_init_16 : decode cX1_init 16 = .ok (.aload_n 0, 1) := by decide +kernel
theorem dX1_init_17 : decode cX1_init 17 = .ok (.getfield 11, 3) := by decide +kernel
theorem dX1_init_20 : decode cX1_init 20 = .ok (.arraylength, 1) := by decide +kernel
theorem dX1_init_21 : decode cX1_init 21 = .ok (.if_icmp .ge 22, 3) := by decide +kernel
theorem dX1_init_24 : decode cX1_init 24 = .ok (.aload_n 0, 1) := by decide +kernel
theorem dX1_init_25 : decode cX1_init 25 = .ok (.getfield 11, 3) := by decide +kernel
theorem dX1_init_28 : decode cX1_init 28 = .ok (.iload_n 1, 1) := by decide +kernel
theorem dX1_init_29 : decode cX1_init 29 = .ok (.new 9, 3) := by decide +kernel
theorem dX1_init_32 : decode cX1_init 32 = .ok (.dup, 1) := by decide +kernel
theorem dX1_init_33 : decode cX1_init 33 = .ok (.invokespecial 17, 3) := by decide +kernel
theorem dX1_init_36 : decode cX1_init 36 = .ok (.aastore, 1) := by decide +kernel
theorem dX1_init_37 : decode cX1_init 37 = .ok (.iinc 1 1, 3) := by decide +kernel
theorem dX1_init_40 : decode cX1_init 40 = .ok (.goto (-25), 3) := by decide +kernel
theorem dX1_init_43 : decode cX1_init 43 = .ok (.return_, 1) := by decide +kernel
theorem dX1_has_0 : decode cX1_has 0 = .ok (.iload_n 1, 1) := by decide +kernel
theorem dX1_has_1 : decode cX1_has 1 = .ok (.ifCond .lt 15, 3) := by decide +kernel
theorem dX1_has_4 : decode cX1_has 4 = .ok (.iload_n 1, 1) := by decide +kernel
theorem dX1_has_5 : decode cX1_has 5 = .ok (.aload_n 0, 1) := by decide +kernel
theorem dX1_has_6 : decode cX1_has 6 = .ok (.getfield 18, 3) := by decide +kernel
theorem dX1_has_9 : decode cX1_has 9 = .ok (.if_icmp .ge 7, 3) := by decide +kernel
theorem dX1_has_12 : decode cX1_has 12 = .ok (.iconst 1, 1) := by decide +kernel
theorem dX1_has_13 : decode cX1_has 13 = .ok (.goto 4, 3) := by decide +kernel
theorem dX1_has_16 : decode cX1_has 16 = .ok (.iconst 0, 1) := by decide +kernel
theorem dX1_has_17 : decode cX1_has 17 = .ok (.ireturn, 1) := by decide +kernel
theorem dX1_become_0 : decode cX1_become 0 = .ok (.aload_n 0, 1) := by decide +kernel
theorem dX1_become_1 : decode cX1_become 1 = .ok (.aload_n 1, 1) := by decide +kernel
theorem dX1_become_2 : decode cX1_become 2 = .ok (.getfield 18, 3) := by decide +kernel
theorem dX1_become_5 : decode cX1_become 5 = .ok (.putfield 18, 3) := by decide +kernel
theorem dX1_become_8 : decode cX1_become 8 = .ok (.iconst 0, 1) := by decide +kernel
theorem dX1_become_9 : decode cX1_become 9 = .ok (.istore_n 2, 1) := by decide +kernel
theorem dX1_become_10 : decode cX1_become 10 = .ok (.iload_n 2, 1) := by decide +kernel
theorem dX1_become_11 : decode cX1_become 11 = .ok (.aload_n 0, 1) := by decide +kernel
theorem dX1_become_12 : decode cX1_become 12 = .ok (.getfield 18, 3) := by decide +kernel
theorem dX1_become_15 : decode cX1_become 15 = .ok (.if_icmp .ge 24, 3) := by decide +kernel
theorem dX1_become_18 : decode cX1_become 18 = .ok (.aload_n 0, 1) := by decide +kernel
theorem dX1_become_19 : decode cX1_become 19 = .ok (.getfield 11, 3) := by decide +kernel
theorem dX1_become_22 : decode cX1_become 22 = .ok (.iload_n 2, 1) := by decide +kernel
theorem dX1_become_23 : decode cX1_become 23 = .ok (.aaload, 1) := by decide +kernel
theorem dX1_become_24 : decode cX1_become 24 = .ok (.aload_n 1, 1) := by decide +kernel
theorem dX1_become_25 : decode cX1_become 25 = .ok (.getfield 11, 3) := by decide +kernel
theorem dX1_become_28 : decode cX1_become 28 = .ok (.iload_n 2, 1) := by decide +kernel
theorem dX1_become_29 : decode cX1_become 29 = .ok (.aaload, 1) := by decide +kernel
theorem dX1_become_30 : decode cX1_become 30 = .ok (.invokevirtual 22, 3) := by decide +kernel
theorem dX1_become_33 : decode cX1_become 33 = .ok (.iinc 2 1, 3) := by decide +kernel
theorem dX1_become_36 : decode cX1_become 36 = .ok (.goto (-26), 3) := by decide +kernel
theorem dX1_become_39 : decode cX1_become 39 = .ok (.return_, 1) := by decide +kernel
theorem dX1_addPot_0 : decode cX1_addPot 0 = .ok (.aload_n 0, 1) := by decide +kernel
theorem dX1_addPot_1 : decode cX1_addPot 1 = .ok (.getfield 18, 3) := by decide +kernel
theorem dX1_addPot_4 : decode cX1_addPot 4 = .ok (.bipush 6, 2) := by decide +kernel
theorem dX1_addPot_6 : decode cX1_addPot 6 = .ok (.if_icmp .lt 5, 3) := by decide +kernel
theorem dX1_addPot_9 : decode cX1_addPot 9 = .ok (.iconst 0, 1) := by decide +kernel
theorem dX1_addPot_10 : decode cX1_addPot 10 = .ok (.ireturn, 1) := by decide +kernel
theorem dX1_addPot_11 : decode cX1_addPot 11 = .ok (.aload_n 0, 1) := by decide +kernel
theorem dX1_addPot_12 : decode cX1_addPot 12 = .ok (.getfield 11, 3) := by decide +kernel
theorem dX1_addPot_15 : decode cX1_addPot 15 = .ok (.aload_n 0, 1) := by decide +kernel
theorem dX1_addPot_16 : decode cX1_addPot 16 = .ok (.getfield 18, 3) := by decide +kernel
theorem dX1_addPot_19 : decode cX1_addPot 19 = .ok (.aaload, 1) := by decide +kernel
theorem dX1_addPot_20 : decode cX1_addPot 20 = .ok (.getfield 26, 3) := by decide +kernel
theorem dX1_addPot_23 : decode cX1_addPot 23 = .ok (.invokevirtual 30, 3) := by decide +kernel
theorem dX1_addPot_26 : decode cX1_addPot 26 = .ok (.aload_n 0, 1) := by decide +kernel
theorem dX1_addPot_27 : decode cX1_addPot 27 = .ok (.dup, 1) := by decide +kernel
theorem dX1_addPot_28 : decode cX1_addPot 28 = .ok (.getfield 18, 3) := by decide +kernel
theorem dX1_addPot_31 : decode cX1_addPot 31 = .ok (.iconst 1, 1) := by decide +kernel
theorem dX1_addPot_32 : decode cX1_addPot 32 = .ok (.iadd, 1) := by decide +kernel
theorem dX1_addPot_33 : decode cX1_addPot 33 = .ok (.putfield 18, 3) := by decide +kernel
theorem dX1_addPot_36 : decode cX1_addPot 36 = .ok (.iconst 1, 1) := by decide +kernel
theorem dX1_addPot_37 : decode cX1_addPot 37 = .ok (.ireturn, 1) := by decide +kernel
theorem dX1_digitsBehind_0 : decode cX1_digitsBehind 0 = .ok (.iload_n 0, 1) := by decide +kernel
theorem dX1_digitsBehind_1 : decode cX1_digitsBehind 1 = .ok (.lookupswitch 51 #[(99, 47), (100, 49), (110, 45), (112, 43)], 43) := by decide +kernel
theorem dX1_digitsBehind_44 : decode cX1_digitsBehind 44 = .ok (.iconst 0, 1) := by decide +kernel
theorem dX1_digitsBehind_45 : decode cX1_digitsBehind 45 = .ok (.ireturn, 1) := by decide +kernel
theorem dX1_digitsBehind_46 : decode cX1_digitsBehind 46 = .ok (.iconst 1, 1) := by decide +kernel
theorem dX1_digitsBehind_47 : decode cX1_digitsBehind 47 = .ok (.ireturn, 1) := by decide +kernel
theorem dX1_digitsBehind_48 : decode cX1_digitsBehind 48 = .ok (.iconst 2, 1) := by decide +kernel
theorem dX1_digitsBehind_49 : decode cX1_digitsBehind 49 = .ok (.ireturn, 1) := by decide +kernel
theorem dX1_digitsBehind_50 : decode cX1_digitsBehind 50 = .ok (.iconst 3, 1) := by decide +kernel
theorem dX1_digitsBehind_51 : decode cX1_digitsBehind 51 = .ok (.ireturn, 1) := by decide +kernel
theorem dX1_digitsBehind_52 : decode cX1_digitsBehind 52 = .ok (.bipush (-4), 2) := by decide +kernel
theorem dX1_digitsBehind_54 : decode cX1_digitsBehind 54 = .ok (.ireturn, 1) := by decide +kernel
theorem dX1_brokenAt_0 : decode cX1_brokenAt 0 = .ok (.iconst 0, 1) := by decide +kernel
theorem dX1_brokenAt_1 : decode cX1_brokenAt 1 = .ok (.istore_n 1, 1) := by decide +kernel
theorem dX1_brokenAt_2 : decode cX1_brokenAt 2 = .ok (.aload_n 0, 1) := by decide +kernel
theorem dX1_brokenAt_3 : decode cX1_brokenAt 3 = .ok (.iload_n 1, 1) := by decide +kernel
theorem dX1_brokenAt_4 : decode cX1_brokenAt 4 = .ok (.bipush (-4), 2) := by decide +kernel
theorem dX1_brokenAt_6 : decode cX1_brokenAt 6 = .ok (.invokevirtual 35, 3) := by decide +kernel
theorem dX1_brokenAt_9 : decode cX1_brokenAt 9 = .ok (.invokestatic 41, 3) := by decide +kernel
theorem dX1_brokenAt_12 : decode cX1_brokenAt 12 = .ok (.istore_n 2, 1) := by decide +kernel
theorem dX1_brokenAt_13 : decode cX1_brokenAt 13 = .ok (.iload_n 2, 1) := by decide +kernel
theorem dX1_brokenAt_14 : decode cX1_brokenAt 14 = .ok (.ifCond .ge 5, 3) := by decide +kernel
theorem dX1_brokenAt_17 : decode cX1_brokenAt 17 = .ok (.iload_n 1, 1) := by decide +kernel
theorem dX1_brokenAt_18 : decode cX1_brokenAt 18 = .ok (.ireturn, 1) := by decide +kernel
theorem dX1_brokenAt_19 : decode cX1_brokenAt 19 = .ok (.iinc 1 1, 3) := by decide +kernel
theorem dX1_brokenAt_22 : decode cX1_brokenAt 22 = .ok (.iconst 0, 1) := by decide +kernel
theorem dX1_brokenAt_23 : decode cX1_brokenAt 23 = .ok (.istore_n 3, 1) := by decide +kernel
theorem dX1_brokenAt_24 : decode cX1_brokenAt 24 = .ok (.iload_n 3, 1) := by decide +kernel
theorem dX1_brokenAt_25 : decode cX1_brokenAt 25 = .ok (.iload_n 2, 1) := by decide +kernel
theorem dX1_brokenAt_26 : decode cX1_brokenAt 26 = .ok (.if_icmp .ge 25, 3) := by decide +kernel
theorem dX1_brokenAt_29 : decode cX1_brokenAt 29 = .ok (.aload_n 0, 1) := by decide +kernel
theorem dX1_brokenAt_30 : decode cX1_brokenAt 30 = .ok (.iload_n 1, 1) := by decide +kernel
theorem dX1_brokenAt_31 : decode cX1_brokenAt 31 = .ok (.invokevirtual 45, 3) := by decide +kernel
theorem dX1_brokenAt_34 : decode cX1_brokenAt 34 = .ok (.invokestatic 48, 3) := by decide +kernel
theorem dX1_brokenAt_37 : decode cX1_brokenAt 37 = .ok (.ifCond .eq 5, 3) := by decide +kernel
theorem dX1_brokenAt_40 : decode cX1_brokenAt 40 = .ok (.iload_n 1, 1) := by decide +kernel
theorem dX1_brokenAt_41 : decode cX1_brokenAt 41 = .ok (.ireturn, 1) := by decide +kernel
theorem dX1_brokenAt_42 : decode cX1_brokenAt 42 = .ok (.iinc 1 1, 3) := by decide +kernel
theorem dX1_brokenAt_45 : decode cX1_brokenAt 45 = .ok (.iinc 3 1, 3) := by decide +kernel
theorem dX1_brokenAt_48 : decode cX1_brokenAt 48 = .ok (.goto (-24), 3) := by decide +kernel
theorem dX1_brokenAt_51 : decode cX1_brokenAt 51 = .ok (.aload_n 0, 1) := by decide +kernel
theorem dX1_brokenAt_52 : decode cX1_brokenAt 52 = .ok (.iload_n 1, 1) := by decide +kernel
theorem dX1_brokenAt_53 : decode cX1_brokenAt 53 = .ok (.bipush (-4), 2) := by decide +kernel
theorem dX1_brokenAt_55 : decode cX1_brokenAt 55 = .ok (.invokevirtual 35, 3) := by decide +kernel
theorem dX1_brokenAt_58 : decode cX1_brokenAt 58 = .ok (.bipush 59, 2) := by decide +kernel
theorem dX1_brokenAt_60 : decode cX1_brokenAt 60 = .ok (.if_icmp .eq 5, 3) := by decide +kernel
theorem dX1_brokenAt_63 : decode cX1_brokenAt 63 = .ok (.iload_n 1, 1) := by decide +kernel
theorem dX1_brokenAt_64 : decode cX1_brokenAt 64 = .ok (.ireturn, 1) := by decide +kernel
theorem dX1_brokenAt_65 : decode cX1_brokenAt 65 = .ok (.iinc 1 1, 3) := by decide +kernel
theorem dX1_brokenAt_68 : decode cX1_brokenAt 68 = .ok (.iload_n 1, 1) := by decide +kernel
theorem dX1_brokenAt_69 : decode cX1_brokenAt 69 = .ok (.aload_n 0, 1) := by decide +kernel
theorem dX1_brokenAt_70 : decode cX1_brokenAt 70 = .ok (.getfield 52, 3) := by decide +kernel
theorem dX1_brokenAt_73 : decode cX1_brokenAt 73 = .ok (.if_icmp .lt (-71), 3) := by decide +kernel
theorem dX1_brokenAt_76 : decode cX1_brokenAt 76 = .ok (.bipush (-4), 2) := by decide +kernel
theorem dX1_brokenAt_78 : decode cX1_brokenAt 78 = .ok (.ireturn, 1) := by decide +kernel
theorem dX1_carryOut_0 : decode cX1_carryOut 0 = .ok (.aload_n 1, 1) := by decide +kernel
theorem dX1_carryOut_1 : decode cX1_carryOut 1 = .ok (.iload_n 2, 1) := by decide +kernel
theorem dX1_carryOut_2 : decode cX1_carryOut 2 = .ok (.iconst 1, 1) := by decide +kernel
theorem dX1_carryOut_3 : decode cX1_carryOut 3 = .ok (.iadd, 1) := by decide +kernel
theorem dX1_carryOut_4 : decode cX1_carryOut 4 = .ok (.invokevirtual 45, 3) := by decide +kernel
theorem dX1_carryOut_7 : decode cX1_carryOut 7 = .ok (.istore_n 3, 1) := by decide +kernel
theorem dX1_carryOut_8 : decode cX1_carryOut 8 = .ok (.aload_n 1, 1) := by decide +kernel
theorem dX1_carryOut_9 : decode cX1_carryOut 9 = .ok (.iload_n 2, 1) := by decide +kernel
theorem dX1_carryOut_10 : decode cX1_carryOut 10 = .ok (.iconst 2, 1) := by decide +kernel
theorem dX1_carryOut_11 : decode cX1_carryOut 11 = .ok (.iadd, 1) := by decide +kernel
theorem dX1_carryOut_12 : decode cX1_carryOut 12 = .ok (.invokevirtual 45, 3) := by decide +kernel
theorem dX1_carryOut_15 : decode cX1_carryOut 15 = .ok (.istore 4, 2) := by decide +kernel
theorem dX1_carryOut_17 : decode cX1_carryOut 17 = .ok (.aload_n 1, 1) := by decide +kernel
theorem dX1_carryOut_18 : decode cX1_carryOut 18 = .ok (.iload_n 2, 1) := by decide +kernel
theorem dX1_carryOut_19 : decode cX1_carryOut 19 = .ok (.bipush (-4), 2) := by decide +kernel
theorem dX1_carryOut_21 : decode cX1_carryOut 21 = .ok (.invokevirtual 35, 3) := by decide +kernel
theorem dX1_carryOut_24 : decode cX1_carryOut 24 = .ok (.lookupswitch 78 #[(99, 70), (100, 49), (110, 64), (112, 44)], 44) := by decide +kernel
theorem dX1_carryOut_68 : decode cX1_carryOut 68 = .ok (.aload_n 0, 1) := by decide +kernel
theorem dX1_carryOut_69 : decode cX1_carryOut 69 = .ok (.invokevirtual 53, 3) := by decide +kernel
theorem dX1_carryOut_72 : decode cX1_carryOut 72 = .ok (.ireturn, 1) := by decide +kernel
theorem dX1_carryOut_73 : decode cX1_carryOut 73 = .ok (.aload_n 0, 1) := by decide +kernel
theorem dX1_carryOut_74 : decode cX1_carryOut 74 = .ok (.iload_n 3, 1) := by decide +kernel
theorem dX1_carryOut_75 : decode cX1_carryOut 75 = .ok (.iload 4, 2) := by decide +kernel
theorem dX1_carryOut_77 : decode cX1_carryOut 77 = .ok (.aload_n 1, 1) := by decide +kernel
theorem dX1_carryOut_78 : decode cX1_carryOut 78 = .ok (.iload_n 2, 1) := by decide +kernel
theorem dX1_carryOut_79 : decode cX1_carryOut 79 = .ok (.iconst 3, 1) := by decide +kernel
theorem dX1_carryOut_80 : decode cX1_carryOut 80 = .ok (.iadd, 1) := by decide +kernel
theorem dX1_carryOut_81 : decode cX1_carryOut 81 = .ok (.invokevirtual 45, 3) := by decide +kernel
theorem dX1_carryOut_84 : decode cX1_carryOut 84 = .ok (.invokevirtual 57, 3) := by decide +kernel
theorem dX1_carryOut_87 : decode cX1_carryOut 87 = .ok (.ireturn, 1) := by decide +kernel
theorem dX1_carryOut_88 : decode cX1_carryOut 88 = .ok (.aload_n 0, 1) := by decide +kernel
theorem dX1_carryOut_89 : decode cX1_carryOut 89 = .ok (.iload_n 3, 1) := by decide +kernel
theorem dX1_carryOut_90 : decode cX1_carryOut 90 = .ok (.invokevirtual 61, 3) := by decide +kernel
theorem dX1_carryOut_93 : decode cX1_carryOut 93 = .ok (.ireturn, 1) := by decide +kernel
theorem dX1_carryOut_94 : decode cX1_carryOut 94 = .ok (.aload_n 0, 1) := by decide +kernel
theorem dX1_carryOut_95 : decode cX1_carryOut 95 = .ok (.iload_n 3, 1) := by decide +kernel
theorem dX1_carryOut_96 : decode cX1_carryOut 96 = .ok (.iload 4, 2) := by decide +kernel
theorem dX1_carryOut_98 : decode cX1_carryOut 98 = .ok (.invokevirtual 64, 3) := by decide +kernel
theorem dX1_carryOut_101 : decode cX1_carryOut 101 = .ok (.ireturn, 1) := by decide +kernel
theorem dX1_carryOut_102 : decode cX1_carryOut 102 = .ok (.iconst 0, 1) := by decide +kernel
theorem dX1_carryOut_103 : decode cX1_carryOut 103 = .ok (.ireturn, 1) := by decide +kernel
theorem dX1_cookIn_0 : decode cX1_cookIn 0 = .ok (.aload_n 0, 1) := by decide +kernel
theorem dX1_cookIn_1 : decode cX1_cookIn 1 = .ok (.iload_n 1, 1) := by decide +kernel
theorem dX1_cookIn_2 : decode cX1_cookIn 2 = .ok (.invokevirtual 68, 3) := by decide +kernel
theorem dX1_cookIn_5 : decode cX1_cookIn 5 = .ok (.ifCond .eq 17, 3) := by decide +kernel
theorem dX1_cookIn_8 : decode cX1_cookIn 8 = .ok (.iload_n 2, 1) := by decide +kernel
theorem dX1_cookIn_9 : decode cX1_cookIn 9 = .ok (.invokestatic 71, 3) := by decide +kernel
theorem dX1_cookIn_12 : decode cX1_cookIn 12 = .ok (.ifCond .ne 10, 3) := by decide +kernel
theorem dX1_cookIn_15 : decode cX1_cookIn 15 = .ok (.iload_n 3, 1) := by decide +kernel
theorem dX1_cookIn_16 : decode cX1_cookIn 16 = .ok (.invokestatic 48, 3) := by decide +kernel
theorem dX1_cookIn_19 : decode cX1_cookIn 19 = .ok (.ifCond .eq 5, 3) := by decide +kernel
theorem dX1_cookIn_22 : decode cX1_cookIn 22 = .ok (.iconst 0, 1) := by decide +kernel
theorem dX1_cookIn_23 : decode cX1_cookIn 23 = .ok (.ireturn, 1) := by decide +kernel
theorem dX1_cookIn_24 : decode cX1_cookIn 24 = .ok (.aload_n 0, 1) := by decide +kernel
theorem dX1_cookIn_25 : decode cX1_cookIn 25 = .ok (.getfield 11, 3) := by decide +kernel
theorem dX1_cookIn_28 : decode cX1_cookIn 28 = .ok (.iload_n 1, 1) := by decide +kernel
theorem dX1_cookIn_29 : decode cX1_cookIn 29 = .ok (.aaload, 1) := by decide +kernel
theorem dX1_cookIn_30 : decode cX1_cookIn 30 = .ok (.iload_n 2, 1) := by decide +kernel
theorem dX1_cookIn_31 : decode cX1_cookIn 31 = .ok (.iload_n 3, 1) := by decide +kernel
theorem dX1_cookIn_32 : decode cX1_cookIn 32 = .ok (.invokevirtual 74, 3) := by decide +kernel
theorem dX1_cookIn_35 : decode cX1_cookIn 35 = .ok (.ireturn, 1) := by decide +kernel
theorem dX1_renew_0 : decode cX1_renew 0 = .ok (.aload_n 0, 1) := by decide +kernel
theorem dX1_renew_1 : decode cX1_renew 1 = .ok (.iload_n 1, 1) := by decide +kernel
theorem dX1_renew_2 : decode cX1_renew 2 = .ok (.invokevirtual 68, 3) := by decide +kernel
theorem dX1_renew_5 : decode cX1_renew 5 = .ok (.ifCond .ne 5, 3) := by decide +kernel
theorem dX1_renew_8 : decode cX1_renew 8 = .ok (.iconst 0, 1) := by decide +kernel
theorem dX1_renew_9 : decode cX1_renew 9 = .ok (.ireturn, 1) := by decide +kernel
theorem dX1_renew_10 : decode cX1_renew 10 = .ok (.aload_n 0, 1) := by decide +kernel
theorem dX1_renew_11 : decode cX1_renew 11 = .ok (.getfield 11, 3) := by decide +kernel
theorem dX1_renew_14 : decode cX1_renew 14 = .ok (.iload_n 1, 1) := by decide +kernel
theorem dX1_renew_15 : decode cX1_renew 15 = .ok (.aaload, 1) := by decide +kernel
theorem dX1_renew_16 : decode cX1_renew 16 = .ok (.getfield 26, 3) := by decide +kernel
theorem dX1_renew_19 : decode cX1_renew 19 = .ok (.invokevirtual 30, 3) := by decide +kernel
theorem dX1_renew_22 : decode cX1_renew 22 = .ok (.iconst 1, 1) := by decide +kernel
theorem dX1_renew_23 : decode cX1_renew 23 = .ok (.ireturn, 1) := by decide +kernel
theorem dX1_makeAlike_0 : decode cX1_makeAlike 0 = .ok (.aload_n 0, 1) := by decide +kernel
theorem dX1_makeAlike_1 : decode cX1_makeAlike 1 = .ok (.iload_n 1, 1) := by decide +kernel
theorem dX1_makeAlike_2 : decode cX1_makeAlike 2 = .ok (.invokevirtual 68, 3) := by decide +kernel
theorem dX1_makeAlike_5 : decode cX1_makeAlike 5 = .ok (.ifCond .eq 16, 3) := by decide +kernel
theorem dX1_makeAlike_8 : decode cX1_makeAlike 8 = .ok (.aload_n 0, 1) := by decide +kernel
theorem dX1_makeAlike_9 : decode cX1_makeAlike 9 = .ok (.iload_n 2, 1) := by decide +kernel
theorem dX1_makeAlike_10 : decode cX1_makeAlike 10 = .ok (.invokevirtual 68, 3) := by decide +kernel
theorem dX1_makeAlike_13 : decode cX1_makeAlike 13 = .ok (.ifCond .eq 8, 3) := by decide +kernel
theorem dX1_makeAlike_16 : decode cX1_makeAlike 16 = .ok (.iload_n 1, 1) := by decide +kernel
theorem dX1_makeAlike_17 : decode cX1_makeAlike 17 = .ok (.iload_n 2, 1) := by decide +kernel
theorem dX1_makeAlike_18 : decode cX1_makeAlike 18 = .ok (.if_icmp .ne 5, 3) := by decide +kernel
theorem dX1_makeAlike_21 : decode cX1_makeAlike 21 = .ok (.iconst 0, 1) := by decide +kernel
theorem dX1_makeAlike_22 : decode cX1_makeAlike 22 = .ok (.ireturn, 1) := by decide +kernel
theorem dX1_makeAlike_23 : decode cX1_makeAlike 23 = .ok (.aload_n 0, 1) := by decide +kernel
theorem dX1_makeAlike_24 : decode cX1_makeAlike 24 = .ok (.getfield 11, 3) := by decide +kernel
theorem dX1_makeAlike_27 : decode cX1_makeAlike 27 = .ok (.iload_n 2, 1) := by decide +kernel
theorem dX1_makeAlike_28 : decode cX1_makeAlike 28 = .ok (.aaload, 1) := by decide +kernel
theorem dX1_makeAlike_29 : decode cX1_makeAlike 29 = .ok (.aload_n 0, 1) := by decide +kernel
theorem dX1_makeAlike_30 : decode cX1_makeAlike 30 = .ok (.getfield 11, 3) := by decide +kernel
theorem dX1_makeAlike_33 : decode cX1_makeAlike 33 = .ok (.iload_n 1, 1) := by decide +kernel
theorem dX1_makeAlike_34 : decode cX1_makeAlike 34 = .ok (.aaload, 1) := by decide +kernel
theorem dX1_makeAlike_35 : decode cX1_makeAlike 35 = .ok (.invokevirtual 22, 3) := by decide +kernel
theorem dX1_makeAlike_38 : decode cX1_makeAlike 38 = .ok (.iconst 1, 1) := by decide +kernel
theorem dX1_makeAlike_39 : decode cX1_makeAlike 39 = .ok (.ireturn, 1) := by decide +kernel
theorem dX2_init_0 : decode cX2_init 0 = .ok (.aload_n 0, 1) := by decide +kernel
theorem dX2_init_1 : decode cX2_init 1 = .ok (.invokespecial 3, 3) := by decide +kernel
theorem dX2_init_4 : decode cX2_init 4 = .ok (.aload_n 0, 1) := by decide +kernel
theorem dX2_init_5 : decode cX2_init 5 = .ok (.bipush 6, 2) := by decide +kernel
theorem dX2_init_7 : decode cX2_init 7 = .ok (.anewarray 9, 3) := by decide +kernel
theorem dX2_init_10 : decode cX2_init 10 = .ok (.putfield 11, 3) := by decide +kernel
theorem dX2_init_13 : decode cX2_init 13 = .ok (.aload_n 0, 1) := by decide +kernel
theorem dX2_init_14 : decode cX2_init 14 = .ok (.iconst 5, 1) := by decide +kernel
theorem dX2_init_15 : decode cX2_init 15 = .ok (.anewarray 9, 3) := by decide +kernel
theorem dX2_init_18 : decode cX2_init 18 = .ok (.putfield 17, 3) := by decide +kernel
theorem dX2_init_21 : decode cX2_init 21 = .ok (.iconst 0, 1) := by decide +kernel
theorem dX2_init_22 : decode cX2_init 22 = .ok (.istore_n 1, 1) := by decide +kernel
theorem dX2_init_23 : decode cX2_init 23 = .ok (.iload_n 1, 1) := by decide +kernel
theorem dX2_init_24 : decode cX2_init 24 = .ok (.aload_n 0, 1) := by decide +kernel
theorem dX2_init_25 : decode cX2_init 25 = .ok (.getfield 11, 3) := by decide +kernel
theorem dX2_init_28 : decode cX2_init 28 = .ok (.arraylength, 1) := by decide +kernel
theorem dX2_init_29 : decode cX2_init 29 = .ok (.if_icmp .ge 22, 3) := by decide +kernel
theorem dX2_init_32 : decode cX2_init 32 = .ok (.aload_n 0, 1) := by decide +kernel
theorem dX2_init_33 : decode cX2_init 33 = .ok (.getfield 11, 3) := by decide +kernel
theorem dX2_init_36 : decode cX2_init 36 = .ok (.iload_n 1, 1) := by decide +kernel
theorem dX2_init_37 : decode cX2_init 37 = .ok (.new 9, 3) := by decide +kernel
theorem dX2_init_40 : decode cX2_init 40 = .ok (.dup, 1) := by decide +kernel
theorem dX2_init_41 : decode cX2_init 41 = .ok (.invokespecial 20, 3) := by decide +kernel
theorem dX2_init_44 : decode cX2_init 44 = .ok (.aastore, 1) := by decide +kernel
theorem dX2_init_45 : decode cX2_init 45 = .ok (.iinc 1 1, 3) := by decide +kernel
theorem dX2_init_48 : decode cX2_init 48 = .ok (.goto (-25), 3) := by decide +kernel
theorem dX2_init_51 : decode cX2_init 51 = .ok (.iconst 0, 1) := by decide +kernel
theorem dX2_init_52 : decode cX2_init 52 = .ok (.istore_n 1, 1) := by decide +kernel
theorem dX2_init_53 : decode cX2_init 53 = .ok (.iload_n 1, 1) := by decide +kernel
theorem dX2_init_54 : decode cX2_init 54 = .ok (.aload_n 0, 1) := by decide +kernel
theorem dX2_init_55 : decode cX2_init 55 = .ok (.getfield 17, 3) := by decide +kernel
theorem dX2_init_58 : decode cX2_init 58 = .ok (.arraylength, 1) := by decide +kernel
theorem dX2_init_59 : decode cX2_init 59 = .ok (.if_icmp .ge 22, 3) := by decide +kernel
theorem dX2_init_62 : decode cX2_init 62 = .ok (.aload_n 0, 1) := by decide +kernel
theorem dX2_init_63 : decode cX2_init 63 = .ok (.getfield 17, 3) := by decide +kernel
theorem dX2_init_66 : decode cX2_init 66 = .ok (.iload_n 1, 1) := by decide +kernel
theorem dX2_init_67 : decode cX2_init 67 = .ok (.new 9, 3) := by decide +kernel
theorem dX2_init_70 : decode cX2_init 70 = .ok (.dup, 1) := by decide +kernel
theorem dX2_init_71 : decode cX2_init 71 = .ok (.invokespecial 20, 3) := by decide +kernel
theorem dX2_init_74 : decode cX2_init 74 = .ok (.aastore, 1) := by decide +kernel
theorem dX2_init_75 : decode cX2_init 75 = .ok (.iinc 1 1, 3) := by decide +kernel
theorem dX2_init_78 : decode cX2_init 78 = .ok (.goto (-25), 3) := by decide +kernel
theorem dX2_init_81 : decode cX2_init 81 = .ok (.return_, 1) := by decide +kernel
theorem dX2_thinkOf_0 : decode cX2_thinkOf 0 = .ok (.aload_n 0, 1) := by decide +kernel
theorem dX2_thinkOf_1 : decode cX2_thinkOf 1 = .ok (.aload_n 1, 1) := by decide +kernel
theorem dX2_thinkOf_2 : decode cX2_thinkOf 2 = .ok (.getfield 21, 3) := by decide +kernel
theorem dX2_thinkOf_5 : decode cX2_thinkOf 5 = .ok (.putfield 27, 3) := by decide +kernel
theorem dX2_thinkOf_8 : decode cX2_thinkOf 8 = .ok (.aload_n 0, 1) := by decide +kernel
theorem dX2_thinkOf_9 : decode cX2_thinkOf 9 = .ok (.iload_n 2, 1) := by decide +kernel
theorem dX2_thinkOf_10 : decode cX2_thinkOf 10 = .ok (.putfield 28, 3) := by decide +kernel
theorem dX2_thinkOf_13 : decode cX2_thinkOf 13 = .ok (.aload_n 0, 1) := by decide +kernel
theorem dX2_thinkOf_14 : decode cX2_thinkOf 14 = .ok (.iload_n 3, 1) := by decide +kernel
theorem dX2_thinkOf_15 : decode cX2_thinkOf 15 = .ok (.putfield 31, 3) := by decide +kernel
theorem dX2_thinkOf_18 : decode cX2_thinkOf 18 = .ok (.iconst 0, 1) := by decide +kernel
theorem dX2_thinkOf_19 : decode cX2_thinkOf 19 = .ok (.istore 4, 2) := by decide +kernel
theorem dX2_thinkOf_21 : decode cX2_thinkOf 21 = .ok (.iload 4, 2) := by decide +kernel
theorem dX2_thinkOf_23 : decode cX2_thinkOf 23 = .ok (.aload_n 0, 1) := by decide +kernel
theorem dX2_thinkOf_24 : decode cX2_thinkOf 24 = .ok (.getfield 27, 3) := by decide +kernel
theorem dX2_thinkOf_27 : decode cX2_thinkOf 27 = .ok (.if_icmp .ge 29, 3) := by decide +kernel
theorem dX2_thinkOf_30 : decode cX2_thinkOf 30 = .ok (.aload_n 0, 1) := by decide +kernel
theorem dX2_thinkOf_31 : decode cX2_thinkOf 31 = .ok (.getfield 11, 3) := by decide +kernel
theorem dX2_thinkOf_34 : decode cX2_thinkOf 34 = .ok (.iload 4, 2) := by decide +kernel
theorem dX2_thinkOf_36 : decode cX2_thinkOf 36 = .ok (.aaload, 1) := by decide +kernel
theorem dX2_thinkOf_37 : decode cX2_thinkOf 37 = .ok (.aload_n 1, 1) := by decide +kernel
theorem dX2_thinkOf_38 : decode cX2_thinkOf 38 = .ok (.getfield 34, 3) := by decide +kernel
theorem dX2_thinkOf_41 : decode cX2_thinkOf 41 = .ok (.iload 4, 2) := by decide +kernel
theorem dX2_thinkOf_43 : decode cX2_thinkOf 43 = .ok (.aaload, 1) := by decide +kernel
theorem dX2_thinkOf_44 : decode cX2_thinkOf 44 = .ok (.getfield 37, 3) := by decide +kernel
theorem dX2_thinkOf_47 : decode cX2_thinkOf 47 = .ok (.invokevirtual 43, 3) := by decide +kernel
theorem dX2_thinkOf_50 : decode cX2_thinkOf 50 = .ok (.iinc 4 1, 3) := by decide +kernel
theorem dX2_thinkOf_53 : decode cX2_thinkOf 53 = .ok (.goto (-32), 3) := by decide +kernel
theorem dX2_thinkOf_56 : decode cX2_thinkOf 56 = .ok (.return_, 1) := by decide +kernel
theorem dX2_firstHarm_0 : decode cX2_firstHarm 0 = .ok (.iconst 0, 1) := by decide +kernel
theorem dX2_firstHarm_1 : decode cX2_firstHarm 1 = .ok (.istore_n 2, 1) := by decide +kernel
theorem dX2_firstHarm_2 : decode cX2_firstHarm 2 = .ok (.iload_n 2, 1) := by decide +kernel
theorem dX2_firstHarm_3 : decode cX2_firstHarm 3 = .ok (.iconst 2, 1) := by decide +kernel
theorem dX2_firstHarm_4 : decode cX2_firstHarm 4 = .ok (.iadd, 1) := by decide +kernel
theorem dX2_firstHarm_5 : decode cX2_firstHarm 5 = .ok (.aload_n 1, 1) := by decide +kernel
theorem dX2_firstHarm_6 : decode cX2_firstHarm 6 = .ok (.getfield 47, 3) := by decide +kernel
theorem dX2_firstHarm_9 : decode cX2_firstHarm 9 = .ok (.if_icmp .ge 49, 3) := by decide +kernel
theorem dX2_firstHarm_12 : decode cX2_firstHarm 12 = .ok (.aload_n 1, 1) := by decide +kernel
theorem dX2_firstHarm_13 : decode cX2_firstHarm 13 = .ok (.getfield 50, 3) := by decide +kernel
theorem dX2_firstHarm_16 : decode cX2_firstHarm 16 = .ok (.iload_n 2, 1) := by decide +kernel
theorem dX2_firstHarm_17 : decode cX2_firstHarm 17 = .ok (.iaload, 1) := by decide +kernel
theorem dX2_firstHarm_18 : decode cX2_firstHarm 18 = .ok (.istore_n 3, 1) := by decide +kernel
theorem dX2_firstHarm_19 : decode cX2_firstHarm 19 = .ok (.iload_n 3, 1) := by decide +kernel
theorem dX2_firstHarm_20 : decode cX2_firstHarm 20 = .ok (.ifCond .lt 28, 3) := by decide +kernel
theorem dX2_firstHarm_23 : decode cX2_firstHarm 23 = .ok (.iload_n 3, 1) := by decide +kernel
theorem dX2_firstHarm_24 : decode cX2_firstHarm 24 = .ok (.aload_n 0, 1) := by decide +kernel
theorem dX2_firstHarm_25 : decode cX2_firstHarm 25 = .ok (.getfield 27, 3) := by decide +kernel
theorem dX2_firstHarm_28 : decode cX2_firstHarm 28 = .ok (.if_icmp .ge 20, 3) := by decide +kernel
theorem dX2_firstHarm_31 : decode cX2_firstHarm 31 = .ok (.aload_n 0, 1) := by decide +kernel
theorem dX2_firstHarm_32 : decode cX2_firstHarm 32 = .ok (.aload_n 0, 1) := by decide +kernel
theorem dX2_firstHarm_33 : decode cX2_firstHarm 33 = .ok (.getfield 11, 3) := by decide +kernel
theorem dX2_firstHarm_36 : decode cX2_firstHarm 36 = .ok (.iload_n 3, 1) := by decide +kernel
theorem dX2_firstHarm_37 : decode cX2_firstHarm 37 = .ok (.aaload, 1) := by decide +kernel
theorem dX2_firstHarm_38 : decode cX2_firstHarm 38 = .ok (.aload_n 1, 1) := by decide +kernel
theorem dX2_firstHarm_39 : decode cX2_firstHarm 39 = .ok (.iload_n 2, 1) := by decide +kernel
theorem dX2_firstHarm_40 : decode cX2_firstHarm 40 = .ok (.iconst 1, 1) := by decide +kernel
theorem dX2_firstHarm_41 : decode cX2_firstHarm 41 = .ok (.iadd, 1) := by decide +kernel
theorem dX2_firstHarm_42 : decode cX2_firstHarm 42 = .ok (.invokevirtual 54, 3) := by decide +kernel
theorem dX2_firstHarm_45 : decode cX2_firstHarm 45 = .ok (.ifCond .ne 7, 3) := by decide +kernel
theorem dX2_firstHarm_48 : decode cX2_firstHarm 48 = .ok (.iload_n 2, 1) := by decide +kernel
theorem dX2_firstHarm_49 : decode cX2_firstHarm 49 = .ok (.iconst 3, 1) := by decide +kernel
theorem dX2_firstHarm_50 : decode cX2_firstHarm 50 = .ok (.idiv, 1) := by decide +kernel
theorem dX2_firstHarm_51 : decode cX2_firstHarm 51 = .ok (.ireturn, 1) := by decide +kernel
theorem dX2_firstHarm_52 : decode cX2_firstHarm 52 = .ok (.iinc 2 3, 3) := by decide +kernel
theorem dX2_firstHarm_55 : decode cX2_firstHarm 55 = .ok (.goto (-53), 3) := by decide +kernel
theorem dX2_firstHarm_58 : decode cX2_firstHarm 58 = .ok (.bipush (-4), 2) := by decide +kernel
theorem dX2_firstHarm_60 : decode cX2_firstHarm 60 = .ok (.ireturn, 1) := by decide +kernel
theorem dX2_countWays_0 : decode cX2_countWays 0 = .ok (.aload_n 0, 1) := by decide +kernel
theorem dX2_countWays_1 : decode cX2_countWays 1 = .ok (.iconst 0, 1) := by decide +kernel
theorem dX2_countWays_2 : decode cX2_countWays 2 = .ok (.putfield 58, 3) := by decide +kernel
theorem dX2_countWays_5 : decode cX2_countWays 5 = .ok (.aload_n 0, 1) := by decide +kernel
theorem dX2_countWays_6 : decode cX2_countWays 6 = .ok (.bipush (-4), 2) := by decide +kernel
theorem dX2_countWays_8 : decode cX2_countWays 8 = .ok (.putfield 61, 3) := by decide +kernel
theorem dX2_countWays_11 : decode cX2_countWays 11 = .ok (.aload_n 0, 1) := by decide +kernel
theorem dX2_countWays_12 : decode cX2_countWays 12 = .ok (.aload_n 1, 1) := by decide +kernel
theorem dX2_countWays_13 : decode cX2_countWays 13 = .ok (.iconst 0, 1) := by decide +kernel
theorem dX2_countWays_14 : decode cX2_countWays 14 = .ok (.iconst 0, 1) := by decide +kernel
theorem dX2_countWays_15 : decode cX2_countWays 15 = .ok (.invokestatic 64, 3) := by decide +kernel
theorem dX2_countWays_18 : decode cX2_countWays 18 = .ok (.return_, 1) := by decide +kernel
theorem dX2_spread_0 : decode cX2_spread 0 = .ok (.iconst 2, 1) := by decide +kernel
theorem dX2_spread_1 : decode cX2_spread 1 = .ok (.iload_n 2, 1) := by decide +kernel
theorem dX2_spread_2 : decode cX2_spread 2 = .ok (.imul, 1) := by decide +kernel
theorem dX2_spread_3 : decode cX2_spread 3 = .ok (.aload_n 1, 1) := by decide +kernel
theorem dX2_spread_4 : decode cX2_spread 4 = .ok (.getfield 47, 3) := by decide +kernel
theorem dX2_spread_7 : decode cX2_spread 7 = .ok (.if_icmp .lt 33, 3) := by decide +kernel
theorem dX2_spread_10 : decode cX2_spread 10 = .ok (.aload_n 0, 1) := by decide +kernel
theorem dX2_spread_11 : decode cX2_spread 11 = .ok (.aload_n 0, 1) := by decide +kernel
theorem dX2_spread_12 : decode cX2_spread 12 = .ok (.getfield 58, 3) := by decide +kernel
theorem dX2_spread_15 : decode cX2_spread 15 = .ok (.ifCond .ne 7, 3) := by decide +kernel
theorem dX2_spread_18 : decode cX2_spread 18 = .ok (.iload_n 3, 1) := by decide +kernel
theorem dX2_spread_19 : decode cX2_spread 19 = .ok (.goto 7, 3) := by decide +kernel
theorem dX2_spread_22 : decode cX2_spread 22 = .ok (.aload_n 0, 1) := by decide +kernel
theorem dX2_spread_23 : decode cX2_spread 23 = .ok (.getfield 61, 3) := by decide +kernel
theorem dX2_spread_26 : decode cX2_spread 26 = .ok (.putfield 61, 3) := by decide +kernel
theorem dX2_spread_29 : decode cX2_spread 29 = .ok (.aload_n 0, 1) := by decide +kernel
theorem dX2_spread_30 : decode cX2_spread 30 = .ok (.dup, 1) := by decide +kernel
theorem dX2_spread_31 : decode cX2_spread 31 = .ok (.getfield 58, 3) := by decide +kernel
theorem dX2_spread_34 : decode cX2_spread 34 = .ok (.iconst 1, 1) := by decide +kernel
theorem dX2_spread_35 : decode cX2_spread 35 = .ok (.iadd, 1) := by decide +kernel
theorem dX2_spread_36 : decode cX2_spread 36 = .ok (.putfield 58, 3) := by decide +kernel
theorem dX2_spread_39 : decode cX2_spread 39 = .ok (.return_, 1) := by decide +kernel
theorem dX2_spread_40 : decode cX2_spread 40 = .ok (.iload_n 2, 1) := by decide +kernel
theorem dX2_spread_41 : decode cX2_spread 41 = .ok (.aload_n 0, 1) := by decide +kernel
theorem dX2_spread_42 : decode cX2_spread 42 = .ok (.getfield 17, 3) := by decide +kernel
theorem dX2_spread_45 : decode cX2_spread 45 = .ok (.arraylength, 1) := by decide +kernel
theorem dX2_spread_46 : decode cX2_spread 46 = .ok (.if_icmp .lt 4, 3) := by decide +kernel
theorem dX2_spread_49 : decode cX2_spread 49 = .ok (.return_, 1) := by decide +kernel
theorem dX2_spread_50 : decode cX2_spread 50 = .ok (.aload_n 0, 1) := by decide +kernel
theorem dX2_spread_51 : decode cX2_spread 51 = .ok (.getfield 17, 3) := by decide +kernel
theorem dX2_spread_54 : decode cX2_spread 54 = .ok (.iload_n 2, 1) := by decide +kernel
theorem dX2_spread_55 : decode cX2_spread 55 = .ok (.aaload, 1) := by decide +kernel
theorem dX2_spread_56 : decode cX2_spread 56 = .ok (.astore 4, 2) := by decide +kernel
theorem dX2_spread_58 : decode cX2_spread 58 = .ok (.iconst 0, 1) := by decide +kernel
theorem dX2_spread_59 : decode cX2_spread 59 = .ok (.istore 5, 2) := by decide +kernel
theorem dX2_spread_61 : decode cX2_spread 61 = .ok (.iload 5, 2) := by decide +kernel
theorem dX2_spread_63 : decode cX2_spread 63 = .ok (.aload_n 0, 1) := by decide +kernel
theorem dX2_spread_64 : decode cX2_spread 64 = .ok (.getfield 27, 3) := by decide +kernel
theorem dX2_spread_67 : decode cX2_spread 67 = .ok (.if_icmp .ge 60, 3) := by decide +kernel
theorem dX2_spread_70 : decode cX2_spread 70 = .ok (.aload_n 0, 1) := by decide +kernel
theorem dX2_spread_71 : decode cX2_spread 71 = .ok (.getfield 11, 3) := by decide +kernel
theorem dX2_spread_74 : decode cX2_spread 74 = .ok (.iload 5, 2) := by decide +kernel
theorem dX2_spread_76 : decode cX2_spread 76 = .ok (.aaload, 1) := by decide +kernel
theorem dX2_spread_77 : decode cX2_spread 77 = .ok (.astore 6, 2) := by decide +kernel
theorem dX2_spread_79 : decode cX2_spread 79 = .ok (.aload 4, 2) := by decide +kernel
theorem dX2_spread_81 : decode cX2_spread 81 = .ok (.aload 6, 2) := by decide +kernel
theorem dX2_spread_83 : decode cX2_spread 83 = .ok (.invokevirtual 43, 3) := by decide +kernel
theorem dX2_spread_86 : decode cX2_spread 86 = .ok (.aload_n 0, 1) := by decide +kernel
theorem dX2_spread_87 : decode cX2_spread 87 = .ok (.aload 6, 2) := by decide +kernel
theorem dX2_spread_89 : decode cX2_spread 89 = .ok (.aload_n 1, 1) := by decide +kernel
theorem dX2_spread_90 : decode cX2_spread 90 = .ok (.iconst 2, 1) := by decide +kernel
theorem dX2_spread_91 : decode cX2_spread 91 = .ok (.iload_n 2, 1) := by decide +kernel
theorem dX2_spread_92 : decode cX2_spread 92 = .ok (.imul, 1) := by decide +kernel
theorem dX2_spread_93 : decode cX2_spread 93 = .ok (.invokevirtual 54, 3) := by decide +kernel
theorem dX2_spread_96 : decode cX2_spread 96 = .ok (.ifCond .eq 18, 3) := by decide +kernel
theorem dX2_spread_99 : decode cX2_spread 99 = .ok (.aload_n 0, 1) := by decide +kernel
theorem dX2_spread_100 : decode cX2_spread 100 = .ok (.aload_n 1, 1) := by decide +kernel
theorem dX2_spread_101 : decode cX2_spread 101 = .ok (.iload_n 2, 1) := by decide +kernel
theorem dX2_spread_102 : decode cX2_spread 102 = .ok (.iconst 1, 1) := by decide +kernel
theorem dX2_spread_103 : decode cX2_spread 103 = .ok (.iadd, 1) := by decide +kernel
theorem dX2_spread_104 : decode cX2_spread 104 = .ok (.bipush 10, 2) := by decide +kernel
theorem dX2_spread_106 : decode cX2_spread 106 = .ok (.iload_n 3, 1) := by decide +kernel
theorem dX2_spread_107 : decode cX2_spread 107 = .ok (.imul, 1) := by decide +kernel
theorem dX2_spread_108 : decode cX2_spread 108 = .ok (.iload 5, 2) := by decide +kernel
theorem dX2_spread_110 : decode cX2_spread 110 = .ok (.iadd, 1) := by decide +kernel
theorem dX2_spread_111 : decode cX2_spread 111 = .ok (.invokestatic 64, 3) := by decide +kernel
theorem dX2_spread_114 : decode cX2_spread 114 = .ok (.aload 6, 2) := by decide +kernel
theorem dX2_spread_116 : decode cX2_spread 116 = .ok (.aload 4, 2) := by decide +kernel
theorem dX2_spread_118 : decode cX2_spread 118 = .ok (.invokevirtual 43, 3) := by decide +kernel
theorem dX2_spread_121 : decode cX2_spread 121 = .ok (.iinc 5 1, 3) := by decide +kernel
theorem dX2_spread_124 : decode cX2_spread 124 = .ok (.goto (-63), 3) := by decide +kernel
theorem dX2_spread_127 : decode cX2_spread 127 = .ok (.return_, 1) := by decide +kernel
theorem dX2_staysGood_0 : decode cX2_staysGood 0 = .ok (.aload_n 1, 1) := by decide +kernel
theorem dX2_staysGood_1 : decode cX2_staysGood 1 = .ok (.invokevirtual 68, 3) := by decide +kernel
theorem dX2_staysGood_4 : decode cX2_staysGood 4 = .ok (.ifCond .ne 5, 3) := by decide +kernel
theorem dX2_staysGood_7 : decode cX2_staysGood 7 = .ok (.iconst 0, 1) := by decide +kernel
theorem dX2_staysGood_8 : decode cX2_staysGood 8 = .ok (.ireturn, 1) := by decide +kernel
theorem dX2_staysGood_9 : decode cX2_staysGood 9 = .ok (.aload_n 1, 1) := by decide +kernel
theorem dX2_staysGood_10 : decode cX2_staysGood 10 = .ok (.aload_n 2, 1) := by decide +kernel
theorem dX2_staysGood_11 : decode cX2_staysGood 11 = .ok (.iload_n 3, 1) := by decide +kernel
theorem dX2_staysGood_12 : decode cX2_staysGood 12 = .ok (.iconst 0, 1) := by decide +kernel
theorem dX2_staysGood_13 : decode cX2_staysGood 13 = .ok (.invokevirtual 72, 3) := by decide +kernel
theorem dX2_staysGood_16 : decode cX2_staysGood 16 = .ok (.aload_n 2, 1) := by decide +kernel
theorem dX2_staysGood_17 : decode cX2_staysGood 17 = .ok (.iload_n 3, 1) := by decide +kernel
theorem dX2_staysGood_18 : decode cX2_staysGood 18 = .ok (.iconst 1, 1) := by decide +kernel
theorem dX2_staysGood_19 : decode cX2_staysGood 19 = .ok (.iadd, 1) := by decide +kernel
theorem dX2_staysGood_20 : decode cX2_staysGood 20 = .ok (.iconst 0, 1) := by decide +kernel
theorem dX2_staysGood_21 : decode cX2_staysGood 21 = .ok (.invokevirtual 72, 3) := by decide +kernel
theorem dX2_staysGood_24 : decode cX2_staysGood 24 = .ok (.invokevirtual 76, 3) := by decide +kernel
theorem dX2_staysGood_27 : decode cX2_staysGood 27 = .ok (.aload_n 1, 1) := by decide +kernel
theorem dX2_staysGood_28 : decode cX2_staysGood 28 = .ok (.aload_n 0, 1) := by decide +kernel
theorem dX2_staysGood_29 : decode cX2_staysGood 29 = .ok (.getfield 28, 3) := by decide +kernel
theorem dX2_staysGood_32 : decode cX2_staysGood 32 = .ok (.aload_n 0, 1) := by decide +kernel
theorem dX2_staysGood_33 : decode cX2_staysGood 33 = .ok (.getfield 31, 3) := by decide +kernel
theorem dX2_staysGood_36 : decode cX2_staysGood 36 = .ok (.invokevirtual 80, 3) := by decide +kernel
theorem dX2_staysGood_39 : decode cX2_staysGood 39 = .ok (.ifCond .ne 7, 3) := by decide +kernel
theorem dX2_staysGood_42 : decode cX2_staysGood 42 = .ok (.iconst 1, 1) := by decide +kernel
theorem dX2_staysGood_43 : decode cX2_staysGood 43 = .ok (.goto 4, 3) := by decide +kernel
theorem dX2_staysGood_46 : decode cX2_staysGood 46 = .ok (.iconst 0, 1) := by decide +kernel
theorem dX2_staysGood_47 : decode cX2_staysGood 47 = .ok (.ireturn, 1) := by decide +kernel
theorem dX3_init_0 : decode cX3_init 0 = .ok (.aload_n 0, 1) := by decide +kernel
theorem dX3_init_1 : decode cX3_init 1 = .ok (.invokespecial 3, 3) := by decide +kernel
theorem dX3_init_4 : decode cX3_init 4 = .ok (.aload_n 0, 1) := by decide +kernel
theorem dX3_init_5 : decode cX3_init 5 = .ok (.new 9, 3) := by decide +kernel
theorem dX3_init_8 : decode cX3_init 8 = .ok (.dup, 1) := by decide +kernel
theorem dX3_init_9 : decode cX3_init 9 = .ok (.invokespecial 11, 3) := by decide +kernel
theorem dX3_init_12 : decode cX3_init 12 = .ok (.putfield 12, 3) := by decide +kernel
theorem dX3_init_15 : decode cX3_init 15 = .ok (.aload_n 0, 1) := by decide +kernel
theorem dX3_init_16 : decode cX3_init 16 = .ok (.bipush 12, 2) := by decide +kernel
theorem dX3_init_18 : decode cX3_init 18 = .ok (.newarray .int, 2) := by decide +kernel
theorem dX3_init_20 : decode cX3_init 20 = .ok (.putfield 18, 3) := by decide +kernel
theorem dX3_init_23 : decode cX3_init 23 = .ok (.aload_n 0, 1) := by decide +kernel
theorem dX3_init_24 : decode cX3_init 24 = .ok (.bipush 12, 2) := by decide +kernel
theorem dX3_init_26 : decode cX3_init 26 = .ok (.newarray .int, 2) := by decide +kernel
theorem dX3_init_28 : decode cX3_init 28 = .ok (.putfield 22, 3) := by decide +kernel
theorem dX3_init_31 : decode cX3_init 31 = .ok (.return_, 1) := by decide +kernel
theorem dX3_become_0 : decode cX3_become 0 = .ok (.aload_n 0, 1) := by decide +kernel
theorem dX3_become_1 : decode cX3_become 1 = .ok (.getfield 12, 3) := by decide +kernel
theorem dX3_become_4 : decode cX3_become 4 = .ok (.aload_n 1, 1) := by decide +kernel
theorem dX3_become_5 : decode cX3_become 5 = .ok (.getfield 12, 3) := by decide +kernel
theorem dX3_become_8 : decode cX3_become 8 = .ok (.invokevirtual 25, 3) := by decide +kernel
theorem dX3_become_11 : decode cX3_become 11 = .ok (.aload_n 1, 1) := by decide +kernel
theorem dX3_become_12 : decode cX3_become 12 = .ok (.getfield 18, 3) := by decide +kernel
theorem dX3_become_15 : decode cX3_become 15 = .ok (.iconst 0, 1) := by decide +kernel
theorem dX3_become_16 : decode cX3_become 16 = .ok (.aload_n 0, 1) := by decide +kernel
theorem dX3_become_17 : decode cX3_become 17 = .ok (.getfield 18, 3) := by decide +kernel
theorem dX3_become_20 : decode cX3_become 20 = .ok (.iconst 0, 1) := by decide +kernel
theorem dX3_become_21 : decode cX3_become 21 = .ok (.bipush 12, 2) := by decide +kernel
theorem dX3_become_23 : decode cX3_become 23 = .ok (.invokestatic 29, 3) := by decide +kernel
theorem dX3_become_26 : decode cX3_become 26 = .ok (.aload_n 1, 1) := by decide +kernel
theorem dX3_become_27 : decode cX3_become 27 = .ok (.getfield 22, 3) := by decide +kernel
theorem dX3_become_30 : decode cX3_become 30 = .ok (.iconst 0, 1) := by decide +kernel
theorem dX3_become_31 : decode cX3_become 31 = .ok (.aload_n 0, 1) := by decide +kernel
theorem dX3_become_32 : decode cX3_become 32 = .ok (.getfield 22, 3) := by decide +kernel
theorem dX3_become_35 : decode cX3_become 35 = .ok (.iconst 0, 1) := by decide +kernel
theorem dX3_become_36 : decode cX3_become 36 = .ok (.bipush 12, 2) := by decide +kernel
theorem dX3_become_38 : decode cX3_become 38 = .ok (.invokestatic 29, 3) := by decide +kernel
theorem dX3_become_41 : decode cX3_become 41 = .ok (.return_, 1) := by decide +kernel
theorem dX3_cookIn_0 : decode cX3_cookIn 0 = .ok (.aload_n 0, 1) := by decide +kernel
theorem dX3_cookIn_1 : decode cX3_cookIn 1 = .ok (.getfield 12, 3) := by decide +kernel
theorem dX3_cookIn_4 : decode cX3_cookIn 4 = .ok (.invokevirtual 35, 3) := by decide +kernel
theorem dX3_cookIn_7 : decode cX3_cookIn 7 = .ok (.ifCond .ne 5, 3) := by decide +kernel
theorem dX3_cookIn_10 : decode cX3_cookIn 10 = .ok (.iconst 0, 1) := by decide +kernel
theorem dX3_cookIn_11 : decode cX3_cookIn 11 = .ok (.ireturn, 1) := by decide +kernel
theorem dX3_cookIn_12 : decode cX3_cookIn 12 = .ok (.aload_n 0, 1) := by decide +kernel
theorem dX3_cookIn_13 : decode cX3_cookIn 13 = .ok (.getfield 18, 3) := by decide +kernel
theorem dX3_cookIn_16 : decode cX3_cookIn 16 = .ok (.aload_n 0, 1) := by decide +kernel
theorem dX3_cookIn_17 : decode cX3_cookIn 17 = .ok (.getfield 12, 3) := by decide +kernel
theorem dX3_cookIn_20 : decode cX3_cookIn 20 = .ok (.getfield 39, 3) := by decide +kernel
theorem dX3_cookIn_23 : decode cX3_cookIn 23 = .ok (.iload_n 1, 1) := by decide +kernel
theorem dX3_cookIn_24 : decode cX3_cookIn 24 = .ok (.iastore, 1) := by decide +kernel
theorem dX3_cookIn_25 : decode cX3_cookIn 25 = .ok (.aload_n 0, 1) := by decide +kernel
theorem dX3_cookIn_26 : decode cX3_cookIn 26 = .ok (.getfield 22, 3) := by decide +kernel
theorem dX3_cookIn_29 : decode cX3_cookIn 29 = .ok (.aload_n 0, 1) := by decide +kernel
theorem dX3_cookIn_30 : decode cX3_cookIn 30 = .ok (.getfield 12, 3) := by decide +kernel
theorem dX3_cookIn_33 : decode cX3_cookIn 33 = .ok (.getfield 39, 3) := by decide +kernel
theorem dX3_cookIn_36 : decode cX3_cookIn 36 = .ok (.iload_n 2, 1) := by decide +kernel
theorem dX3_cookIn_37 : decode cX3_cookIn 37 = .ok (.iastore, 1) := by decide +kernel
theorem dX3_cookIn_38 : decode cX3_cookIn 38 = .ok (.aload_n 0, 1) := by decide +kernel
theorem dX3_cookIn_39 : decode cX3_cookIn 39 = .ok (.getfield 12, 3) := by decide +kernel
theorem dX3_cookIn_42 : decode cX3_cookIn 42 = .ok (.iload_n 1, 1) := by decide +kernel
theorem dX3_cookIn_43 : decode cX3_cookIn 43 = .ok (.iload_n 2, 1) := by decide +kernel
theorem dX3_cookIn_44 : decode cX3_cookIn 44 = .ok (.invokevirtual 43, 3) := by decide +kernel
theorem dX3_cookIn_47 : decode cX3_cookIn 47 = .ok (.iconst 1, 1) := by decide +kernel
theorem dX3_cookIn_48 : decode cX3_cookIn 48 = .ok (.ireturn, 1) := by decide +kernel
theorem dX3_hasDish_0 : decode cX3_hasDish 0 = .ok (.iload_n 1, 1) := by decide +kernel
theorem dX3_hasDish_1 : decode cX3_hasDish 1 = .ok (.ifCond .lt 18, 3) := by decide +kernel
theorem dX3_hasDish_4 : decode cX3_hasDish 4 = .ok (.iload_n 1, 1) := by decide +kernel
theorem dX3_hasDish_5 : decode cX3_hasDish 5 = .ok (.aload_n 0, 1) := by decide +kernel
theorem dX3_hasDish_6 : decode cX3_hasDish 6 = .ok (.getfield 12, 3) := by decide +kernel
theorem dX3_hasDish_9 : decode cX3_hasDish 9 = .ok (.getfield 39, 3) := by decide +kernel
theorem dX3_hasDish_12 : decode cX3_hasDish 12 = .ok (.if_icmp .ge 7, 3) := by decide +kernel
theorem dX3_hasDish_15 : decode cX3_hasDish 15 = .ok (.iconst 1, 1) := by decide +kernel
theorem dX3_hasDish_16 : decode cX3_hasDish 16 = .ok (.goto 4, 3) := by decide +kernel
theorem dX3_hasDish_19 : decode cX3_hasDish 19 = .ok (.iconst 0, 1) := by decide +kernel
theorem dX3_hasDish_20 : decode cX3_hasDish 20 = .ok (.ireturn, 1) := by decide +kernel
theorem dX3_kindOf_0 : decode cX3_kindOf 0 = .ok (.aload_n 0, 1) := by decide +kernel
theorem dX3_kindOf_1 : decode cX3_kindOf 1 = .ok (.getfield 18, 3) := by decide +kernel
theorem dX3_kindOf_4 : decode cX3_kindOf 4 = .ok (.aload_n 0, 1) := by decide +kernel
theorem dX3_kindOf_5 : decode cX3_kindOf 5 = .ok (.getfield 12, 3) := by decide +kernel
theorem dX3_kindOf_8 : decode cX3_kindOf 8 = .ok (.getfield 39, 3) := by decide +kernel
theorem dX3_kindOf_11 : decode cX3_kindOf 11 = .ok (.iconst 1, 1) := by decide +kernel
theorem dX3_kindOf_12 : decode cX3_kindOf 12 = .ok (.isub, 1) := by decide +kernel
theorem dX3_kindOf_13 : decode cX3_kindOf 13 = .ok (.iload_n 1, 1) := by decide +kernel
theorem dX3_kindOf_14 : decode cX3_kindOf 14 = .ok (.isub, 1) := by decide +kernel
theorem dX3_kindOf_15 : decode cX3_kindOf 15 = .ok (.iaload, 1) := by decide +kernel
theorem dX3_kindOf_16 : decode cX3_kindOf 16 = .ok (.ireturn, 1) := by decide +kernel
theorem dX3_figureOf_0 : decode cX3_figureOf 0 = .ok (.aload_n 0, 1) := by decide +kernel
theorem dX3_figureOf_1 : decode cX3_figureOf 1 = .ok (.getfield 22, 3) := by decide +kernel
theorem dX3_figureOf_4 : decode cX3_figureOf 4 = .ok (.aload_n 0, 1) := by decide +kernel
theorem dX3_figureOf_5 : decode cX3_figureOf 5 = .ok (.getfield 12, 3) := by decide +kernel
theorem dX3_figureOf_8 : decode cX3_figureOf 8 = .ok (.getfield 39, 3) := by decide +kernel
theorem dX3_figureOf_11 : decode cX3_figureOf 11 = .ok (.iconst 1, 1) := by decide +kernel
theorem dX3_figureOf_12 : decode cX3_figureOf 12 = .ok (.isub, 1) := by decide +kernel
theorem dX3_figureOf_13 : decode cX3_figureOf 13 = .ok (.iload_n 1, 1) := by decide +kernel
theorem dX3_figureOf_14 : decode cX3_figureOf 14 = .ok (.isub, 1) := by decide +kernel
theorem dX3_figureOf_15 : decode cX3_figureOf 15 = .ok (.iaload, 1) := by decide +kernel
theorem dX3_figureOf_16 : decode cX3_figureOf 16 = .ok (.ireturn, 1) := by decide +kernel
theorem dX3_leftAbove_0 : decode cX3_leftAbove 0 = .ok (.lconst 1, 1) := by decide +kernel
theorem dX3_leftAbove_1 : decode cX3_leftAbove 1 = .ok (.lstore_n 2, 1) := by decide +kernel
theorem dX3_leftAbove_2 : decode cX3_leftAbove 2 = .ok (.iconst 0, 1) := by decide +kernel
theorem dX3_leftAbove_3 : decode cX3_leftAbove 3 = .ok (.istore 4, 2) := by decide +kernel
theorem dX3_leftAbove_5 : decode cX3_leftAbove 5 = .ok (.iload 4, 2) := by decide +kernel
theorem dX3_leftAbove_7 : decode cX3_leftAbove 7 = .ok (.iload_n 1, 1) := by decide +kernel
theorem dX3_leftAbove_8 : decode cX3_leftAbove 8 = .ok (.if_icmp .ge 22, 3) := by decide +kernel
theorem dX3_leftAbove_11 : decode cX3_leftAbove 11 = .ok (.lload_n 2, 1) := by decide +kernel
theorem dX3_leftAbove_12 : decode cX3_leftAbove 12 = .ok (.aload_n 0, 1) := by decide +kernel
theorem dX3_leftAbove_13 : decode cX3_leftAbove 13 = .ok (.iload 4, 2) := by decide +kernel
theorem dX3_leftAbove_15 : decode cX3_leftAbove 15 = .ok (.invokevirtual 47, 3) := by decide +kernel
theorem dX3_leftAbove_18 : decode cX3_leftAbove 18 = .ok (.invokestatic 51, 3) := by decide +kernel
theorem dX3_leftAbove_21 : decode cX3_leftAbove 21 = .ok (.i2l, 1) := by decide +kernel
theorem dX3_leftAbove_22 : decode cX3_leftAbove 22 = .ok (.lmul, 1) := by decide +kernel
theorem dX3_leftAbove_23 : decode cX3_leftAbove 23 = .ok (.lstore_n 2, 1) := by decide +kernel
theorem dX3_leftAbove_24 : decode cX3_leftAbove 24 = .ok (.iinc 4 1, 3) := by decide +kernel
theorem dX3_leftAbove_27 : decode cX3_leftAbove 27 = .ok (.goto (-22), 3) := by decide +kernel
theorem dX3_leftAbove_30 : decode cX3_leftAbove 30 = .ok (.lload_n 2, 1) := by decide +kernel
theorem dX3_leftAbove_31 : decode cX3_leftAbove 31 = .ok (.lreturn, 1) := by decide +kernel
theorem dX3_howManyOf_0 : decode cX3_howManyOf 0 = .ok (.iconst 0, 1) := by decide +kernel
theorem dX3_howManyOf_1 : decode cX3_howManyOf 1 = .ok (.istore_n 2, 1) := by decide +kernel
theorem dX3_howManyOf_2 : decode cX3_howManyOf 2 = .ok (.iconst 0, 1) := by decide +kernel
theorem dX3_howManyOf_3 : decode cX3_howManyOf 3 = .ok (.istore_n 3, 1) := by decide +kernel
theorem dX3_howManyOf_4 : decode cX3_howManyOf 4 = .ok (.iload_n 3, 1) := by decide +kernel
theorem dX3_howManyOf_5 : decode cX3_howManyOf 5 = .ok (.aload_n 0, 1) := by decide +kernel
theorem dX3_howManyOf_6 : decode cX3_howManyOf 6 = .ok (.getfield 12, 3) := by decide +kernel
theorem dX3_howManyOf_9 : decode cX3_howManyOf 9 = .ok (.getfield 39, 3) := by decide +kernel
theorem dX3_howManyOf_12 : decode cX3_howManyOf 12 = .ok (.if_icmp .ge 27, 3) := by decide +kernel
theorem dX3_howManyOf_15 : decode cX3_howManyOf 15 = .ok (.iload_n 2, 1) := by decide +kernel
theorem dX3_howManyOf_16 : decode cX3_howManyOf 16 = .ok (.aload_n 0, 1) := by decide +kernel
theorem dX3_howManyOf_17 : decode cX3_howManyOf 17 = .ok (.getfield 18, 3) := by decide +kernel
theorem dX3_howManyOf_20 : decode cX3_howManyOf 20 = .ok (.iload_n 3, 1) := by decide +kernel
theorem dX3_howManyOf_21 : decode cX3_howManyOf 21 = .ok (.iaload, 1) := by decide +kernel
theorem dX3_howManyOf_22 : decode cX3_howManyOf 22 = .ok (.iload_n 1, 1) := by decide +kernel
theorem dX3_howManyOf_23 : decode cX3_howManyOf 23 = .ok (.if_icmp .ne 7, 3) := by decide +kernel
theorem dX3_howManyOf_26 : decode cX3_howManyOf 26 = .ok (.iconst 1, 1) := by decide +kernel
theorem dX3_howManyOf_27 : decode cX3_howManyOf 27 = .ok (.goto 4, 3) := by decide +kernel
theorem dX3_howManyOf_30 : decode cX3_howManyOf 30 = .ok (.iconst 0, 1) := by decide +kernel
theorem dX3_howManyOf_31 : decode cX3_howManyOf 31 = .ok (.iadd, 1) := by decide +kernel
theorem dX3_howManyOf_32 : decode cX3_howManyOf 32 = .ok (.istore_n 2, 1) := by decide +kernel
theorem dX3_howManyOf_33 : decode cX3_howManyOf 33 = .ok (.iinc 3 1, 3) := by decide +kernel
theorem dX3_howManyOf_36 : decode cX3_howManyOf 36 = .ok (.goto (-32), 3) := by decide +kernel
theorem dX3_howManyOf_39 : decode cX3_howManyOf 39 = .ok (.iload_n 2, 1) := by decide +kernel
theorem dX3_howManyOf_40 : decode cX3_howManyOf 40 = .ok (.ireturn, 1) := by decide +kernel
theorem dX4_init_0 : decode cX4_init 0 = .ok (.aload_n 0, 1) := by decide +kernel
theorem dX4_init_1 : decode cX4_init 1 = .ok (.invokespecial 3, 3) := by decide +kernel
theorem dX4_init_4 : decode cX4_init 4 = .ok (.aload_n 0, 1) := by decide +kernel
theorem dX4_init_5 : decode cX4_init 5 = .ok (.bipush 100, 2) := by decide +kernel
theorem dX4_init_7 : decode cX4_init 7 = .ok (.newarray .int, 2) := by decide +kernel
theorem dX4_init_9 : decode cX4_init 9 = .ok (.putfield 9, 3) := by decide +kernel
theorem dX4_init_12 : decode cX4_init 12 = .ok (.return_, 1) := by decide +kernel
theorem dX4_holdNothing_0 : decode cX4_holdNothing 0 = .ok (.aload_n 0, 1) := by decide +kernel
theorem dX4_holdNothing_1 : decode cX4_holdNothing 1 = .ok (.iconst 0, 1) := by decide +kernel
theorem dX4_holdNothing_2 : decode cX4_holdNothing 2 = .ok (.putfield 15, 3) := by decide +kernel
theorem dX4_holdNothing_5 : decode cX4_holdNothing 5 = .ok (.return_, 1) := by decide +kernel
theorem dX4_holdDish_0 : decode cX4_holdDish 0 = .ok (.aload_n 0, 1) := by decide +kernel
theorem dX4_holdDish_1 : decode cX4_holdDish 1 = .ok (.iconst 1, 1) := by decide +kernel
theorem dX4_holdDish_2 : decode cX4_holdDish 2 = .ok (.putfield 15, 3) := by decide +kernel
theorem dX4_holdDish_5 : decode cX4_holdDish 5 = .ok (.aload_n 0, 1) := by decide +kernel
theorem dX4_holdDish_6 : decode cX4_holdDish 6 = .ok (.iload_n 1, 1) := by decide +kernel
theorem dX4_holdDish_7 : decode cX4_holdDish 7 = .ok (.putfield 19, 3) := by decide +kernel
theorem dX4_holdDish_10 : decode cX4_holdDish 10 = .ok (.aload_n 0, 1) := by decide +kernel
theorem dX4_holdDish_11 : decode cX4_holdDish 11 = .ok (.iload_n 2, 1) := by decide +kernel
theorem dX4_holdDish_12 : decode cX4_holdDish 12 = .ok (.putfield 22, 3) := by decide +kernel
theorem dX4_holdDish_15 : decode cX4_holdDish 15 = .ok (.return_, 1) := by decide +kernel
theorem dX4_holdRow_0 : decode cX4_holdRow 0 = .ok (.aload_n 0, 1) := by decide +kernel
theorem dX4_holdRow_1 : decode cX4_holdRow 1 = .ok (.iconst 2, 1) := by decide +kernel
theorem dX4_holdRow_2 : decode cX4_holdRow 2 = .ok (.putfield 15, 3) := by decide +kernel
theorem dX4_holdRow_5 : decode cX4_holdRow 5 = .ok (.aload_n 0, 1) := by decide +kernel
theorem dX4_holdRow_6 : decode cX4_holdRow 6 = .ok (.iload_n 1, 1) := by decide +kernel
theorem dX4_holdRow_7 : decode cX4_holdRow 7 = .ok (.putfield 25, 3) := by decide +kernel
theorem dX4_holdRow_10 : decode cX4_holdRow 10 = .ok (.aload_n 0, 1) := by decide +kernel
theorem dX4_holdRow_11 : decode cX4_holdRow 11 = .ok (.iload_n 2, 1) := by decide +kernel
theorem dX4_holdRow_12 : decode cX4_holdRow 12 = .ok (.putfield 28, 3) := by decide +kernel
theorem dX4_holdRow_15 : decode cX4_holdRow 15 = .ok (.iconst 0, 1) := by decide +kernel
theorem dX4_holdRow_16 : decode cX4_holdRow 16 = .ok (.istore_n 3, 1) := by decide +kernel
theorem dX4_holdRow_17 : decode cX4_holdRow 17 = .ok (.iload_n 3, 1) := by decide +kernel
theorem dX4_holdRow_18 : decode cX4_holdRow 18 = .ok (.aload_n 0, 1) := by decide +kernel
theorem dX4_holdRow_19 : decode cX4_holdRow 19 = .ok (.getfield 9, 3) := by decide +kernel
theorem dX4_holdRow_22 : decode cX4_holdRow 22 = .ok (.arraylength, 1) := by decide +kernel
theorem dX4_holdRow_23 : decode cX4_holdRow 23 = .ok (.if_icmp .ge 16, 3) := by decide +kernel
theorem dX4_holdRow_26 : decode cX4_holdRow 26 = .ok (.aload_n 0, 1) := by decide +kernel
theorem dX4_holdRow_27 : decode cX4_holdRow 27 = .ok (.getfield 9, 3) := by decide +kernel
theorem dX4_holdRow_30 : decode cX4_holdRow 30 = .ok (.iload_n 3, 1) := by decide +kernel
theorem dX4_holdRow_31 : decode cX4_holdRow 31 = .ok (.iconst 0, 1) := by decide +kernel
theorem dX4_holdRow_32 : decode cX4_holdRow 32 = .ok (.iastore, 1) := by decide +kernel
theorem dX4_holdRow_33 : decode cX4_holdRow 33 = .ok (.iinc 3 1, 3) := by decide +kernel
theorem dX4_holdRow_36 : decode cX4_holdRow 36 = .ok (.goto (-19), 3) := by decide +kernel
theorem dX4_holdRow_39 : decode cX4_holdRow 39 = .ok (.return_, 1) := by decide +kernel
theorem dX4_holdsNothing_0 : decode cX4_holdsNothing 0 = .ok (.aload_n 0, 1) := by decide +kernel
theorem dX4_holdsNothing_1 : decode cX4_holdsNothing 1 = .ok (.getfield 15, 3) := by decide +kernel
theorem dX4_holdsNothing_4 : decode cX4_holdsNothing 4 = .ok (.ifCond .ne 7, 3) := by decide +kernel
theorem dX4_holdsNothing_7 : decode cX4_holdsNothing 7 = .ok (.iconst 1, 1) := by decide +kernel
theorem dX4_holdsNothing_8 : decode cX4_holdsNothing 8 = .ok (.goto 4, 3) := by decide +kernel
theorem dX4_holdsNothing_11 : decode cX4_holdsNothing 11 = .ok (.iconst 0, 1) := by decide +kernel
theorem dX4_holdsNothing_12 : decode cX4_holdsNothing 12 = .ok (.ireturn, 1) := by decide +kernel
theorem dX4_holdsRow_0 : decode cX4_holdsRow 0 = .ok (.aload_n 0, 1) := by decide +kernel
theorem dX4_holdsRow_1 : decode cX4_holdsRow 1 = .ok (.getfield 15, 3) := by decide +kernel
theorem dX4_holdsRow_4 : decode cX4_holdsRow 4 = .ok (.iconst 2, 1) := by decide +kernel
theorem dX4_holdsRow_5 : decode cX4_holdsRow 5 = .ok (.if_icmp .ne 7, 3) := by decide +kernel
theorem dX4_holdsRow_8 : decode cX4_holdsRow 8 = .ok (.iconst 1, 1) := by decide +kernel
theorem dX4_holdsRow_9 : decode cX4_holdsRow 9 = .ok (.goto 4, 3) := by decide +kernel
theorem dX4_holdsRow_12 : decode cX4_holdsRow 12 = .ok (.iconst 0, 1) := by decide +kernel
theorem dX4_holdsRow_13 : decode cX4_holdsRow 13 = .ok (.ireturn, 1) := by decide +kernel
theorem dX4_hasElement_0 : decode cX4_hasElement 0 = .ok (.iload_n 1, 1) := by decide +kernel
theorem dX4_hasElement_1 : decode cX4_hasElement 1 = .ok (.ifCond .lt 15, 3) := by decide +kernel
theorem dX4_hasElement_4 : decode cX4_hasElement 4 = .ok (.iload_n 1, 1) := by decide +kernel
theorem dX4_hasElement_5 : decode cX4_hasElement 5 = .ok (.aload_n 0, 1) := by decide +kernel
theorem dX4_hasElement_6 : decode cX4_hasElement 6 = .ok (.getfield 28, 3) := by decide +kernel
theorem dX4_hasElement_9 : decode cX4_hasElement 9 = .ok (.if_icmp .ge 7, 3) := by decide +kernel
theorem dX4_hasElement_12 : decode cX4_hasElement 12 = .ok (.iconst 1, 1) := by decide +kernel
theorem dX4_hasElement_13 : decode cX4_hasElement 13 = .ok (.goto 4, 3) := by decide +kernel
theorem dX4_hasElement_16 : decode cX4_hasElement 16 = .ok (.iconst 0, 1) := by decide +kernel
theorem dX4_hasElement_17 : decode cX4_hasElement 17 = .ok (.ireturn, 1) := by decide +kernel
theorem dX4_hasElements_0 : decode cX4_hasElements 0 = .ok (.iload_n 1, 1) := by decide +kernel
theorem dX4_hasElements_1 : decode cX4_hasElements 1 = .ok (.ifCond .lt 29, 3) := by decide +kernel
theorem dX4_hasElements_4 : decode cX4_hasElements 4 = .ok (.iload_n 1, 1) := by decide +kernel
theorem dX4_hasElements_5 : decode cX4_hasElements 5 = .ok (.aload_n 0, 1) := by decide +kernel
theorem dX4_hasElements_6 : decode cX4_hasElements 6 = .ok (.getfield 28, 3) := by decide +kernel
theorem dX4_hasElements_9 : decode cX4_hasElements 9 = .ok (.if_icmp .gt 21, 3) := by decide +kernel
theorem dX4_hasElements_12 : decode cX4_hasElements 12 = .ok (.iload_n 2, 1) := by decide +kernel
theorem dX4_hasElements_13 : decode cX4_hasElements 13 = .ok (.ifCond .lt 17, 3) := by decide +kernel
theorem dX4_hasElements_16 : decode cX4_hasElements 16 = .ok (.iload_n 2, 1) := by decide +kernel
theorem dX4_hasElements_17 : decode cX4_hasElements 17 = .ok (.aload_n 0, 1) := by decide +kernel
theorem dX4_hasElements_18 : decode cX4_hasElements 18 = .ok (.getfield 28, 3) := by decide +kernel
theorem dX4_hasElements_21 : decode cX4_hasElements 21 = .ok (.iload_n 1, 1) := by decide +kernel
theorem dX4_hasElements_22 : decode cX4_hasElements 22 = .ok (.isub, 1) := by decide +kernel
theorem dX4_hasElements_23 : decode cX4_hasElements 23 = .ok (.if_icmp .gt 7, 3) := by decide +kernel
theorem dX4_hasElements_26 : decode cX4_hasElements 26 = .ok (.iconst 1, 1) := by decide +kernel
theorem dX4_hasElements_27 : decode cX4_hasElements 27 = .ok (.goto 4, 3) := by decide +kernel
theorem dX4_hasElements_30 : decode cX4_hasElements 30 = .ok (.iconst 0, 1) := by decide +kernel
theorem dX4_hasElements_31 : decode cX4_hasElements 31 = .ok (.ireturn, 1) := by decide +kernel
theorem dX4_elementOr_0 : decode cX4_elementOr 0 = .ok (.aload_n 0, 1) := by decide +kernel
theorem dX4_elementOr_1 : decode cX4_elementOr 1 = .ok (.iload_n 1, 1) := by decide +kernel
theorem dX4_elementOr_2 : decode cX4_elementOr 2 = .ok (.invokevirtual 31, 3) := by decide +kernel
theorem dX4_elementOr_5 : decode cX4_elementOr 5 = .ok (.ifCond .eq 12, 3) := by decide +kernel
theorem dX4_elementOr_8 : decode cX4_elementOr 8 = .ok (.aload_n 0, 1) := by decide +kernel
theorem dX4_elementOr_9 : decode cX4_elementOr 9 = .ok (.getfield 9, 3) := by decide +kernel
theorem dX4_elementOr_12 : decode cX4_elementOr 12 = .ok (.iload_n 1, 1) := by decide +kernel
theorem dX4_elementOr_13 : decode cX4_elementOr 13 = .ok (.iaload, 1) := by decide +kernel
theorem dX4_elementOr_14 : decode cX4_elementOr 14 = .ok (.goto 4, 3) := by decide +kernel
theorem dX4_elementOr_17 : decode cX4_elementOr 17 = .ok (.iload_n 2, 1) := by decide +kernel
theorem dX4_elementOr_18 : decode cX4_elementOr 18 = .ok (.ireturn, 1) := by decide +kernel
theorem dX4_digitAt_0 : decode cX4_digitAt 0 = .ok (.aload_n 0, 1) := by decide +kernel
theorem dX4_digitAt_1 : decode cX4_digitAt 1 = .ok (.iload_n 1, 1) := by decide +kernel
theorem dX4_digitAt_2 : decode cX4_digitAt 2 = .ok (.bipush 47, 2) := by decide +kernel
theorem dX4_digitAt_4 : decode cX4_digitAt 4 = .ok (.invokevirtual 35, 3) := by decide +kernel
theorem dX4_digitAt_7 : decode cX4_digitAt 7 = .ok (.bipush 48, 2) := by decide +kernel
theorem dX4_digitAt_9 : decode cX4_digitAt 9 = .ok (.isub, 1) := by decide +kernel
theorem dX4_digitAt_10 : decode cX4_digitAt 10 = .ok (.ireturn, 1) := by decide +kernel
theorem dX4_hasDishAt_0 : decode cX4_hasDishAt 0 = .ok (.aload_n 0, 1) := by decide +kernel
theorem dX4_hasDishAt_1 : decode cX4_hasDishAt 1 = .ok (.iload_n 1, 1) := by decide +kernel
theorem dX4_hasDishAt_2 : decode cX4_hasDishAt 2 = .ok (.bipush (-4), 2) := by decide +kernel
theorem dX4_hasDishAt_4 : decode cX4_hasDishAt 4 = .ok (.invokevirtual 35, 3) := by decide +kernel
theorem dX4_hasDishAt_7 : decode cX4_hasDishAt 7 = .ok (.invokestatic 39, 3) := by decide +kernel
theorem dX4_hasDishAt_10 : decode cX4_hasDishAt 10 = .ok (.ifCond .ne 22, 3) := by decide +kernel
theorem dX4_hasDishAt_13 : decode cX4_hasDishAt 13 = .ok (.aload_n 0, 1) := by decide +kernel
theorem dX4_hasDishAt_14 : decode cX4_hasDishAt 14 = .ok (.iload_n 1, 1) := by decide +kernel
theorem dX4_hasDishAt_15 : decode cX4_hasDishAt 15 = .ok (.iconst 1, 1) := by decide +kernel
theorem dX4_hasDishAt_16 : decode cX4_hasDishAt 16 = .ok (.iadd, 1) := by decide +kernel
theorem dX4_hasDishAt_17 : decode cX4_hasDishAt 17 = .ok (.bipush (-4), 2) := by decide +kernel
theorem dX4_hasDishAt_19 : decode cX4_hasDishAt 19 = .ok (.invokevirtual 35, 3) := by decide +kernel
theorem dX4_hasDishAt_22 : decode cX4_hasDishAt 22 = .ok (.invokestatic 42, 3) := by decide +kernel
theorem dX4_hasDishAt_25 : decode cX4_hasDishAt 25 = .ok (.ifCond .ne 7, 3) := by decide +kernel
theorem dX4_hasDishAt_28 : decode cX4_hasDishAt 28 = .ok (.iconst 1, 1) := by decide +kernel
theorem dX4_hasDishAt_29 : decode cX4_hasDishAt 29 = .ok (.goto 4, 3) := by decide +kernel
theorem dX4_hasDishAt_32 : decode cX4_hasDishAt 32 = .ok (.iconst 0, 1) := by decide +kernel
theorem dX4_hasDishAt_33 : decode cX4_hasDishAt 33 = .ok (.ireturn, 1) := by decide +kernel
theorem dX4_lowestBits_0 : decode cX4_lowestBits 0 = .ok (.aload_n 0, 1) := by decide +kernel
theorem dX4_lowestBits_1 : decode cX4_lowestBits 1 = .ok (.getfield 25, 3) := by decide +kernel
theorem dX4_lowestBits_4 : decode cX4_lowestBits 4 = .ok (.ifCond .ne 6, 3) := by decide +kernel
theorem dX4_lowestBits_7 : decode cX4_lowestBits 7 = .ok (.iload_n 1, 1) := by decide +kernel
theorem dX4_lowestBits_8 : decode cX4_lowestBits 8 = .ok (.i2b, 1) := by decide +kernel
theorem dX4_lowestBits_9 : decode cX4_lowestBits 9 = .ok (.ireturn, 1) := by decide +kernel
theorem dX4_lowestBits_10 : decode cX4_lowestBits 10 = .ok (.aload_n 0, 1) := by decide +kernel
theorem dX4_lowestBits_11 : decode cX4_lowestBits 11 = .ok (.getfield 25, 3) := by decide +kernel
theorem dX4_lowestBits_14 : decode cX4_lowestBits 14 = .ok (.iconst 1, 1) := by decide +kernel
theorem dX4_lowestBits_15 : decode cX4_lowestBits 15 = .ok (.if_icmp .ne 8, 3) := by decide +kernel
theorem dX4_lowestBits_18 : decode cX4_lowestBits 18 = .ok (.iload_n 1, 1) := by decide +kernel
theorem dX4_lowestBits_19 : decode cX4_lowestBits 19 = .ok (.i2s, 1) := by decide +kernel
theorem dX4_lowestBits_20 : decode cX4_lowestBits 20 = .ok (.goto 4, 3) := by decide +kernel
theorem dX4_lowestBits_23 : decode cX4_lowestBits 23 = .ok (.iload_n 1, 1) := by decide +kernel
theorem dX4_lowestBits_24 : decode cX4_lowestBits 24 = .ok (.ireturn, 1) := by decide +kernel
theorem dX4_leastNumber_0 : decode cX4_leastNumber 0 = .ok (.aload_n 0, 1) := by decide +kernel
theorem dX4_leastNumber_1 : decode cX4_leastNumber 1 = .ok (.getfield 25, 3) := by decide +kernel
theorem dX4_leastNumber_4 : decode cX4_leastNumber 4 = .ok (.ifCond .ne 6, 3) := by decide +kernel
theorem dX4_leastNumber_7 : decode cX4_leastNumber 7 = .ok (.bipush (-128), 2) := by decide +kernel
theorem dX4_leastNumber_9 : decode cX4_leastNumber 9 = .ok (.ireturn, 1) := by decide +kernel
theorem dX4_leastNumber_10 : decode cX4_leastNumber 10 = .ok (.aload_n 0, 1) := by decide +kernel
theorem dX4_leastNumber_11 : decode cX4_leastNumber 11 = .ok (.getfield 25, 3) := by decide +kernel
theorem dX4_leastNumber_14 : decode cX4_leastNumber 14 = .ok (.iconst 1, 1) := by decide +kernel
theorem dX4_leastNumber_15 : decode cX4_leastNumber 15 = .ok (.if_icmp .ne 9, 3) := by decide +kernel
theorem dX4_leastNumber_18 : decode cX4_leastNumber 18 = .ok (.sipush (-32768), 3) := by decide +kernel
theorem dX4_leastNumber_21 : decode cX4_leastNumber 21 = .ok (.goto 5, 3) := by decide +kernel
theorem dX4_leastNumber_24 : decode cX4_leastNumber 24 = .ok (.ldc 45, 2) := by decide +kernel
theorem dX4_leastNumber_26 : decode cX4_leastNumber 26 = .ok (.ireturn, 1) := by decide +kernel
theorem dX5_init_0 : decode cX5_init 0 = .ok (.aload_n 0, 1) := by decide +kernel
theorem dX5_init_1 : decode cX5_init 1 = .ok (.invokespecial 1, 3) := by decide +kernel
theorem dX5_init_4 : decode cX5_init 4 = .ok (.aload_n 0, 1) := by decide +kernel
theorem dX5_init_5 : decode cX5_init 5 = .ok (.new 7, 3) := by decide +kernel
theorem dX5_init_8 : decode cX5_init 8 = .ok (.dup, 1) := by decide +kernel
theorem dX5_init_9 : decode cX5_init 9 = .ok (.invokespecial 9, 3) := by decide +kernel
theorem dX5_init_12 : decode cX5_init 12 = .ok (.putfield 10, 3) := by decide +kernel
theorem dX5_init_15 : decode cX5_init 15 = .ok (.aload_n 0, 1) := by decide +kernel
theorem dX5_init_16 : decode cX5_init 16 = .ok (.new 7, 3) := by decide +kernel
theorem dX5_init_19 : decode cX5_init 19 = .ok (.dup, 1) := by decide +kernel
theorem dX5_init_20 : decode cX5_init 20 = .ok (.invokespecial 9, 3) := by decide +kernel
theorem dX5_init_23 : decode cX5_init 23 = .ok (.putfield 16, 3) := by decide +kernel
theorem dX5_init_26 : decode cX5_init 26 = .ok (.aload_n 0, 1) := by decide +kernel
theorem dX5_init_27 : decode cX5_init 27 = .ok (.new 7, 3) := by decide +kernel
theorem dX5_init_30 : decode cX5_init 30 = .ok (.dup, 1) := by decide +kernel
theorem dX5_init_31 : decode cX5_init 31 = .ok (.invokespecial 9, 3) := by decide +kernel
theorem dX5_init_34 : decode cX5_init 34 = .ok (.putfield 19, 3) := by decide +kernel
theorem dX5_init_37 : decode cX5_init 37 = .ok (.aload_n 0, 1) := by decide +kernel
theorem dX5_init_38 : decode cX5_init 38 = .ok (.new 22, 3) := by decide +kernel
theorem dX5_init_41 : decode cX5_init 41 = .ok (.dup, 1) := by decide +kernel
theorem dX5_init_42 : decode cX5_init 42 = .ok (.invokespecial 24, 3) := by decide +kernel
theorem dX5_init_45 : decode cX5_init 45 = .ok (.putfield 25, 3) := by decide +kernel
theorem dX5_init_48 : decode cX5_init 48 = .ok (.aload_n 0, 1) := by decide +kernel
theorem dX5_init_49 : decode cX5_init 49 = .ok (.new 29, 3) := by decide +kernel
theorem dX5_init_52 : decode cX5_init 52 = .ok (.dup, 1) := by decide +kernel
theorem dX5_init_53 : decode cX5_init 53 = .ok (.invokespecial 31, 3) := by decide +kernel
theorem dX5_init_56 : decode cX5_init 56 = .ok (.putfield 32, 3) := by decide +kernel
theorem dX5_init_59 : decode cX5_init 59 = .ok (.aload_n 0, 1) := by decide +kernel
theorem dX5_init_60 : decode cX5_init 60 = .ok (.bipush 6, 2) := by decide +kernel
theorem dX5_init_62 : decode cX5_init 62 = .ok (.newarray .int, 2) := by decide +kernel
theorem dX5_init_64 : decode cX5_init 64 = .ok (.putfield 36, 3) := by decide +kernel
theorem dX5_init_67 : decode cX5_init 67 = .ok (.aload_n 0, 1) := by decide +kernel
theorem dX5_init_68 : decode cX5_init 68 = .ok (.bipush 8, 2) := by decide +kernel
theorem dX5_init_70 : decode cX5_init 70 = .ok (.anewarray 40, 3) := by decide +kernel
theorem dX5_init_73 : decode cX5_init 73 = .ok (.putfield 42, 3) := by decide +kernel
theorem dX5_init_76 : decode cX5_init 76 = .ok (.iconst 0, 1) := by decide +kernel
theorem dX5_init_77 : decode cX5_init 77 = .ok (.istore_n 1, 1) := by decide +kernel
theorem dX5_init_78 : decode cX5_init 78 = .ok (.iload_n 1, 1) := by decide +kernel
theorem dX5_init_79 : decode cX5_init 79 = .ok (.aload_n 0, 1) := by decide +kernel
theorem dX5_init_80 : decode cX5_init 80 = .ok (.getfield 42, 3) := by decide +kernel
theorem dX5_init_83 : decode cX5_init 83 = .ok (.arraylength, 1) := by decide +kernel
theorem dX5_init_84 : decode cX5_init 84 = .ok (.if_icmp .ge 22, 3) := by decide +kernel
theorem dX5_init_87 : decode cX5_init 87 = .ok (.aload_n 0, 1) := by decide +kernel
theorem dX5_init_88 : decode cX5_init 88 = .ok (.getfield 42, 3) := by decide +kernel
theorem dX5_init_91 : decode cX5_init 91 = .ok (.iload_n 1, 1) := by decide +kernel
theorem dX5_init_92 : decode cX5_init 92 = .ok (.new 40, 3) := by decide +kernel
theorem dX5_init_95 : decode cX5_init 95 = .ok (.dup, 1) := by decide +kernel
theorem dX5_init_96 : decode cX5_init 96 = .ok (.invokespecial 46, 3) := by decide +kernel
theorem dX5_init_99 : decode cX5_init 99 = .ok (.aastore, 1) := by decide +kernel
theorem dX5_init_100 : decode cX5_init 100 = .ok (.iinc 1 1, 3) := by decide +kernel
theorem dX5_init_103 : decode cX5_init 103 = .ok (.goto (-25), 3) := by decide +kernel
theorem dX5_init_106 : decode cX5_init 106 = .ok (.return_, 1) := by decide +kernel
theorem dX5_kitchen_0 : decode cX5_kitchen 0 = .ok (.aload_n 0, 1) := by decide +kernel
theorem dX5_kitchen_1 : decode cX5_kitchen 1 = .ok (.iload_n 1, 1) := by decide +kernel
theorem dX5_kitchen_2 : decode cX5_kitchen 2 = .ok (.invokevirtual 47, 3) := by decide +kernel
theorem dX5_kitchen_5 : decode cX5_kitchen 5 = .ok (.istore_n 2, 1) := by decide +kernel
theorem dX5_kitchen_6 : decode cX5_kitchen 6 = .ok (.iload_n 2, 1) := by decide +kernel
theorem dX5_kitchen_7 : decode cX5_kitchen 7 = .ok (.ifCond .eq 5, 3) := by decide +kernel
theorem dX5_kitchen_10 : decode cX5_kitchen 10 = .ok (.iload_n 2, 1) := by decide +kernel
theorem dX5_kitchen_11 : decode cX5_kitchen 11 = .ok (.ireturn, 1) := by decide +kernel
theorem dX5_kitchen_12 : decode cX5_kitchen 12 = .ok (.aload_n 0, 1) := by decide +kernel
theorem dX5_kitchen_13 : decode cX5_kitchen 13 = .ok (.getfield 42, 3) := by decide +kernel
theorem dX5_kitchen_16 : decode cX5_kitchen 16 = .ok (.iload_n 1, 1) := by decide +kernel
theorem dX5_kitchen_17 : decode cX5_kitchen 17 = .ok (.aaload, 1) := by decide +kernel
theorem dX5_kitchen_18 : decode cX5_kitchen 18 = .ok (.astore_n 3, 1) := by decide +kernel
theorem dX5_kitchen_19 : decode cX5_kitchen 19 = .ok (.aload_n 3, 1) := by decide +kernel
theorem dX5_kitchen_20 : decode cX5_kitchen 20 = .ok (.invokestatic 51, 3) := by decide +kernel
theorem dX5_kitchen_23 : decode cX5_kitchen 23 = .ok (.istore 4, 2) := by decide +kernel
theorem dX5_kitchen_25 : decode cX5_kitchen 25 = .ok (.iload 4, 2) := by decide +kernel
theorem dX5_kitchen_27 : decode cX5_kitchen 27 = .ok (.ifCond .lt 10, 3) := by decide +kernel
theorem dX5_kitchen_30 : decode cX5_kitchen 30 = .ok (.sipush (-1000), 3) := by decide +kernel
theorem dX5_kitchen_33 : decode cX5_kitchen 33 = .ok (.iload 4, 2) := by decide +kernel
theorem dX5_kitchen_35 : decode cX5_kitchen 35 = .ok (.isub, 1) := by decide +kernel
theorem dX5_kitchen_36 : decode cX5_kitchen 36 = .ok (.ireturn, 1) := by decide +kernel
theorem dX5_kitchen_37 : decode cX5_kitchen 37 = .ok (.aload_n 0, 1) := by decide +kernel
theorem dX5_kitchen_38 : decode cX5_kitchen 38 = .ok (.getfield 16, 3) := by decide +kernel
theorem dX5_kitchen_41 : decode cX5_kitchen 41 = .ok (.aload_n 0, 1) := by decide +kernel
theorem dX5_kitchen_42 : decode cX5_kitchen 42 = .ok (.getfield 10, 3) := by decide +kernel
theorem dX5_kitchen_45 : decode cX5_kitchen 45 = .ok (.invokevirtual 55, 3) := by decide +kernel
theorem dX5_kitchen_48 : decode cX5_kitchen 48 = .ok (.iconst 0, 1) := by decide +kernel
theorem dX5_kitchen_49 : decode cX5_kitchen 49 = .ok (.istore 5, 2) := by decide +kernel
theorem dX5_kitchen_51 : decode cX5_kitchen 51 = .ok (.iconst 0, 1) := by decide +kernel
theorem dX5_kitchen_52 : decode cX5_kitchen 52 = .ok (.istore 6, 2) := by decide +kernel
theorem dX5_kitchen_54 : decode cX5_kitchen 54 = .ok (.iload 6, 2) := by decide +kernel
theorem dX5_kitchen_56 : decode cX5_kitchen 56 = .ok (.aload_n 3, 1) := by decide +kernel
theorem dX5_kitchen_57 : decode cX5_kitchen 57 = .ok (.getfield 59, 3) := by decide +kernel
theorem dX5_kitchen_60 : decode cX5_kitchen 60 = .ok (.if_icmp .ge 54, 3) := by decide +kernel
theorem dX5_kitchen_63 : decode cX5_kitchen 63 = .ok (.iload 5, 2) := by decide +kernel
theorem dX5_kitchen_65 : decode cX5_kitchen 65 = .ok (.bipush 100, 2) := by decide +kernel
theorem dX5_kitchen_67 : decode cX5_kitchen 67 = .ok (.if_icmp .ge 47, 3) := by decide +kernel
theorem dX5_kitchen_70 : decode cX5_kitchen 70 = .ok (.aload_n 0, 1) := by decide +kernel
theorem dX5_kitchen_71 : decode cX5_kitchen 71 = .ok (.getfield 16, 3) := by decide +kernel
theorem dX5_kitchen_74 : decode cX5_kitchen 74 = .ok (.aload_n 3, 1) := by decide +kernel
theorem dX5_kitchen_75 : decode cX5_kitchen 75 = .ok (.iload 6, 2) := by decide +kernel
theorem dX5_kitchen_77 : decode cX5_kitchen 77 = .ok (.invokevirtual 63, 3) := by decide +kernel
theorem dX5_kitchen_80 : decode cX5_kitchen 80 = .ok (.ifCond .ne 10, 3) := by decide +kernel
theorem dX5_kitchen_83 : decode cX5_kitchen 83 = .ok (.sipush (-2000), 3) := by decide +kernel
theorem dX5_kitchen_86 : decode cX5_kitchen 86 = .ok (.iload 6, 2) := by decide +kernel
theorem dX5_kitchen_88 : decode cX5_kitchen 88 = .ok (.isub, 1) := by decide +kernel
theorem dX5_kitchen_89 : decode cX5_kitchen 89 = .ok (.ireturn, 1) := by decide +kernel
theorem dX5_kitchen_90 : decode cX5_kitchen 90 = .ok (.iload 6, 2) := by decide +kernel
theorem dX5_kitchen_92 : decode cX5_kitchen 92 = .ok (.iconst 2, 1) := by decide +kernel
theorem dX5_kitchen_93 : decode cX5_kitchen 93 = .ok (.aload_n 3, 1) := by decide +kernel
theorem dX5_kitchen_94 : decode cX5_kitchen 94 = .ok (.iload 6, 2) := by decide +kernel
theorem dX5_kitchen_96 : decode cX5_kitchen 96 = .ok (.bipush (-4), 2) := by decide +kernel
theorem dX5_kitchen_98 : decode cX5_kitchen 98 = .ok (.invokevirtual 67, 3) := by decide +kernel
theorem dX5_kitchen_101 : decode cX5_kitchen 101 = .ok (.invokestatic 71, 3) := by decide +kernel
theorem dX5_kitchen_104 : decode cX5_kitchen 104 = .ok (.iadd, 1) := by decide +kernel
theorem dX5_kitchen_105 : decode cX5_kitchen 105 = .ok (.iadd, 1) := by decide +kernel
theorem dX5_kitchen_106 : decode cX5_kitchen 106 = .ok (.istore 6, 2) := by decide +kernel
theorem dX5_kitchen_108 : decode cX5_kitchen 108 = .ok (.iinc 5 1, 3) := by decide +kernel
theorem dX5_kitchen_111 : decode cX5_kitchen 111 = .ok (.goto (-57), 3) := by decide +kernel
theorem dX5_kitchen_114 : decode cX5_kitchen 114 = .ok (.aload_n 0, 1) := by decide +kernel
theorem dX5_kitchen_115 : decode cX5_kitchen 115 = .ok (.getfield 10, 3) := by decide +kernel
theorem dX5_kitchen_118 : decode cX5_kitchen 118 = .ok (.aload_n 0, 1) := by decide +kernel
theorem dX5_kitchen_119 : decode cX5_kitchen 119 = .ok (.getfield 16, 3) := by decide +kernel
theorem dX5_kitchen_122 : decode cX5_kitchen 122 = .ok (.invokevirtual 55, 3) := by decide +kernel
theorem dX5_kitchen_125 : decode cX5_kitchen 125 = .ok (.iload 5, 2) := by decide +kernel
theorem dX5_kitchen_127 : decode cX5_kitchen 127 = .ok (.ireturn, 1) := by decide +kernel
theorem dX5_pot_0 : decode cX5_pot 0 = .ok (.aload_n 0, 1) := by decide +kernel
theorem dX5_pot_1 : decode cX5_pot 1 = .ok (.getfield 10, 3) := by decide +kernel
theorem dX5_pot_4 : decode cX5_pot 4 = .ok (.invokevirtual 74, 3) := by decide +kernel
theorem dX5_pot_7 : decode cX5_pot 7 = .ok (.ifCond .eq 15, 3) := by decide +kernel
theorem dX5_pot_10 : decode cX5_pot 10 = .ok (.aload_n 0, 1) := by decide +kernel
theorem dX5_pot_11 : decode cX5_pot 11 = .ok (.getfield 10, 3) := by decide +kernel
theorem dX5_pot_14 : decode cX5_pot 14 = .ok (.getfield 78, 3) := by decide +kernel
theorem dX5_pot_17 : decode cX5_pot 17 = .ok (.iconst 1, 1) := by decide +kernel
theorem dX5_pot_18 : decode cX5_pot 18 = .ok (.isub, 1) := by decide +kernel
theorem dX5_pot_19 : decode cX5_pot 19 = .ok (.goto 5, 3) := by decide +kernel
theorem dX5_pot_22 : decode cX5_pot 22 = .ok (.bipush (-2), 2) := by decide +kernel
theorem dX5_pot_24 : decode cX5_pot 24 = .ok (.ireturn, 1) := by decide +kernel
theorem dX5_cook_0 : decode cX5_cook 0 = .ok (.aload_n 0, 1) := by decide +kernel
theorem dX5_cook_1 : decode cX5_cook 1 = .ok (.getfield 10, 3) := by decide +kernel
theorem dX5_cook_4 : decode cX5_cook 4 = .ok (.iload_n 2, 1) := by decide +kernel
theorem dX5_cook_5 : decode cX5_cook 5 = .ok (.invokevirtual 79, 3) := by decide +kernel
theorem dX5_cook_8 : decode cX5_cook 8 = .ok (.ifCond .ne 5, 3) := by decide +kernel
theorem dX5_cook_11 : decode cX5_cook 11 = .ok (.iconst (-1), 1) := by decide +kernel
theorem dX5_cook_12 : decode cX5_cook 12 = .ok (.ireturn, 1) := by decide +kernel
theorem dX5_cook_13 : decode cX5_cook 13 = .ok (.aload_n 0, 1) := by decide +kernel
theorem dX5_cook_14 : decode cX5_cook 14 = .ok (.iload_n 1, 1) := by decide +kernel
theorem dX5_cook_15 : decode cX5_cook 15 = .ok (.invokevirtual 83, 3) := by decide +kernel
theorem dX5_cook_18 : decode cX5_cook 18 = .ok (.istore_n 3, 1) := by decide +kernel
theorem dX5_cook_19 : decode cX5_cook 19 = .ok (.iload_n 3, 1) := by decide +kernel
theorem dX5_cook_20 : decode cX5_cook 20 = .ok (.ifCond .eq 5, 3) := by decide +kernel
theorem dX5_cook_23 : decode cX5_cook 23 = .ok (.iload_n 3, 1) := by decide +kernel
theorem dX5_cook_24 : decode cX5_cook 24 = .ok (.ireturn, 1) := by decide +kernel
theorem dX5_cook_25 : decode cX5_cook 25 = .ok (.aload_n 0, 1) := by decide +kernel
theorem dX5_cook_26 : decode cX5_cook 26 = .ok (.getfield 10, 3) := by decide +kernel
theorem dX5_cook_29 : decode cX5_cook 29 = .ok (.getfield 86, 3) := by decide +kernel
theorem dX5_cook_32 : decode cX5_cook 32 = .ok (.iload_n 2, 1) := by decide +kernel
theorem dX5_cook_33 : decode cX5_cook 33 = .ok (.aaload, 1) := by decide +kernel
theorem dX5_cook_34 : decode cX5_cook 34 = .ok (.astore 4, 2) := by decide +kernel
theorem dX5_cook_36 : decode cX5_cook 36 = .ok (.aload 4, 2) := by decide +kernel
theorem dX5_cook_38 : decode cX5_cook 38 = .ok (.aload_n 0, 1) := by decide +kernel
theorem dX5_cook_39 : decode cX5_cook 39 = .ok (.getfield 42, 3) := by decide +kernel
theorem dX5_cook_42 : decode cX5_cook 42 = .ok (.iload_n 1, 1) := by decide +kernel
theorem dX5_cook_43 : decode cX5_cook 43 = .ok (.aaload, 1) := by decide +kernel
theorem dX5_cook_44 : decode cX5_cook 44 = .ok (.getfield 90, 3) := by decide +kernel
theorem dX5_cook_47 : decode cX5_cook 47 = .ok (.aload_n 0, 1) := by decide +kernel
theorem dX5_cook_48 : decode cX5_cook 48 = .ok (.getfield 42, 3) := by decide +kernel
theorem dX5_cook_51 : decode cX5_cook 51 = .ok (.iload_n 1, 1) := by decide +kernel
theorem dX5_cook_52 : decode cX5_cook 52 = .ok (.aaload, 1) := by decide +kernel
theorem dX5_cook_53 : decode cX5_cook 53 = .ok (.getfield 93, 3) := by decide +kernel
theorem dX5_cook_56 : decode cX5_cook 56 = .ok (.invokevirtual 96, 3) := by decide +kernel
theorem dX5_cook_59 : decode cX5_cook 59 = .ok (.ifCond .eq 14, 3) := by decide +kernel
theorem dX5_cook_62 : decode cX5_cook 62 = .ok (.aload 4, 2) := by decide +kernel
theorem dX5_cook_64 : decode cX5_cook 64 = .ok (.getfield 102, 3) := by decide +kernel
theorem dX5_cook_67 : decode cX5_cook 67 = .ok (.getfield 105, 3) := by decide +kernel
theorem dX5_cook_70 : decode cX5_cook 70 = .ok (.goto 5, 3) := by decide +kernel
theorem dX5_cook_73 : decode cX5_cook 73 = .ok (.bipush (-2), 2) := by decide +kernel
theorem dX5_cook_75 : decode cX5_cook 75 = .ok (.ireturn, 1) := by decide +kernel
theorem dX5_dish_0 : decode cX5_dish 0 = .ok (.aload_n 0, 1) := by decide +kernel
theorem dX5_dish_1 : decode cX5_dish 1 = .ok (.getfield 10, 3) := by decide +kernel
theorem dX5_dish_4 : decode cX5_dish 4 = .ok (.iload_n 1, 1) := by decide +kernel
theorem dX5_dish_5 : decode cX5_dish 5 = .ok (.invokevirtual 79, 3) := by decide +kernel
theorem dX5_dish_8 : decode cX5_dish 8 = .ok (.ifCond .eq 14, 3) := by decide +kernel
theorem dX5_dish_11 : decode cX5_dish 11 = .ok (.iload_n 2, 1) := by decide +kernel
theorem dX5_dish_12 : decode cX5_dish 12 = .ok (.ifCond .lt 10, 3) := by decide +kernel
theorem dX5_dish_15 : decode cX5_dish 15 = .ok (.iload_n 3, 1) := by decide +kernel
theorem dX5_dish_16 : decode cX5_dish 16 = .ok (.invokestatic 108, 3) := by decide +kernel
theorem dX5_dish_19 : decode cX5_dish 19 = .ok (.ifCond .eq 5, 3) := by decide +kernel
theorem dX5_dish_22 : decode cX5_dish 22 = .ok (.iconst (-1), 1) := by decide +kernel
theorem dX5_dish_23 : decode cX5_dish 23 = .ok (.ireturn, 1) := by decide +kernel
theorem dX5_dish_24 : decode cX5_dish 24 = .ok (.aload_n 0, 1) := by decide +kernel
theorem dX5_dish_25 : decode cX5_dish 25 = .ok (.getfield 10, 3) := by decide +kernel
theorem dX5_dish_28 : decode cX5_dish 28 = .ok (.getfield 86, 3) := by decide +kernel
theorem dX5_dish_31 : decode cX5_dish 31 = .ok (.iload_n 1, 1) := by decide +kernel
theorem dX5_dish_32 : decode cX5_dish 32 = .ok (.aaload, 1) := by decide +kernel
theorem dX5_dish_33 : decode cX5_dish 33 = .ok (.astore 4, 2) := by decide +kernel
theorem dX5_dish_35 : decode cX5_dish 35 = .ok (.aload 4, 2) := by decide +kernel
theorem dX5_dish_37 : decode cX5_dish 37 = .ok (.iload_n 2, 1) := by decide +kernel
theorem dX5_dish_38 : decode cX5_dish 38 = .ok (.invokevirtual 111, 3) := by decide +kernel
theorem dX5_dish_41 : decode cX5_dish 41 = .ok (.ifCond .ne 6, 3) := by decide +kernel
theorem dX5_dish_44 : decode cX5_dish 44 = .ok (.bipush (-4), 2) := by decide +kernel
theorem dX5_dish_46 : decode cX5_dish 46 = .ok (.ireturn, 1) := by decide +kernel
theorem dX5_dish_47 : decode cX5_dish 47 = .ok (.iload_n 3, 1) := by decide +kernel
theorem dX5_dish_48 : decode cX5_dish 48 = .ok (.ifCond .ne 12, 3) := by decide +kernel
theorem dX5_dish_51 : decode cX5_dish 51 = .ok (.aload 4, 2) := by decide +kernel
theorem dX5_dish_53 : decode cX5_dish 53 = .ok (.iload_n 2, 1) := by decide +kernel
theorem dX5_dish_54 : decode cX5_dish 54 = .ok (.invokevirtual 114, 3) := by decide +kernel
theorem dX5_dish_57 : decode cX5_dish 57 = .ok (.goto 9, 3) := by decide +kernel
theorem dX5_dish_60 : decode cX5_dish 60 = .ok (.aload 4, 2) := by decide +kernel
theorem dX5_dish_62 : decode cX5_dish 62 = .ok (.iload_n 2, 1) := by decide +kernel
theorem dX5_dish_63 : decode cX5_dish 63 = .ok (.invokevirtual 117, 3) := by decide +kernel
theorem dX5_dish_66 : decode cX5_dish 66 = .ok (.ireturn, 1) := by decide +kernel
theorem dX5_dishes_0 : decode cX5_dishes 0 = .ok (.aload_n 0, 1) := by decide +kernel
theorem dX5_dishes_1 : decode cX5_dishes 1 = .ok (.getfield 10, 3) := by decide +kernel
theorem dX5_dishes_4 : decode cX5_dishes 4 = .ok (.iload_n 1, 1) := by decide +kernel
theorem dX5_dishes_5 : decode cX5_dishes 5 = .ok (.invokevirtual 79, 3) := by decide +kernel
theorem dX5_dishes_8 : decode cX5_dishes 8 = .ok (.ifCond .eq 21, 3) := by decide +kernel
theorem dX5_dishes_11 : decode cX5_dishes 11 = .ok (.aload_n 0, 1) := by decide +kernel
theorem dX5_dishes_12 : decode cX5_dishes 12 = .ok (.getfield 10, 3) := by decide +kernel
theorem dX5_dishes_15 : decode cX5_dishes 15 = .ok (.getfield 86, 3) := by decide +kernel
theorem dX5_dishes_18 : decode cX5_dishes 18 = .ok (.iload_n 1, 1) := by decide +kernel
theorem dX5_dishes_19 : decode cX5_dishes 19 = .ok (.aaload, 1) := by decide +kernel
theorem dX5_dishes_20 : decode cX5_dishes 20 = .ok (.getfield 102, 3) := by decide +kernel
theorem dX5_dishes_23 : decode cX5_dishes 23 = .ok (.getfield 105, 3) := by decide +kernel
theorem dX5_dishes_26 : decode cX5_dishes 26 = .ok (.goto 4, 3) := by decide +kernel
theorem dX5_dishes_29 : decode cX5_dishes 29 = .ok (.iconst (-1), 1) := by decide +kernel
theorem dX5_dishes_30 : decode cX5_dishes 30 = .ok (.ireturn, 1) := by decide +kernel
theorem dX5_taste_0 : decode cX5_taste 0 = .ok (.aload_n 0, 1) := by decide +kernel
theorem dX5_taste_1 : decode cX5_taste 1 = .ok (.getfield 10, 3) := by decide +kernel
theorem dX5_taste_4 : decode cX5_taste 4 = .ok (.iload_n 1, 1) := by decide +kernel
theorem dX5_taste_5 : decode cX5_taste 5 = .ok (.invokevirtual 79, 3) := by decide +kernel
theorem dX5_taste_8 : decode cX5_taste 8 = .ok (.ifCond .eq 17, 3) := by decide +kernel
theorem dX5_taste_11 : decode cX5_taste 11 = .ok (.iload_n 2, 1) := by decide +kernel
theorem dX5_taste_12 : decode cX5_taste 12 = .ok (.invokestatic 120, 3) := by decide +kernel
theorem dX5_taste_15 : decode cX5_taste 15 = .ok (.ifCond .ne 10, 3) := by decide +kernel
theorem dX5_taste_18 : decode cX5_taste 18 = .ok (.iload_n 3, 1) := by decide +kernel
theorem dX5_taste_19 : decode cX5_taste 19 = .ok (.invokestatic 108, 3) := by decide +kernel
theorem dX5_taste_22 : decode cX5_taste 22 = .ok (.ifCond .eq 7, 3) := by decide +kernel
theorem dX5_taste_25 : decode cX5_taste 25 = .ok (.ldc2_w 123, 3) := by decide +kernel
theorem dX5_taste_28 : decode cX5_taste 28 = .ok (.lreturn, 1) := by decide +kernel
theorem dX5_taste_29 : decode cX5_taste 29 = .ok (.aload_n 0, 1) := by decide +kernel
theorem dX5_taste_30 : decode cX5_taste 30 = .ok (.getfield 10, 3) := by decide +kernel
theorem dX5_taste_33 : decode cX5_taste 33 = .ok (.getfield 86, 3) := by decide +kernel
theorem dX5_taste_36 : decode cX5_taste 36 = .ok (.iload_n 1, 1) := by decide +kernel
theorem dX5_taste_37 : decode cX5_taste 37 = .ok (.aaload, 1) := by decide +kernel
theorem dX5_taste_38 : decode cX5_taste 38 = .ok (.getfield 102, 3) := by decide +kernel
theorem dX5_taste_41 : decode cX5_taste 41 = .ok (.astore 4, 2) := by decide +kernel
theorem dX5_taste_43 : decode cX5_taste 43 = .ok (.aload 4, 2) := by decide +kernel
theorem dX5_taste_45 : decode cX5_taste 45 = .ok (.getfield 125, 3) := by decide +kernel
theorem dX5_taste_48 : decode cX5_taste 48 = .ok (.iload_n 2, 1) := by decide +kernel
theorem dX5_taste_49 : decode cX5_taste 49 = .ok (.laload, 1) := by decide +kernel
theorem dX5_taste_50 : decode cX5_taste 50 = .ok (.aload 4, 2) := by decide +kernel
theorem dX5_taste_52 : decode cX5_taste 52 = .ok (.getfield 129, 3) := by decide +kernel
theorem dX5_taste_55 : decode cX5_taste 55 = .ok (.iload_n 3, 1) := by decide +kernel
theorem dX5_taste_56 : decode cX5_taste 56 = .ok (.invokestatic 133, 3) := by decide +kernel
theorem dX5_taste_59 : decode cX5_taste 59 = .ok (.lreturn, 1) := by decide +kernel
theorem dX5_all_0 : decode cX5_all 0 = .ok (.aload_n 0, 1) := by decide +kernel
theorem dX5_all_1 : decode cX5_all 1 = .ok (.getfield 10, 3) := by decide +kernel
theorem dX5_all_4 : decode cX5_all 4 = .ok (.iload_n 1, 1) := by decide +kernel
theorem dX5_all_5 : decode cX5_all 5 = .ok (.invokevirtual 79, 3) := by decide +kernel
theorem dX5_all_8 : decode cX5_all 8 = .ok (.ifCond .eq 10, 3) := by decide +kernel
theorem dX5_all_11 : decode cX5_all 11 = .ok (.iload_n 2, 1) := by decide +kernel
theorem dX5_all_12 : decode cX5_all 12 = .ok (.invokestatic 108, 3) := by decide +kernel
theorem dX5_all_15 : decode cX5_all 15 = .ok (.ifCond .eq 7, 3) := by decide +kernel
theorem dX5_all_18 : decode cX5_all 18 = .ok (.ldc2_w 123, 3) := by decide +kernel
theorem dX5_all_21 : decode cX5_all 21 = .ok (.lreturn, 1) := by decide +kernel
theorem dX5_all_22 : decode cX5_all 22 = .ok (.aload_n 0, 1) := by decide +kernel
theorem dX5_all_23 : decode cX5_all 23 = .ok (.getfield 10, 3) := by decide +kernel
theorem dX5_all_26 : decode cX5_all 26 = .ok (.getfield 86, 3) := by decide +kernel
theorem dX5_all_29 : decode cX5_all 29 = .ok (.iload_n 1, 1) := by decide +kernel
theorem dX5_all_30 : decode cX5_all 30 = .ok (.aaload, 1) := by decide +kernel
theorem dX5_all_31 : decode cX5_all 31 = .ok (.getfield 102, 3) := by decide +kernel
theorem dX5_all_34 : decode cX5_all 34 = .ok (.astore_n 3, 1) := by decide +kernel
theorem dX5_all_35 : decode cX5_all 35 = .ok (.aload_n 3, 1) := by decide +kernel
theorem dX5_all_36 : decode cX5_all 36 = .ok (.invokevirtual 137, 3) := by decide +kernel
theorem dX5_all_39 : decode cX5_all 39 = .ok (.aload_n 3, 1) := by decide +kernel
theorem dX5_all_40 : decode cX5_all 40 = .ok (.getfield 129, 3) := by decide +kernel
theorem dX5_all_43 : decode cX5_all 43 = .ok (.iload_n 2, 1) := by decide +kernel
theorem dX5_all_44 : decode cX5_all 44 = .ok (.invokestatic 133, 3) := by decide +kernel
theorem dX5_all_47 : decode cX5_all 47 = .ok (.lreturn, 1) := by decide +kernel
theorem dX5_portion_0 : decode cX5_portion 0 = .ok (.aload_n 0, 1) := by decide +kernel
theorem dX5_portion_1 : decode cX5_portion 1 = .ok (.getfield 10, 3) := by decide +kernel
theorem dX5_portion_4 : decode cX5_portion 4 = .ok (.iload_n 1, 1) := by decide +kernel
theorem dX5_portion_5 : decode cX5_portion 5 = .ok (.invokevirtual 79, 3) := by decide +kernel
theorem dX5_portion_8 : decode cX5_portion 8 = .ok (.ifCond .eq 10, 3) := by decide +kernel
theorem dX5_portion_11 : decode cX5_portion 11 = .ok (.iload_n 2, 1) := by decide +kernel
theorem dX5_portion_12 : decode cX5_portion 12 = .ok (.invokestatic 120, 3) := by decide +kernel
theorem dX5_portion_15 : decode cX5_portion 15 = .ok (.ifCond .eq 5, 3) := by decide +kernel
theorem dX5_portion_18 : decode cX5_portion 18 = .ok (.iconst (-1), 1) := by decide +kernel
theorem dX5_portion_19 : decode cX5_portion 19 = .ok (.ireturn, 1) := by decide +kernel
theorem dX5_portion_20 : decode cX5_portion 20 = .ok (.aload_n 0, 1) := by decide +kernel
theorem dX5_portion_21 : decode cX5_portion 21 = .ok (.getfield 10, 3) := by decide +kernel
theorem dX5_portion_24 : decode cX5_portion 24 = .ok (.getfield 86, 3) := by decide +kernel
theorem dX5_portion_27 : decode cX5_portion 27 = .ok (.iload_n 1, 1) := by decide +kernel
theorem dX5_portion_28 : decode cX5_portion 28 = .ok (.aaload, 1) := by decide +kernel
theorem dX5_portion_29 : decode cX5_portion 29 = .ok (.getfield 102, 3) := by decide +kernel
theorem dX5_portion_32 : decode cX5_portion 32 = .ok (.iload_n 2, 1) := by decide +kernel
theorem dX5_portion_33 : decode cX5_portion 33 = .ok (.invokevirtual 141, 3) := by decide +kernel
theorem dX5_portion_36 : decode cX5_portion 36 = .ok (.ireturn, 1) := by decide +kernel
theorem dX5_over_0 : decode cX5_over 0 = .ok (.aload_n 0, 1) := by decide +kernel
theorem dX5_over_1 : decode cX5_over 1 = .ok (.getfield 10, 3) := by decide +kernel
theorem dX5_over_4 : decode cX5_over 4 = .ok (.iload_n 1, 1) := by decide +kernel
theorem dX5_over_5 : decode cX5_over 5 = .ok (.invokevirtual 79, 3) := by decide +kernel
theorem dX5_over_8 : decode cX5_over 8 = .ok (.ifCond .eq 17, 3) := by decide +kernel
theorem dX5_over_11 : decode cX5_over 11 = .ok (.iload_n 2, 1) := by decide +kernel
theorem dX5_over_12 : decode cX5_over 12 = .ok (.invokestatic 120, 3) := by decide +kernel
theorem dX5_over_15 : decode cX5_over 15 = .ok (.ifCond .ne 10, 3) := by decide +kernel
theorem dX5_over_18 : decode cX5_over 18 = .ok (.iload_n 3, 1) := by decide +kernel
theorem dX5_over_19 : decode cX5_over 19 = .ok (.invokestatic 144, 3) := by decide +kernel
theorem dX5_over_22 : decode cX5_over 22 = .ok (.ifCond .eq 5, 3) := by decide +kernel
theorem dX5_over_25 : decode cX5_over 25 = .ok (.iconst (-1), 1) := by decide +kernel
theorem dX5_over_26 : decode cX5_over 26 = .ok (.ireturn, 1) := by decide +kernel
theorem dX5_over_27 : decode cX5_over 27 = .ok (.aload_n 0, 1) := by decide +kernel
theorem dX5_over_28 : decode cX5_over 28 = .ok (.getfield 10, 3) := by decide +kernel
theorem dX5_over_31 : decode cX5_over 31 = .ok (.getfield 86, 3) := by decide +kernel
theorem dX5_over_34 : decode cX5_over 34 = .ok (.iload_n 1, 1) := by decide +kernel
theorem dX5_over_35 : decode cX5_over 35 = .ok (.aaload, 1) := by decide +kernel
theorem dX5_over_36 : decode cX5_over 36 = .ok (.getfield 102, 3) := by decide +kernel
theorem dX5_over_39 : decode cX5_over 39 = .ok (.iload_n 2, 1) := by decide +kernel
theorem dX5_over_40 : decode cX5_over 40 = .ok (.iload_n 3, 1) := by decide +kernel
theorem dX5_over_41 : decode cX5_over 41 = .ok (.invokevirtual 147, 3) := by decide +kernel
theorem dX5_over_44 : decode cX5_over 44 = .ok (.ifCond .eq 7, 3) := by decide +kernel
theorem dX5_over_47 : decode cX5_over 47 = .ok (.iconst 1, 1) := by decide +kernel
theorem dX5_over_48 : decode cX5_over 48 = .ok (.goto 4, 3) := by decide +kernel
theorem dX5_over_51 : decode cX5_over 51 = .ok (.iconst 0, 1) := by decide +kernel
theorem dX5_over_52 : decode cX5_over 52 = .ok (.ireturn, 1) := by decide +kernel
theorem dX5_part_0 : decode cX5_part 0 = .ok (.aload_n 0, 1) := by decide +kernel
theorem dX5_part_1 : decode cX5_part 1 = .ok (.getfield 10, 3) := by decide +kernel
theorem dX5_part_4 : decode cX5_part 4 = .ok (.iload_n 1, 1) := by decide +kernel
theorem dX5_part_5 : decode cX5_part 5 = .ok (.invokevirtual 79, 3) := by decide +kernel
theorem dX5_part_8 : decode cX5_part 8 = .ok (.ifCond .eq 26, 3) := by decide +kernel
theorem dX5_part_11 : decode cX5_part 11 = .ok (.iload_n 3, 1) := by decide +kernel
theorem dX5_part_12 : decode cX5_part 12 = .ok (.invokestatic 108, 3) := by decide +kernel
theorem dX5_part_15 : decode cX5_part 15 = .ok (.ifCond .ne 19, 3) := by decide +kernel
theorem dX5_part_18 : decode cX5_part 18 = .ok (.aload_n 0, 1) := by decide +kernel
theorem dX5_part_19 : decode cX5_part 19 = .ok (.getfield 10, 3) := by decide +kernel
theorem dX5_part_22 : decode cX5_part 22 = .ok (.getfield 86, 3) := by decide +kernel
theorem dX5_part_25 : decode cX5_part 25 = .ok (.iload_n 1, 1) := by decide +kernel
theorem dX5_part_26 : decode cX5_part 26 = .ok (.aaload, 1) := by decide +kernel
theorem dX5_part_27 : decode cX5_part 27 = .ok (.iload_n 2, 1) := by decide +kernel
theorem dX5_part_28 : decode cX5_part 28 = .ok (.invokevirtual 111, 3) := by decide +kernel
theorem dX5_part_31 : decode cX5_part 31 = .ok (.ifCond .ne 7, 3) := by decide +kernel
theorem dX5_part_34 : decode cX5_part 34 = .ok (.ldc2_w 123, 3) := by decide +kernel
theorem dX5_part_37 : decode cX5_part 37 = .ok (.lreturn, 1) := by decide +kernel
theorem dX5_part_38 : decode cX5_part 38 = .ok (.aload_n 0, 1) := by decide +kernel
theorem dX5_part_39 : decode cX5_part 39 = .ok (.getfield 10, 3) := by decide +kernel
theorem dX5_part_42 : decode cX5_part 42 = .ok (.getfield 86, 3) := by decide +kernel
theorem dX5_part_45 : decode cX5_part 45 = .ok (.iload_n 1, 1) := by decide +kernel
theorem dX5_part_46 : decode cX5_part 46 = .ok (.aaload, 1) := by decide +kernel
theorem dX5_part_47 : decode cX5_part 47 = .ok (.iload_n 2, 1) := by decide +kernel
theorem dX5_part_48 : decode cX5_part 48 = .ok (.invokevirtual 150, 3) := by decide +kernel
theorem dX5_part_51 : decode cX5_part 51 = .ok (.iload_n 2, 1) := by decide +kernel
theorem dX5_part_52 : decode cX5_part 52 = .ok (.invokestatic 154, 3) := by decide +kernel
theorem dX5_part_55 : decode cX5_part 55 = .ok (.iload_n 3, 1) := by decide +kernel
theorem dX5_part_56 : decode cX5_part 56 = .ok (.invokestatic 133, 3) := by decide +kernel
theorem dX5_part_59 : decode cX5_part 59 = .ok (.lreturn, 1) := by decide +kernel
theorem dX5_back_0 : decode cX5_back 0 = .ok (.aload_n 0, 1) := by decide +kernel
theorem dX5_back_1 : decode cX5_back 1 = .ok (.getfield 10, 3) := by decide +kernel
theorem dX5_back_4 : decode cX5_back 4 = .ok (.iload_n 1, 1) := by decide +kernel
theorem dX5_back_5 : decode cX5_back 5 = .ok (.invokevirtual 79, 3) := by decide +kernel
theorem dX5_back_8 : decode cX5_back 8 = .ok (.ifCond .eq 10, 3) := by decide +kernel
theorem dX5_back_11 : decode cX5_back 11 = .ok (.iload_n 2, 1) := by decide +kernel
theorem dX5_back_12 : decode cX5_back 12 = .ok (.invokestatic 157, 3) := by decide +kernel
theorem dX5_back_15 : decode cX5_back 15 = .ok (.ifCond .eq 5, 3) := by decide +kernel
theorem dX5_back_18 : decode cX5_back 18 = .ok (.iconst (-1), 1) := by decide +kernel
theorem dX5_back_19 : decode cX5_back 19 = .ok (.ireturn, 1) := by decide +kernel
theorem dX5_back_20 : decode cX5_back 20 = .ok (.aload_n 0, 1) := by decide +kernel
theorem dX5_back_21 : decode cX5_back 21 = .ok (.getfield 10, 3) := by decide +kernel
theorem dX5_back_24 : decode cX5_back 24 = .ok (.getfield 86, 3) := by decide +kernel
theorem dX5_back_27 : decode cX5_back 27 = .ok (.iload_n 1, 1) := by decide +kernel
theorem dX5_back_28 : decode cX5_back 28 = .ok (.aaload, 1) := by decide +kernel
theorem dX5_back_29 : decode cX5_back 29 = .ok (.astore_n 3, 1) := by decide +kernel
theorem dX5_back_30 : decode cX5_back 30 = .ok (.iconst 0, 1) := by decide +kernel
theorem dX5_back_31 : decode cX5_back 31 = .ok (.istore 4, 2) := by decide +kernel
theorem dX5_back_33 : decode cX5_back 33 = .ok (.iload 4, 2) := by decide +kernel
theorem dX5_back_35 : decode cX5_back 35 = .ok (.aload_n 3, 1) := by decide +kernel
theorem dX5_back_36 : decode cX5_back 36 = .ok (.getfield 102, 3) := by decide +kernel
theorem dX5_back_39 : decode cX5_back 39 = .ok (.getfield 105, 3) := by decide +kernel
theorem dX5_back_42 : decode cX5_back 42 = .ok (.if_icmp .ge 31, 3) := by decide +kernel
theorem dX5_back_45 : decode cX5_back 45 = .ok (.ldc2_w 160, 3) := by decide +kernel
theorem dX5_back_48 : decode cX5_back 48 = .ok (.aload_n 3, 1) := by decide +kernel
theorem dX5_back_49 : decode cX5_back 49 = .ok (.iload 4, 2) := by decide +kernel
theorem dX5_back_51 : decode cX5_back 51 = .ok (.invokevirtual 150, 3) := by decide +kernel
theorem dX5_back_54 : decode cX5_back 54 = .ok (.lmul, 1) := by decide +kernel
theorem dX5_back_55 : decode cX5_back 55 = .ok (.iload_n 2, 1) := by decide +kernel
theorem dX5_back_56 : decode cX5_back 56 = .ok (.i2l, 1) := by decide +kernel
theorem dX5_back_57 : decode cX5_back 57 = .ok (.iload 4, 2) := by decide +kernel
theorem dX5_back_59 : decode cX5_back 59 = .ok (.invokestatic 154, 3) := by decide +kernel
theorem dX5_back_62 : decode cX5_back 62 = .ok (.lmul, 1) := by decide +kernel
theorem dX5_back_63 : decode cX5_back 63 = .ok (.lcmp, 1) := by decide +kernel
theorem dX5_back_64 : decode cX5_back 64 = .ok (.ifCond .lt 9, 3) := by decide +kernel
theorem dX5_back_67 : decode cX5_back 67 = .ok (.iinc 4 1, 3) := by decide +kernel
theorem dX5_back_70 : decode cX5_back 70 = .ok (.goto (-37), 3) := by decide +kernel
theorem dX5_back_73 : decode cX5_back 73 = .ok (.iload 4, 2) := by decide +kernel
theorem dX5_back_75 : decode cX5_back 75 = .ok (.ireturn, 1) := by decide +kernel
theorem dX5_strongest_0 : decode cX5_strongest 0 = .ok (.aload_n 0, 1) := by decide +kernel
theorem dX5_strongest_1 : decode cX5_strongest 1 = .ok (.getfield 10, 3) := by decide +kernel
theorem dX5_strongest_4 : decode cX5_strongest 4 = .ok (.iload_n 1, 1) := by decide +kernel
theorem dX5_strongest_5 : decode cX5_strongest 5 = .ok (.invokevirtual 79, 3) := by decide +kernel
theorem dX5_strongest_8 : decode cX5_strongest 8 = .ok (.ifCond .eq 21, 3) := by decide +kernel
theorem dX5_strongest_11 : decode cX5_strongest 11 = .ok (.aload_n 0, 1) := by decide +kernel
theorem dX5_strongest_12 : decode cX5_strongest 12 = .ok (.getfield 10, 3) := by decide +kernel
theorem dX5_strongest_15 : decode cX5_strongest 15 = .ok (.getfield 86, 3) := by decide +kernel
theorem dX5_strongest_18 : decode cX5_strongest 18 = .ok (.iload_n 1, 1) := by decide +kernel
theorem dX5_strongest_19 : decode cX5_strongest 19 = .ok (.aaload, 1) := by decide +kernel
theorem dX5_strongest_20 : decode cX5_strongest 20 = .ok (.getfield 102, 3) := by decide +kernel
theorem dX5_strongest_23 : decode cX5_strongest 23 = .ok (.invokevirtual 162, 3) := by decide +kernel
theorem dX5_strongest_26 : decode cX5_strongest 26 = .ok (.goto 4, 3) := by decide +kernel
theorem dX5_strongest_29 : decode cX5_strongest 29 = .ok (.iconst (-1), 1) := by decide +kernel
theorem dX5_strongest_30 : decode cX5_strongest 30 = .ok (.ireturn, 1) := by decide +kernel
theorem dX5_harms_0 : decode cX5_harms 0 = .ok (.aload_n 0, 1) := by decide +kernel
theorem dX5_harms_1 : decode cX5_harms 1 = .ok (.getfield 10, 3) := by decide +kernel
theorem dX5_harms_4 : decode cX5_harms 4 = .ok (.iload_n 1, 1) := by decide +kernel
theorem dX5_harms_5 : decode cX5_harms 5 = .ok (.invokevirtual 79, 3) := by decide +kernel
theorem dX5_harms_8 : decode cX5_harms 8 = .ok (.ifCond .eq 17, 3) := by decide +kernel
theorem dX5_harms_11 : decode cX5_harms 11 = .ok (.iload_n 2, 1) := by decide +kernel
theorem dX5_harms_12 : decode cX5_harms 12 = .ok (.invokestatic 166, 3) := by decide +kernel
theorem dX5_harms_15 : decode cX5_harms 15 = .ok (.ifCond .ne 10, 3) := by decide +kernel
theorem dX5_harms_18 : decode cX5_harms 18 = .ok (.iload_n 3, 1) := by decide +kernel
theorem dX5_harms_19 : decode cX5_harms 19 = .ok (.invokestatic 144, 3) := by decide +kernel
theorem dX5_harms_22 : decode cX5_harms 22 = .ok (.ifCond .eq 5, 3) := by decide +kernel
theorem dX5_harms_25 : decode cX5_harms 25 = .ok (.iconst (-1), 1) := by decide +kernel
theorem dX5_harms_26 : decode cX5_harms 26 = .ok (.ireturn, 1) := by decide +kernel
theorem dX5_harms_27 : decode cX5_harms 27 = .ok (.aload_n 0, 1) := by decide +kernel
theorem dX5_harms_28 : decode cX5_harms 28 = .ok (.getfield 10, 3) := by decide +kernel
theorem dX5_harms_31 : decode cX5_harms 31 = .ok (.getfield 86, 3) := by decide +kernel
theorem dX5_harms_34 : decode cX5_harms 34 = .ok (.iload_n 1, 1) := by decide +kernel
theorem dX5_harms_35 : decode cX5_harms 35 = .ok (.aaload, 1) := by decide +kernel
theorem dX5_harms_36 : decode cX5_harms 36 = .ok (.getfield 102, 3) := by decide +kernel
theorem dX5_harms_39 : decode cX5_harms 39 = .ok (.iload_n 2, 1) := by decide +kernel
theorem dX5_harms_40 : decode cX5_harms 40 = .ok (.iload_n 3, 1) := by decide +kernel
theorem dX5_harms_41 : decode cX5_harms 41 = .ok (.invokevirtual 169, 3) := by decide +kernel
theorem dX5_harms_44 : decode cX5_harms 44 = .ok (.ifCond .eq 7, 3) := by decide +kernel
theorem dX5_harms_47 : decode cX5_harms 47 = .ok (.iconst 1, 1) := by decide +kernel
theorem dX5_harms_48 : decode cX5_harms 48 = .ok (.goto 4, 3) := by decide +kernel
theorem dX5_harms_51 : decode cX5_harms 51 = .ok (.iconst 0, 1) := by decide +kernel
theorem dX5_harms_52 : decode cX5_harms 52 = .ok (.ireturn, 1) := by decide +kernel
theorem dX5_first_0 : decode cX5_first 0 = .ok (.iload_n 2, 1) := by decide +kernel
theorem dX5_first_1 : decode cX5_first 1 = .ok (.invokestatic 166, 3) := by decide +kernel
theorem dX5_first_4 : decode cX5_first 4 = .ok (.ifCond .ne 10, 3) := by decide +kernel
theorem dX5_first_7 : decode cX5_first 7 = .ok (.iload_n 3, 1) := by decide +kernel
theorem dX5_first_8 : decode cX5_first 8 = .ok (.invokestatic 144, 3) := by decide +kernel
theorem dX5_first_11 : decode cX5_first 11 = .ok (.ifCond .eq 5, 3) := by decide +kernel
theorem dX5_first_14 : decode cX5_first 14 = .ok (.iconst (-1), 1) := by decide +kernel
theorem dX5_first_15 : decode cX5_first 15 = .ok (.ireturn, 1) := by decide +kernel
theorem dX5_first_16 : decode cX5_first 16 = .ok (.aload_n 0, 1) := by decide +kernel
theorem dX5_first_17 : decode cX5_first 17 = .ok (.iload_n 1, 1) := by decide +kernel
theorem dX5_first_18 : decode cX5_first 18 = .ok (.invokevirtual 47, 3) := by decide +kernel
theorem dX5_first_21 : decode cX5_first 21 = .ok (.istore 4, 2) := by decide +kernel
theorem dX5_first_23 : decode cX5_first 23 = .ok (.iload 4, 2) := by decide +kernel
theorem dX5_first_25 : decode cX5_first 25 = .ok (.ifCond .eq 6, 3) := by decide +kernel
theorem dX5_first_28 : decode cX5_first 28 = .ok (.iload 4, 2) := by decide +kernel
theorem dX5_first_30 : decode cX5_first 30 = .ok (.ireturn, 1) := by decide +kernel
theorem dX5_first_31 : decode cX5_first 31 = .ok (.aload_n 0, 1) := by decide +kernel
theorem dX5_first_32 : decode cX5_first 32 = .ok (.getfield 42, 3) := by decide +kernel
theorem dX5_first_35 : decode cX5_first 35 = .ok (.iload_n 1, 1) := by decide +kernel
theorem dX5_first_36 : decode cX5_first 36 = .ok (.aaload, 1) := by decide +kernel
theorem dX5_first_37 : decode cX5_first 37 = .ok (.astore 5, 2) := by decide +kernel
theorem dX5_first_39 : decode cX5_first 39 = .ok (.aload_n 0, 1) := by decide +kernel
theorem dX5_first_40 : decode cX5_first 40 = .ok (.aload 5, 2) := by decide +kernel
theorem dX5_first_42 : decode cX5_first 42 = .ok (.invokevirtual 172, 3) := by decide +kernel
theorem dX5_first_45 : decode cX5_first 45 = .ok (.ifCond .ne 6, 3) := by decide +kernel
theorem dX5_first_48 : decode cX5_first 48 = .ok (.bipush (-13), 2) := by decide +kernel
theorem dX5_first_50 : decode cX5_first 50 = .ok (.ireturn, 1) := by decide +kernel
theorem dX5_first_51 : decode cX5_first 51 = .ok (.aload_n 0, 1) := by decide +kernel
theorem dX5_first_52 : decode cX5_first 52 = .ok (.getfield 25, 3) := by decide +kernel
theorem dX5_first_55 : decode cX5_first 55 = .ok (.aload_n 0, 1) := by decide +kernel
theorem dX5_first_56 : decode cX5_first 56 = .ok (.getfield 10, 3) := by decide +kernel
theorem dX5_first_59 : decode cX5_first 59 = .ok (.iload_n 2, 1) := by decide +kernel
theorem dX5_first_60 : decode cX5_first 60 = .ok (.iload_n 3, 1) := by decide +kernel
theorem dX5_first_61 : decode cX5_first 61 = .ok (.invokevirtual 176, 3) := by decide +kernel
theorem dX5_first_64 : decode cX5_first 64 = .ok (.aload_n 0, 1) := by decide +kernel
theorem dX5_first_65 : decode cX5_first 65 = .ok (.getfield 25, 3) := by decide +kernel
theorem dX5_first_68 : decode cX5_first 68 = .ok (.aload 5, 2) := by decide +kernel
theorem dX5_first_70 : decode cX5_first 70 = .ok (.invokevirtual 180, 3) := by decide +kernel
theorem dX5_first_73 : decode cX5_first 73 = .ok (.ireturn, 1) := by decide +kernel
theorem dX5_week_0 : decode cX5_week 0 = .ok (.iload_n 1, 1) := by decide +kernel
theorem dX5_week_1 : decode cX5_week 1 = .ok (.invokestatic 183, 3) := by decide +kernel
theorem dX5_week_4 : decode cX5_week 4 = .ok (.ifCond .ne 25, 3) := by decide +kernel
theorem dX5_week_7 : decode cX5_week 7 = .ok (.iload_n 2, 1) := by decide +kernel
theorem dX5_week_8 : decode cX5_week 8 = .ok (.invokestatic 166, 3) := by decide +kernel
theorem dX5_week_11 : decode cX5_week 11 = .ok (.ifCond .ne 18, 3) := by decide +kernel
theorem dX5_week_14 : decode cX5_week 14 = .ok (.iload_n 3, 1) := by decide +kernel
theorem dX5_week_15 : decode cX5_week 15 = .ok (.invokestatic 144, 3) := by decide +kernel
theorem dX5_week_18 : decode cX5_week 18 = .ok (.ifCond .ne 11, 3) := by decide +kernel
theorem dX5_week_21 : decode cX5_week 21 = .ok (.iload 4, 2) := by decide +kernel
theorem dX5_week_23 : decode cX5_week 23 = .ok (.invokestatic 108, 3) := by decide +kernel
theorem dX5_week_26 : decode cX5_week 26 = .ok (.ifCond .eq 5, 3) := by decide +kernel
theorem dX5_week_29 : decode cX5_week 29 = .ok (.iconst (-1), 1) := by decide +kernel
theorem dX5_week_30 : decode cX5_week 30 = .ok (.ireturn, 1) := by decide +kernel
theorem dX5_week_31 : decode cX5_week 31 = .ok (.aload_n 0, 1) := by decide +kernel
theorem dX5_week_32 : decode cX5_week 32 = .ok (.getfield 10, 3) := by decide +kernel
theorem dX5_week_35 : decode cX5_week 35 = .ok (.getfield 78, 3) := by decide +kernel
theorem dX5_week_38 : decode cX5_week 38 = .ok (.ifCond .ne 6, 3) := by decide +kernel
theorem dX5_week_41 : decode cX5_week 41 = .ok (.bipush (-3), 2) := by decide +kernel
theorem dX5_week_43 : decode cX5_week 43 = .ok (.ireturn, 1) := by decide +kernel
theorem dX5_week_44 : decode cX5_week 44 = .ok (.aload_n 0, 1) := by decide +kernel
theorem dX5_week_45 : decode cX5_week 45 = .ok (.iload_n 1, 1) := by decide +kernel
theorem dX5_week_46 : decode cX5_week 46 = .ok (.invokevirtual 47, 3) := by decide +kernel
theorem dX5_week_49 : decode cX5_week 49 = .ok (.istore 5, 2) := by decide +kernel
theorem dX5_week_51 : decode cX5_week 51 = .ok (.iload 5, 2) := by decide +kernel
theorem dX5_week_53 : decode cX5_week 53 = .ok (.ifCond .eq 6, 3) := by decide +kernel
theorem dX5_week_56 : decode cX5_week 56 = .ok (.iload 5, 2) := by decide +kernel
theorem dX5_week_58 : decode cX5_week 58 = .ok (.ireturn, 1) := by decide +kernel
theorem dX5_week_59 : decode cX5_week 59 = .ok (.aload_n 0, 1) := by decide +kernel
theorem dX5_week_60 : decode cX5_week 60 = .ok (.getfield 42, 3) := by decide +kernel
theorem dX5_week_63 : decode cX5_week 63 = .ok (.iload_n 1, 1) := by decide +kernel
theorem dX5_week_64 : decode cX5_week 64 = .ok (.aaload, 1) := by decide +kernel
theorem dX5_week_65 : decode cX5_week 65 = .ok (.astore 6, 2) := by decide +kernel
theorem dX5_week_67 : decode cX5_week 67 = .ok (.aload 6, 2) := by decide +kernel
theorem dX5_week_69 : decode cX5_week 69 = .ok (.invokestatic 186, 3) := by decide +kernel
theorem dX5_week_72 : decode cX5_week 72 = .ok (.ifCond .ne 6, 3) := by decide +kernel
theorem dX5_week_75 : decode cX5_week 75 = .ok (.bipush (-13), 2) := by decide +kernel
theorem dX5_week_77 : decode cX5_week 77 = .ok (.ireturn, 1) := by decide +kernel
theorem dX5_week_78 : decode cX5_week 78 = .ok (.aload_n 0, 1) := by decide +kernel
theorem dX5_week_79 : decode cX5_week 79 = .ok (.getfield 25, 3) := by decide +kernel
theorem dX5_week_82 : decode cX5_week 82 = .ok (.aload_n 0, 1) := by decide +kernel
theorem dX5_week_83 : decode cX5_week 83 = .ok (.getfield 10, 3) := by decide +kernel
theorem dX5_week_86 : decode cX5_week 86 = .ok (.iload_n 2, 1) := by decide +kernel
theorem dX5_week_87 : decode cX5_week 87 = .ok (.iload_n 3, 1) := by decide +kernel
theorem dX5_week_88 : decode cX5_week 88 = .ok (.invokevirtual 176, 3) := by decide +kernel
theorem dX5_week_91 : decode cX5_week 91 = .ok (.aload_n 0, 1) := by decide +kernel
theorem dX5_week_92 : decode cX5_week 92 = .ok (.getfield 25, 3) := by decide +kernel
theorem dX5_week_95 : decode cX5_week 95 = .ok (.aload 6, 2) := by decide +kernel
theorem dX5_week_97 : decode cX5_week 97 = .ok (.invokevirtual 189, 3) := by decide +kernel
theorem dX5_week_100 : decode cX5_week 100 = .ok (.iload 4, 2) := by decide +kernel
theorem dX5_week_102 : decode cX5_week 102 = .ok (.ifCond .ne 13, 3) := by decide +kernel
theorem dX5_week_105 : decode cX5_week 105 = .ok (.aload_n 0, 1) := by decide +kernel
theorem dX5_week_106 : decode cX5_week 106 = .ok (.getfield 25, 3) := by decide +kernel
theorem dX5_week_109 : decode cX5_week 109 = .ok (.getfield 193, 3) := by decide +kernel
theorem dX5_week_112 : decode cX5_week 112 = .ok (.goto 10, 3) := by decide +kernel
theorem dX5_week_115 : decode cX5_week 115 = .ok (.aload_n 0, 1) := by decide +kernel
theorem dX5_week_116 : decode cX5_week 116 = .ok (.getfield 25, 3) := by decide +kernel
theorem dX5_week_119 : decode cX5_week 119 = .ok (.getfield 196, 3) := by decide +kernel
theorem dX5_week_122 : decode cX5_week 122 = .ok (.ireturn, 1) := by decide +kernel
theorem dX5_bring_0 : decode cX5_bring 0 = .ok (.aload_n 0, 1) := by decide +kernel
theorem dX5_bring_1 : decode cX5_bring 1 = .ok (.getfield 10, 3) := by decide +kernel
theorem dX5_bring_4 : decode cX5_bring 4 = .ok (.iload_n 1, 1) := by decide +kernel
theorem dX5_bring_5 : decode cX5_bring 5 = .ok (.invokevirtual 79, 3) := by decide +kernel
theorem dX5_bring_8 : decode cX5_bring 8 = .ok (.ifCond .eq 33, 3) := by decide +kernel
theorem dX5_bring_11 : decode cX5_bring 11 = .ok (.iload_n 2, 1) := by decide +kernel
theorem dX5_bring_12 : decode cX5_bring 12 = .ok (.invokestatic 120, 3) := by decide +kernel
theorem dX5_bring_15 : decode cX5_bring 15 = .ok (.ifCond .ne 26, 3) := by decide +kernel
theorem dX5_bring_18 : decode cX5_bring 18 = .ok (.iload_n 3, 1) := by decide +kernel
theorem dX5_bring_19 : decode cX5_bring 19 = .ok (.invokestatic 144, 3) := by decide +kernel
theorem dX5_bring_22 : decode cX5_bring 22 = .ok (.ifCond .ne 19, 3) := by decide +kernel
theorem dX5_bring_25 : decode cX5_bring 25 = .ok (.iload 4, 2) := by decide +kernel
theorem dX5_bring_27 : decode cX5_bring 27 = .ok (.invokestatic 199, 3) := by decide +kernel
theorem dX5_bring_30 : decode cX5_bring 30 = .ok (.ifCond .ne 11, 3) := by decide +kernel
theorem dX5_bring_33 : decode cX5_bring 33 = .ok (.iload 5, 2) := by decide +kernel
theorem dX5_bring_35 : decode cX5_bring 35 = .ok (.invokestatic 108, 3) := by decide +kernel
theorem dX5_bring_38 : decode cX5_bring 38 = .ok (.ifCond .eq 5, 3) := by decide +kernel
theorem dX5_bring_41 : decode cX5_bring 41 = .ok (.iconst (-1), 1) := by decide +kernel
theorem dX5_bring_42 : decode cX5_bring 42 = .ok (.ireturn, 1) := by decide +kernel
theorem dX5_bring_43 : decode cX5_bring 43 = .ok (.aload_n 0, 1) := by decide +kernel
theorem dX5_bring_44 : decode cX5_bring 44 = .ok (.getfield 10, 3) := by decide +kernel
theorem dX5_bring_47 : decode cX5_bring 47 = .ok (.getfield 86, 3) := by decide +kernel
theorem dX5_bring_50 : decode cX5_bring 50 = .ok (.iload_n 1, 1) := by decide +kernel
theorem dX5_bring_51 : decode cX5_bring 51 = .ok (.aaload, 1) := by decide +kernel
theorem dX5_bring_52 : decode cX5_bring 52 = .ok (.getfield 102, 3) := by decide +kernel
theorem dX5_bring_55 : decode cX5_bring 55 = .ok (.astore 6, 2) := by decide +kernel
theorem dX5_bring_57 : decode cX5_bring 57 = .ok (.iconst 0, 1) := by decide +kernel
theorem dX5_bring_58 : decode cX5_bring 58 = .ok (.istore 7, 2) := by decide +kernel
theorem dX5_bring_60 : decode cX5_bring 60 = .ok (.iload 7, 2) := by decide +kernel
theorem dX5_bring_62 : decode cX5_bring 62 = .ok (.iconst 3, 1) := by decide +kernel
theorem dX5_bring_63 : decode cX5_bring 63 = .ok (.if_icmp .gt 59, 3) := by decide +kernel
theorem dX5_bring_66 : decode cX5_bring 66 = .ok (.aload 6, 2) := by decide +kernel
theorem dX5_bring_68 : decode cX5_bring 68 = .ok (.getfield 105, 3) := by decide +kernel
theorem dX5_bring_71 : decode cX5_bring 71 = .ok (.iload 7, 2) := by decide +kernel
theorem dX5_bring_73 : decode cX5_bring 73 = .ok (.iadd, 1) := by decide +kernel
theorem dX5_bring_74 : decode cX5_bring 74 = .ok (.bipush 12, 2) := by decide +kernel
theorem dX5_bring_76 : decode cX5_bring 76 = .ok (.if_icmp .gt 46, 3) := by decide +kernel
theorem dX5_bring_79 : decode cX5_bring 79 = .ok (.aload_n 0, 1) := by decide +kernel
theorem dX5_bring_80 : decode cX5_bring 80 = .ok (.aload 6, 2) := by decide +kernel
theorem dX5_bring_82 : decode cX5_bring 82 = .ok (.iload_n 2, 1) := by decide +kernel
theorem dX5_bring_83 : decode cX5_bring 83 = .ok (.iload_n 3, 1) := by decide +kernel
theorem dX5_bring_84 : decode cX5_bring 84 = .ok (.iload 4, 2) := by decide +kernel
theorem dX5_bring_86 : decode cX5_bring 86 = .ok (.iload 7, 2) := by decide +kernel
theorem dX5_bring_88 : decode cX5_bring 88 = .ok (.invokevirtual 202, 3) := by decide +kernel
theorem dX5_bring_91 : decode cX5_bring 91 = .ok (.istore 8, 2) := by decide +kernel
theorem dX5_bring_93 : decode cX5_bring 93 = .ok (.iload 8, 2) := by decide +kernel
theorem dX5_bring_95 : decode cX5_bring 95 = .ok (.ifCond .lt 21, 3) := by decide +kernel
theorem dX5_bring_98 : decode cX5_bring 98 = .ok (.iload 5, 2) := by decide +kernel
theorem dX5_bring_100 : decode cX5_bring 100 = .ok (.ifCond .ne 8, 3) := by decide +kernel
theorem dX5_bring_103 : decode cX5_bring 103 = .ok (.iload 7, 2) := by decide +kernel
theorem dX5_bring_105 : decode cX5_bring 105 = .ok (.goto 10, 3) := by decide +kernel
theorem dX5_bring_108 : decode cX5_bring 108 = .ok (.iload 8, 2) := by decide +kernel
theorem dX5_bring_110 : decode cX5_bring 110 = .ok (.iload 7, 2) := by decide +kernel
theorem dX5_bring_112 : decode cX5_bring 112 = .ok (.invokestatic 206, 3) := by decide +kernel
theorem dX5_bring_115 : decode cX5_bring 115 = .ok (.ireturn, 1) := by decide +kernel
theorem dX5_bring_116 : decode cX5_bring 116 = .ok (.iinc 7 1, 3) := by decide +kernel
theorem dX5_bring_119 : decode cX5_bring 119 = .ok (.goto (-59), 3) := by decide +kernel
theorem dX5_bring_122 : decode cX5_bring 122 = .ok (.bipush (-4), 2) := by decide +kernel
theorem dX5_bring_124 : decode cX5_bring 124 = .ok (.ireturn, 1) := by decide +kernel
theorem dX5_firstBringing_0 : decode cX5_firstBringing 0 = .ok (.iload 5, 2) := by decide +kernel
theorem dX5_firstBringing_2 : decode cX5_firstBringing 2 = .ok (.invokestatic 209, 3) := by decide +kernel
theorem dX5_firstBringing_5 : decode cX5_firstBringing 5 = .ok (.istore 6, 2) := by decide +kernel
theorem dX5_firstBringing_7 : decode cX5_firstBringing 7 = .ok (.iconst 0, 1) := by decide +kernel
theorem dX5_firstBringing_8 : decode cX5_firstBringing 8 = .ok (.istore 7, 2) := by decide +kernel
theorem dX5_firstBringing_10 : decode cX5_firstBringing 10 = .ok (.iload 7, 2) := by decide +kernel
theorem dX5_firstBringing_12 : decode cX5_firstBringing 12 = .ok (.iload 6, 2) := by decide +kernel
theorem dX5_firstBringing_14 : decode cX5_firstBringing 14 = .ok (.if_icmp .ge 45, 3) := by decide +kernel
theorem dX5_firstBringing_17 : decode cX5_firstBringing 17 = .ok (.aload_n 0, 1) := by decide +kernel
theorem dX5_firstBringing_18 : decode cX5_firstBringing 18 = .ok (.getfield 32, 3) := by decide +kernel
theorem dX5_firstBringing_21 : decode cX5_firstBringing 21 = .ok (.aload_n 1, 1) := by decide +kernel
theorem dX5_firstBringing_22 : decode cX5_firstBringing 22 = .ok (.invokevirtual 212, 3) := by decide +kernel
theorem dX5_firstBringing_25 : decode cX5_firstBringing 25 = .ok (.aload_n 0, 1) := by decide +kernel
theorem dX5_firstBringing_26 : decode cX5_firstBringing 26 = .ok (.getfield 32, 3) := by decide +kernel
theorem dX5_firstBringing_29 : decode cX5_firstBringing 29 = .ok (.iload 7, 2) := by decide +kernel
theorem dX5_firstBringing_31 : decode cX5_firstBringing 31 = .ok (.iload 5, 2) := by decide +kernel
theorem dX5_firstBringing_33 : decode cX5_firstBringing 33 = .ok (.iload 4, 2) := by decide +kernel
theorem dX5_firstBringing_35 : decode cX5_firstBringing 35 = .ok (.invokevirtual 215, 3) := by decide +kernel
theorem dX5_firstBringing_38 : decode cX5_firstBringing 38 = .ok (.aload_n 0, 1) := by decide +kernel
theorem dX5_firstBringing_39 : decode cX5_firstBringing 39 = .ok (.getfield 32, 3) := by decide +kernel
theorem dX5_firstBringing_42 : decode cX5_firstBringing 42 = .ok (.iload_n 2, 1) := by decide +kernel
theorem dX5_firstBringing_43 : decode cX5_firstBringing 43 = .ok (.iload_n 3, 1) := by decide +kernel
theorem dX5_firstBringing_44 : decode cX5_firstBringing 44 = .ok (.invokevirtual 147, 3) := by decide +kernel
theorem dX5_firstBringing_47 : decode cX5_firstBringing 47 = .ok (.ifCond .eq 6, 3) := by decide +kernel
theorem dX5_firstBringing_50 : decode cX5_firstBringing 50 = .ok (.iload 7, 2) := by decide +kernel
theorem dX5_firstBringing_52 : decode cX5_firstBringing 52 = .ok (.ireturn, 1) := by decide +kernel
theorem dX5_firstBringing_53 : decode cX5_firstBringing 53 = .ok (.iinc 7 1, 3) := by decide +kernel
theorem dX5_firstBringing_56 : decode cX5_firstBringing 56 = .ok (.goto (-46), 3) := by decide +kernel
theorem dX5_firstBringing_59 : decode cX5_firstBringing 59 = .ok (.bipush (-4), 2) := by decide +kernel
theorem dX5_firstBringing_61 : decode cX5_firstBringing 61 = .ok (.ireturn, 1) := by decide +kernel
theorem dX5_mayHave_0 : decode cX5_mayHave 0 = .ok (.aload_n 0, 1) := by decide +kernel
theorem dX5_mayHave_1 : decode cX5_mayHave 1 = .ok (.getfield 10, 3) := by decide +kernel
theorem dX5_mayHave_4 : decode cX5_mayHave 4 = .ok (.iload_n 1, 1) := by decide +kernel
theorem dX5_mayHave_5 : decode cX5_mayHave 5 = .ok (.invokevirtual 79, 3) := by decide +kernel
theorem dX5_mayHave_8 : decode cX5_mayHave 8 = .ok (.ifCond .eq 28, 3) := by decide +kernel
theorem dX5_mayHave_11 : decode cX5_mayHave 11 = .ok (.iload_n 2, 1) := by decide +kernel
theorem dX5_mayHave_12 : decode cX5_mayHave 12 = .ok (.iconst 1, 1) := by decide +kernel
theorem dX5_mayHave_13 : decode cX5_mayHave 13 = .ok (.if_icmp .lt 23, 3) := by decide +kernel
theorem dX5_mayHave_16 : decode cX5_mayHave 16 = .ok (.iload_n 2, 1) := by decide +kernel
theorem dX5_mayHave_17 : decode cX5_mayHave 17 = .ok (.iconst 3, 1) := by decide +kernel
theorem dX5_mayHave_18 : decode cX5_mayHave 18 = .ok (.if_icmp .gt 18, 3) := by decide +kernel
theorem dX5_mayHave_21 : decode cX5_mayHave 21 = .ok (.iload_n 3, 1) := by decide +kernel
theorem dX5_mayHave_22 : decode cX5_mayHave 22 = .ok (.invokestatic 199, 3) := by decide +kernel
theorem dX5_mayHave_25 : decode cX5_mayHave 25 = .ok (.ifCond .ne 11, 3) := by decide +kernel
theorem dX5_mayHave_28 : decode cX5_mayHave 28 = .ok (.iload 4, 2) := by decide +kernel
theorem dX5_mayHave_30 : decode cX5_mayHave 30 = .ok (.invokestatic 108, 3) := by decide +kernel
theorem dX5_mayHave_33 : decode cX5_mayHave 33 = .ok (.ifCond .eq 5, 3) := by decide +kernel
theorem dX5_mayHave_36 : decode cX5_mayHave 36 = .ok (.iconst (-1), 1) := by decide +kernel
theorem dX5_mayHave_37 : decode cX5_mayHave 37 = .ok (.ireturn, 1) := by decide +kernel
theorem dX5_mayHave_38 : decode cX5_mayHave 38 = .ok (.aload_n 0, 1) := by decide +kernel
theorem dX5_mayHave_39 : decode cX5_mayHave 39 = .ok (.getfield 10, 3) := by decide +kernel
theorem dX5_mayHave_42 : decode cX5_mayHave 42 = .ok (.getfield 86, 3) := by decide +kernel
theorem dX5_mayHave_45 : decode cX5_mayHave 45 = .ok (.iload_n 1, 1) := by decide +kernel
theorem dX5_mayHave_46 : decode cX5_mayHave 46 = .ok (.aaload, 1) := by decide +kernel
theorem dX5_mayHave_47 : decode cX5_mayHave 47 = .ok (.getfield 102, 3) := by decide +kernel
theorem dX5_mayHave_50 : decode cX5_mayHave 50 = .ok (.astore 5, 2) := by decide +kernel
theorem dX5_mayHave_52 : decode cX5_mayHave 52 = .ok (.iconst 0, 1) := by decide +kernel
theorem dX5_mayHave_53 : decode cX5_mayHave 53 = .ok (.istore 6, 2) := by decide +kernel
theorem dX5_mayHave_55 : decode cX5_mayHave 55 = .ok (.bipush (-4), 2) := by decide +kernel
theorem dX5_mayHave_57 : decode cX5_mayHave 57 = .ok (.istore 7, 2) := by decide +kernel
theorem dX5_mayHave_59 : decode cX5_mayHave 59 = .ok (.iload_n 2, 1) := by decide +kernel
theorem dX5_mayHave_60 : decode cX5_mayHave 60 = .ok (.invokestatic 209, 3) := by decide +kernel
theorem dX5_mayHave_63 : decode cX5_mayHave 63 = .ok (.istore 8, 2) := by decide +kernel
theorem dX5_mayHave_65 : decode cX5_mayHave 65 = .ok (.iconst 0, 1) := by decide +kernel
theorem dX5_mayHave_66 : decode cX5_mayHave 66 = .ok (.istore 9, 2) := by decide +kernel
theorem dX5_mayHave_68 : decode cX5_mayHave 68 = .ok (.iload 9, 2) := by decide +kernel
theorem dX5_mayHave_70 : decode cX5_mayHave 70 = .ok (.iload 8, 2) := by decide +kernel
theorem dX5_mayHave_72 : decode cX5_mayHave 72 = .ok (.if_icmp .ge 60, 3) := by decide +kernel
theorem dX5_mayHave_75 : decode cX5_mayHave 75 = .ok (.aload_n 0, 1) := by decide +kernel
theorem dX5_mayHave_76 : decode cX5_mayHave 76 = .ok (.getfield 32, 3) := by decide +kernel
theorem dX5_mayHave_79 : decode cX5_mayHave 79 = .ok (.invokevirtual 219, 3) := by decide +kernel
theorem dX5_mayHave_82 : decode cX5_mayHave 82 = .ok (.aload_n 0, 1) := by decide +kernel
theorem dX5_mayHave_83 : decode cX5_mayHave 83 = .ok (.getfield 32, 3) := by decide +kernel
theorem dX5_mayHave_86 : decode cX5_mayHave 86 = .ok (.iload 9, 2) := by decide +kernel
theorem dX5_mayHave_88 : decode cX5_mayHave 88 = .ok (.iload_n 2, 1) := by decide +kernel
theorem dX5_mayHave_89 : decode cX5_mayHave 89 = .ok (.iload_n 3, 1) := by decide +kernel
theorem dX5_mayHave_90 : decode cX5_mayHave 90 = .ok (.invokevirtual 215, 3) := by decide +kernel
theorem dX5_mayHave_93 : decode cX5_mayHave 93 = .ok (.aload_n 0, 1) := by decide +kernel
theorem dX5_mayHave_94 : decode cX5_mayHave 94 = .ok (.getfield 32, 3) := by decide +kernel
theorem dX5_mayHave_97 : decode cX5_mayHave 97 = .ok (.aload 5, 2) := by decide +kernel
theorem dX5_mayHave_99 : decode cX5_mayHave 99 = .ok (.invokevirtual 222, 3) := by decide +kernel
theorem dX5_mayHave_102 : decode cX5_mayHave 102 = .ok (.ifCond .eq 24, 3) := by decide +kernel
theorem dX5_mayHave_105 : decode cX5_mayHave 105 = .ok (.iload 6, 2) := by decide +kernel
theorem dX5_mayHave_107 : decode cX5_mayHave 107 = .ok (.ifCond .ne 12, 3) := by decide +kernel
theorem dX5_mayHave_110 : decode cX5_mayHave 110 = .ok (.iload 9, 2) := by decide +kernel
theorem dX5_mayHave_112 : decode cX5_mayHave 112 = .ok (.iload_n 2, 1) := by decide +kernel
theorem dX5_mayHave_113 : decode cX5_mayHave 113 = .ok (.invokestatic 226, 3) := by decide +kernel
theorem dX5_mayHave_116 : decode cX5_mayHave 116 = .ok (.goto 5, 3) := by decide +kernel
theorem dX5_mayHave_119 : decode cX5_mayHave 119 = .ok (.iload 7, 2) := by decide +kernel
theorem dX5_mayHave_121 : decode cX5_mayHave 121 = .ok (.istore 7, 2) := by decide +kernel
theorem dX5_mayHave_123 : decode cX5_mayHave 123 = .ok (.iinc 6 1, 3) := by decide +kernel
theorem dX5_mayHave_126 : decode cX5_mayHave 126 = .ok (.iinc 9 1, 3) := by decide +kernel
theorem dX5_mayHave_129 : decode cX5_mayHave 129 = .ok (.goto (-61), 3) := by decide +kernel
theorem dX5_mayHave_132 : decode cX5_mayHave 132 = .ok (.iload 4, 2) := by decide +kernel
theorem dX5_mayHave_134 : decode cX5_mayHave 134 = .ok (.ifCond .ne 8, 3) := by decide +kernel
theorem dX5_mayHave_137 : decode cX5_mayHave 137 = .ok (.iload 6, 2) := by decide +kernel
theorem dX5_mayHave_139 : decode cX5_mayHave 139 = .ok (.goto 5, 3) := by decide +kernel
theorem dX5_mayHave_142 : decode cX5_mayHave 142 = .ok (.iload 7, 2) := by decide +kernel
theorem dX5_mayHave_144 : decode cX5_mayHave 144 = .ok (.ireturn, 1) := by decide +kernel
theorem dX5_tells_0 : decode cX5_tells 0 = .ok (.iload_n 1, 1) := by decide +kernel
theorem dX5_tells_1 : decode cX5_tells 1 = .ok (.invokestatic 108, 3) := by decide +kernel
theorem dX5_tells_4 : decode cX5_tells 4 = .ok (.ifCond .eq 5, 3) := by decide +kernel
theorem dX5_tells_7 : decode cX5_tells 7 = .ok (.iconst (-1), 1) := by decide +kernel
theorem dX5_tells_8 : decode cX5_tells 8 = .ok (.ireturn, 1) := by decide +kernel
theorem dX5_tells_9 : decode cX5_tells 9 = .ok (.aload_n 0, 1) := by decide +kernel
theorem dX5_tells_10 : decode cX5_tells 10 = .ok (.getfield 10, 3) := by decide +kernel
theorem dX5_tells_13 : decode cX5_tells 13 = .ok (.getfield 78, 3) := by decide +kernel
theorem dX5_tells_16 : decode cX5_tells 16 = .ok (.ifCond .ne 6, 3) := by decide +kernel
theorem dX5_tells_19 : decode cX5_tells 19 = .ok (.bipush (-4), 2) := by decide +kernel
theorem dX5_tells_21 : decode cX5_tells 21 = .ok (.ireturn, 1) := by decide +kernel
theorem dX5_tells_22 : decode cX5_tells 22 = .ok (.iconst 0, 1) := by decide +kernel
