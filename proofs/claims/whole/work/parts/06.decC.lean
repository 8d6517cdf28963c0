theorem dX5_init_0 : decode cX5_init 0 = .ok (.aload_n 0, 1) := by decide +kernel
theorem dX5_init_1 : decode cX5_init 1 = .ok (.invokespecial 1, 3) := by decide +kernel
theorem dX5_init_4 : decode cX5_init 4 = .ok (.aload_n 0, 1) := by decide +kernel
theorem dX5_init_5 : decode cX5_init 5 = .ok (.bipush 59, 2) := by decide +kernel
theorem dX5_init_7 : decode cX5_init 7 = .ok (.newarray .int, 2) := by decide +kernel
theorem dX5_init_9 : decode cX5_init 9 = .ok (.putfield 7, 3) := by decide +kernel
theorem dX5_init_12 : decode cX5_init 12 = .ok (.aload_n 0, 1) := by decide +kernel
theorem dX5_init_13 : decode cX5_init 13 = .ok (.sipush 354, 3) := by decide +kernel
theorem dX5_init_16 : decode cX5_init 16 = .ok (.newarray .int, 2) := by decide +kernel
theorem dX5_init_18 : decode cX5_init 18 = .ok (.putfield 13, 3) := by decide +kernel
theorem dX5_init_21 : decode cX5_init 21 = .ok (.aload_n 0, 1) := by decide +kernel
theorem dX5_init_22 : decode cX5_init 22 = .ok (.bipush 118, 2) := by decide +kernel
theorem dX5_init_24 : decode cX5_init 24 = .ok (.newarray .int, 2) := by decide +kernel
theorem dX5_init_26 : decode cX5_init 26 = .ok (.putfield 16, 3) := by decide +kernel
theorem dX5_init_29 : decode cX5_init 29 = .ok (.aload_n 0, 1) := by decide +kernel
theorem dX5_init_30 : decode cX5_init 30 = .ok (.iconst 2, 1) := by decide +kernel
theorem dX5_init_31 : decode cX5_init 31 = .ok (.newarray .boolean, 2) := by decide +kernel
theorem dX5_init_33 : decode cX5_init 33 = .ok (.putfield 19, 3) := by decide +kernel
theorem dX5_init_36 : decode cX5_init 36 = .ok (.aload_n 0, 1) := by decide +kernel
theorem dX5_init_37 : decode cX5_init 37 = .ok (.bipush 10, 2) := by decide +kernel
theorem dX5_init_39 : decode cX5_init 39 = .ok (.putfield 23, 3) := by decide +kernel
theorem dX5_init_42 : decode cX5_init 42 = .ok (.aload_n 0, 1) := by decide +kernel
theorem dX5_init_43 : decode cX5_init 43 = .ok (.bipush 12, 2) := by decide +kernel
theorem dX5_init_45 : decode cX5_init 45 = .ok (.newarray .int, 2) := by decide +kernel
theorem dX5_init_47 : decode cX5_init 47 = .ok (.putfield 27, 3) := by decide +kernel
theorem dX5_init_50 : decode cX5_init 50 = .ok (.aload_n 0, 1) := by decide +kernel
theorem dX5_init_51 : decode cX5_init 51 = .ok (.sipush 160, 3) := by decide +kernel
theorem dX5_init_54 : decode cX5_init 54 = .ok (.newarray .int, 2) := by decide +kernel
theorem dX5_init_56 : decode cX5_init 56 = .ok (.putfield 30, 3) := by decide +kernel
theorem dX5_init_59 : decode cX5_init 59 = .ok (.aload_n 0, 1) := by decide +kernel
theorem dX5_init_60 : decode cX5_init 60 = .ok (.bipush 59, 2) := by decide +kernel
theorem dX5_init_62 : decode cX5_init 62 = .ok (.newarray .int, 2) := by decide +kernel
theorem dX5_init_64 : decode cX5_init 64 = .ok (.putfield 33, 3) := by decide +kernel
theorem dX5_init_67 : decode cX5_init 67 = .ok (.aload_n 0, 1) := by decide +kernel
theorem dX5_init_68 : decode cX5_init 68 = .ok (.bipush 9, 2) := by decide +kernel
theorem dX5_init_70 : decode cX5_init 70 = .ok (.newarray .int, 2) := by decide +kernel
theorem dX5_init_72 : decode cX5_init 72 = .ok (.putfield 36, 3) := by decide +kernel
theorem dX5_init_75 : decode cX5_init 75 = .ok (.aload_n 0, 1) := by decide +kernel
theorem dX5_init_76 : decode cX5_init 76 = .ok (.bipush 9, 2) := by decide +kernel
theorem dX5_init_78 : decode cX5_init 78 = .ok (.newarray .int, 2) := by decide +kernel
theorem dX5_init_80 : decode cX5_init 80 = .ok (.putfield 39, 3) := by decide +kernel
theorem dX5_init_83 : decode cX5_init 83 = .ok (.aload_n 0, 1) := by decide +kernel
theorem dX5_init_84 : decode cX5_init 84 = .ok (.bipush 9, 2) := by decide +kernel
theorem dX5_init_86 : decode cX5_init 86 = .ok (.newarray .int, 2) := by decide +kernel
theorem dX5_init_88 : decode cX5_init 88 = .ok (.putfield 42, 3) := by decide +kernel
theorem dX5_init_91 : decode cX5_init 91 = .ok (.aload_n 0, 1) := by decide +kernel
theorem dX5_init_92 : decode cX5_init 92 = .ok (.bipush 9, 2) := by decide +kernel
theorem dX5_init_94 : decode cX5_init 94 = .ok (.newarray .int, 2) := by decide +kernel
theorem dX5_init_96 : decode cX5_init 96 = .ok (.putfield 45, 3) := by decide +kernel
theorem dX5_init_99 : decode cX5_init 99 = .ok (.aload_n 0, 1) := by decide +kernel
theorem dX5_init_100 : decode cX5_init 100 = .ok (.sipush 361, 3) := by decide +kernel
theorem dX5_init_103 : decode cX5_init 103 = .ok (.newarray .boolean, 2) := by decide +kernel
theorem dX5_init_105 : decode cX5_init 105 = .ok (.putfield 48, 3) := by decide +kernel
theorem dX5_init_108 : decode cX5_init 108 = .ok (.aload_n 0, 1) := by decide +kernel
theorem dX5_init_109 : decode cX5_init 109 = .ok (.sipush 2888, 3) := by decide +kernel
theorem dX5_init_112 : decode cX5_init 112 = .ok (.newarray .int, 2) := by decide +kernel
theorem dX5_init_114 : decode cX5_init 114 = .ok (.putfield 51, 3) := by decide +kernel
theorem dX5_init_117 : decode cX5_init 117 = .ok (.aload_n 0, 1) := by decide +kernel
theorem dX5_init_118 : decode cX5_init 118 = .ok (.bipush 100, 2) := by decide +kernel
theorem dX5_init_120 : decode cX5_init 120 = .ok (.newarray .int, 2) := by decide +kernel
theorem dX5_init_122 : decode cX5_init 122 = .ok (.putfield 54, 3) := by decide +kernel
theorem dX5_init_125 : decode cX5_init 125 = .ok (.return_, 1) := by decide +kernel
theorem dX5_in_0 : decode cX5_in 0 = .ok (.iload_n 0, 1) := by decide +kernel
theorem dX5_in_1 : decode cX5_in 1 = .ok (.iload_n 1, 1) := by decide +kernel
theorem dX5_in_2 : decode cX5_in 2 = .ok (.if_icmp .lt 12, 3) := by decide +kernel
theorem dX5_in_5 : decode cX5_in 5 = .ok (.iload_n 0, 1) := by decide +kernel
theorem dX5_in_6 : decode cX5_in 6 = .ok (.iload_n 2, 1) := by decide +kernel
theorem dX5_in_7 : decode cX5_in 7 = .ok (.if_icmp .gt 7, 3) := by decide +kernel
theorem dX5_in_10 : decode cX5_in 10 = .ok (.iconst 1, 1) := by decide +kernel
theorem dX5_in_11 : decode cX5_in 11 = .ok (.goto 4, 3) := by decide +kernel
theorem dX5_in_14 : decode cX5_in 14 = .ok (.iconst 0, 1) := by decide +kernel
theorem dX5_in_15 : decode cX5_in 15 = .ok (.ireturn, 1) := by decide +kernel
theorem dX5_ofPile_0 : decode cX5_ofPile 0 = .ok (.aload_n 0, 1) := by decide +kernel
theorem dX5_ofPile_1 : decode cX5_ofPile 1 = .ok (.getfield 7, 3) := by decide +kernel
theorem dX5_ofPile_4 : decode cX5_ofPile 4 = .ok (.iconst 1, 1) := by decide +kernel
theorem dX5_ofPile_5 : decode cX5_ofPile 5 = .ok (.iconst 5, 1) := by decide +kernel
theorem dX5_ofPile_6 : decode cX5_ofPile 6 = .ok (.iload_n 1, 1) := by decide +kernel
theorem dX5_ofPile_7 : decode cX5_ofPile 7 = .ok (.imul, 1) := by decide +kernel
theorem dX5_ofPile_8 : decode cX5_ofPile 8 = .ok (.iadd, 1) := by decide +kernel
theorem dX5_ofPile_9 : decode cX5_ofPile 9 = .ok (.iload_n 2, 1) := by decide +kernel
theorem dX5_ofPile_10 : decode cX5_ofPile 10 = .ok (.iadd, 1) := by decide +kernel
theorem dX5_ofPile_11 : decode cX5_ofPile 11 = .ok (.iaload, 1) := by decide +kernel
theorem dX5_ofPile_12 : decode cX5_ofPile 12 = .ok (.ireturn, 1) := by decide +kernel
theorem dX5_ofColumn_0 : decode cX5_ofColumn 0 = .ok (.aload_n 0, 1) := by decide +kernel
theorem dX5_ofColumn_1 : decode cX5_ofColumn 1 = .ok (.getfield 7, 3) := by decide +kernel
theorem dX5_ofColumn_4 : decode cX5_ofColumn 4 = .ok (.bipush 42, 2) := by decide +kernel
theorem dX5_ofColumn_6 : decode cX5_ofColumn 6 = .ok (.iconst 3, 1) := by decide +kernel
theorem dX5_ofColumn_7 : decode cX5_ofColumn 7 = .ok (.iload_n 1, 1) := by decide +kernel
theorem dX5_ofColumn_8 : decode cX5_ofColumn 8 = .ok (.imul, 1) := by decide +kernel
theorem dX5_ofColumn_9 : decode cX5_ofColumn 9 = .ok (.iadd, 1) := by decide +kernel
theorem dX5_ofColumn_10 : decode cX5_ofColumn 10 = .ok (.iload_n 2, 1) := by decide +kernel
theorem dX5_ofColumn_11 : decode cX5_ofColumn 11 = .ok (.iadd, 1) := by decide +kernel
theorem dX5_ofColumn_12 : decode cX5_ofColumn 12 = .ok (.iaload, 1) := by decide +kernel
theorem dX5_ofColumn_13 : decode cX5_ofColumn 13 = .ok (.ireturn, 1) := by decide +kernel
theorem dX5_isPile_0 : decode cX5_isPile 0 = .ok (.iload_n 1, 1) := by decide +kernel
theorem dX5_isPile_1 : decode cX5_isPile 1 = .ok (.iconst 0, 1) := by decide +kernel
theorem dX5_isPile_2 : decode cX5_isPile 2 = .ok (.aload_n 0, 1) := by decide +kernel
theorem dX5_isPile_3 : decode cX5_isPile 3 = .ok (.getfield 7, 3) := by decide +kernel
theorem dX5_isPile_6 : decode cX5_isPile 6 = .ok (.iconst 0, 1) := by decide +kernel
theorem dX5_isPile_7 : decode cX5_isPile 7 = .ok (.iaload, 1) := by decide +kernel
theorem dX5_isPile_8 : decode cX5_isPile 8 = .ok (.iconst 1, 1) := by decide +kernel
theorem dX5_isPile_9 : decode cX5_isPile 9 = .ok (.isub, 1) := by decide +kernel
theorem dX5_isPile_10 : decode cX5_isPile 10 = .ok (.invokestatic 57, 3) := by decide +kernel
theorem dX5_isPile_13 : decode cX5_isPile 13 = .ok (.ireturn, 1) := by decide +kernel
theorem dX5_isColumn_0 : decode cX5_isColumn 0 = .ok (.iload_n 1, 1) := by decide +kernel
theorem dX5_isColumn_1 : decode cX5_isColumn 1 = .ok (.iconst 0, 1) := by decide +kernel
theorem dX5_isColumn_2 : decode cX5_isColumn 2 = .ok (.aload_n 0, 1) := by decide +kernel
theorem dX5_isColumn_3 : decode cX5_isColumn 3 = .ok (.getfield 7, 3) := by decide +kernel
theorem dX5_isColumn_6 : decode cX5_isColumn 6 = .ok (.bipush 41, 2) := by decide +kernel
theorem dX5_isColumn_8 : decode cX5_isColumn 8 = .ok (.iaload, 1) := by decide +kernel
theorem dX5_isColumn_9 : decode cX5_isColumn 9 = .ok (.iconst 1, 1) := by decide +kernel
theorem dX5_isColumn_10 : decode cX5_isColumn 10 = .ok (.isub, 1) := by decide +kernel
theorem dX5_isColumn_11 : decode cX5_isColumn 11 = .ok (.invokestatic 57, 3) := by decide +kernel
theorem dX5_isColumn_14 : decode cX5_isColumn 14 = .ok (.ireturn, 1) := by decide +kernel
theorem dX5_isPlace_0 : decode cX5_isPlace 0 = .ok (.iload_n 0, 1) := by decide +kernel
theorem dX5_isPlace_1 : decode cX5_isPlace 1 = .ok (.bipush (-9), 2) := by decide +kernel
theorem dX5_isPlace_3 : decode cX5_isPlace 3 = .ok (.bipush 9, 2) := by decide +kernel
theorem dX5_isPlace_5 : decode cX5_isPlace 5 = .ok (.invokestatic 57, 3) := by decide +kernel
theorem dX5_isPlace_8 : decode cX5_isPlace 8 = .ok (.ifCond .eq 18, 3) := by decide +kernel
theorem dX5_isPlace_11 : decode cX5_isPlace 11 = .ok (.iload_n 1, 1) := by decide +kernel
theorem dX5_isPlace_12 : decode cX5_isPlace 12 = .ok (.bipush (-9), 2) := by decide +kernel
theorem dX5_isPlace_14 : decode cX5_isPlace 14 = .ok (.bipush 9, 2) := by decide +kernel
theorem dX5_isPlace_16 : decode cX5_isPlace 16 = .ok (.invokestatic 57, 3) := by decide +kernel
theorem dX5_isPlace_19 : decode cX5_isPlace 19 = .ok (.ifCond .eq 7, 3) := by decide +kernel
theorem dX5_isPlace_22 : decode cX5_isPlace 22 = .ok (.iconst 1, 1) := by decide +kernel
theorem dX5_isPlace_23 : decode cX5_isPlace 23 = .ok (.goto 4, 3) := by decide +kernel
theorem dX5_isPlace_26 : decode cX5_isPlace 26 = .ok (.iconst 0, 1) := by decide +kernel
theorem dX5_isPlace_27 : decode cX5_isPlace 27 = .ok (.ireturn, 1) := by decide +kernel
theorem dX5_type_0 : decode cX5_type 0 = .ok (.iload_n 1, 1) := by decide +kernel
theorem dX5_type_1 : decode cX5_type 1 = .ok (.iconst 0, 1) := by decide +kernel
theorem dX5_type_2 : decode cX5_type 2 = .ok (.sipush 255, 3) := by decide +kernel
theorem dX5_type_5 : decode cX5_type 5 = .ok (.invokestatic 57, 3) := by decide +kernel
theorem dX5_type_8 : decode cX5_type 8 = .ok (.ifCond .ne 5, 3) := by decide +kernel
theorem dX5_type_11 : decode cX5_type 11 = .ok (.iconst (-1), 1) := by decide +kernel
theorem dX5_type_12 : decode cX5_type 12 = .ok (.ireturn, 1) := by decide +kernel
theorem dX5_type_13 : decode cX5_type 13 = .ok (.aload_n 0, 1) := by decide +kernel
theorem dX5_type_14 : decode cX5_type 14 = .ok (.getfield 61, 3) := by decide +kernel
theorem dX5_type_17 : decode cX5_type 17 = .ok (.sipush 160, 3) := by decide +kernel
theorem dX5_type_20 : decode cX5_type 20 = .ok (.if_icmp .ne 6, 3) := by decide +kernel
theorem dX5_type_23 : decode cX5_type 23 = .ok (.bipush (-3), 2) := by decide +kernel
theorem dX5_type_25 : decode cX5_type 25 = .ok (.ireturn, 1) := by decide +kernel
theorem dX5_type_26 : decode cX5_type 26 = .ok (.aload_n 0, 1) := by decide +kernel
theorem dX5_type_27 : decode cX5_type 27 = .ok (.getfield 30, 3) := by decide +kernel
theorem dX5_type_30 : decode cX5_type 30 = .ok (.aload_n 0, 1) := by decide +kernel
theorem dX5_type_31 : decode cX5_type 31 = .ok (.getfield 61, 3) := by decide +kernel
theorem dX5_type_34 : decode cX5_type 34 = .ok (.iload_n 1, 1) := by decide +kernel
theorem dX5_type_35 : decode cX5_type 35 = .ok (.iastore, 1) := by decide +kernel
theorem dX5_type_36 : decode cX5_type 36 = .ok (.aload_n 0, 1) := by decide +kernel
theorem dX5_type_37 : decode cX5_type 37 = .ok (.dup, 1) := by decide +kernel
theorem dX5_type_38 : decode cX5_type 38 = .ok (.getfield 61, 3) := by decide +kernel
theorem dX5_type_41 : decode cX5_type 41 = .ok (.iconst 1, 1) := by decide +kernel
theorem dX5_type_42 : decode cX5_type 42 = .ok (.iadd, 1) := by decide +kernel
theorem dX5_type_43 : decode cX5_type 43 = .ok (.putfield 61, 3) := by decide +kernel
theorem dX5_type_46 : decode cX5_type 46 = .ok (.aload_n 0, 1) := by decide +kernel
theorem dX5_type_47 : decode cX5_type 47 = .ok (.getfield 61, 3) := by decide +kernel
theorem dX5_type_50 : decode cX5_type 50 = .ok (.ireturn, 1) := by decide +kernel
theorem dX5_clear_0 : decode cX5_clear 0 = .ok (.aload_n 0, 1) := by decide +kernel
theorem dX5_clear_1 : decode cX5_clear 1 = .ok (.getfield 61, 3) := by decide +kernel
theorem dX5_clear_4 : decode cX5_clear 4 = .ok (.istore_n 1, 1) := by decide +kernel
theorem dX5_clear_5 : decode cX5_clear 5 = .ok (.aload_n 0, 1) := by decide +kernel
theorem dX5_clear_6 : decode cX5_clear 6 = .ok (.iconst 0, 1) := by decide +kernel
theorem dX5_clear_7 : decode cX5_clear 7 = .ok (.putfield 61, 3) := by decide +kernel
theorem dX5_clear_10 : decode cX5_clear 10 = .ok (.iload_n 1, 1) := by decide +kernel
theorem dX5_clear_11 : decode cX5_clear 11 = .ok (.ireturn, 1) := by decide +kernel
theorem dX5_isFigure_0 : decode cX5_isFigure 0 = .ok (.aload_n 0, 1) := by decide +kernel
theorem dX5_isFigure_1 : decode cX5_isFigure 1 = .ok (.getfield 64, 3) := by decide +kernel
theorem dX5_isFigure_4 : decode cX5_isFigure 4 = .ok (.aload_n 0, 1) := by decide +kernel
theorem dX5_isFigure_5 : decode cX5_isFigure 5 = .ok (.getfield 61, 3) := by decide +kernel
theorem dX5_isFigure_8 : decode cX5_isFigure 8 = .ok (.if_icmp .ge 26, 3) := by decide +kernel
theorem dX5_isFigure_11 : decode cX5_isFigure 11 = .ok (.aload_n 0, 1) := by decide +kernel
theorem dX5_isFigure_12 : decode cX5_isFigure 12 = .ok (.getfield 30, 3) := by decide +kernel
theorem dX5_isFigure_15 : decode cX5_isFigure 15 = .ok (.aload_n 0, 1) := by decide +kernel
theorem dX5_isFigure_16 : decode cX5_isFigure 16 = .ok (.getfield 64, 3) := by decide +kernel
theorem dX5_isFigure_19 : decode cX5_isFigure 19 = .ok (.iaload, 1) := by decide +kernel
theorem dX5_isFigure_20 : decode cX5_isFigure 20 = .ok (.bipush 48, 2) := by decide +kernel
theorem dX5_isFigure_22 : decode cX5_isFigure 22 = .ok (.bipush 57, 2) := by decide +kernel
theorem dX5_isFigure_24 : decode cX5_isFigure 24 = .ok (.invokestatic 57, 3) := by decide +kernel
theorem dX5_isFigure_27 : decode cX5_isFigure 27 = .ok (.ifCond .eq 7, 3) := by decide +kernel
theorem dX5_isFigure_30 : decode cX5_isFigure 30 = .ok (.iconst 1, 1) := by decide +kernel
theorem dX5_isFigure_31 : decode cX5_isFigure 31 = .ok (.goto 4, 3) := by decide +kernel
theorem dX5_isFigure_34 : decode cX5_isFigure 34 = .ok (.iconst 0, 1) := by decide +kernel
theorem dX5_isFigure_35 : decode cX5_isFigure 35 = .ok (.ireturn, 1) := by decide +kernel
theorem dX5_next_0 : decode cX5_next 0 = .ok (.aload_n 0, 1) := by decide +kernel
theorem dX5_next_1 : decode cX5_next 1 = .ok (.getfield 64, 3) := by decide +kernel
theorem dX5_next_4 : decode cX5_next 4 = .ok (.aload_n 0, 1) := by decide +kernel
theorem dX5_next_5 : decode cX5_next 5 = .ok (.getfield 61, 3) := by decide +kernel
theorem dX5_next_8 : decode cX5_next 8 = .ok (.if_icmp .ge 30, 3) := by decide +kernel
theorem dX5_next_11 : decode cX5_next 11 = .ok (.aload_n 0, 1) := by decide +kernel
theorem dX5_next_12 : decode cX5_next 12 = .ok (.getfield 30, 3) := by decide +kernel
theorem dX5_next_15 : decode cX5_next 15 = .ok (.aload_n 0, 1) := by decide +kernel
theorem dX5_next_16 : decode cX5_next 16 = .ok (.getfield 64, 3) := by decide +kernel
theorem dX5_next_19 : decode cX5_next 19 = .ok (.iaload, 1) := by decide +kernel
theorem dX5_next_20 : decode cX5_next 20 = .ok (.bipush 32, 2) := by decide +kernel
theorem dX5_next_22 : decode cX5_next 22 = .ok (.if_icmp .ne 16, 3) := by decide +kernel
theorem dX5_next_25 : decode cX5_next 25 = .ok (.aload_n 0, 1) := by decide +kernel
theorem dX5_next_26 : decode cX5_next 26 = .ok (.dup, 1) := by decide +kernel
theorem dX5_next_27 : decode cX5_next 27 = .ok (.getfield 64, 3) := by decide +kernel
theorem dX5_next_30 : decode cX5_next 30 = .ok (.iconst 1, 1) := by decide +kernel
theorem dX5_next_31 : decode cX5_next 31 = .ok (.iadd, 1) := by decide +kernel
theorem dX5_next_32 : decode cX5_next 32 = .ok (.putfield 64, 3) := by decide +kernel
theorem dX5_next_35 : decode cX5_next 35 = .ok (.goto (-35), 3) := by decide +kernel
theorem dX5_next_38 : decode cX5_next 38 = .ok (.aload_n 0, 1) := by decide +kernel
theorem dX5_next_39 : decode cX5_next 39 = .ok (.aload_n 0, 1) := by decide +kernel
theorem dX5_next_40 : decode cX5_next 40 = .ok (.getfield 64, 3) := by decide +kernel
theorem dX5_next_43 : decode cX5_next 43 = .ok (.putfield 67, 3) := by decide +kernel
theorem dX5_next_46 : decode cX5_next 46 = .ok (.aload_n 0, 1) := by decide +kernel
theorem dX5_next_47 : decode cX5_next 47 = .ok (.getfield 64, 3) := by decide +kernel
theorem dX5_next_50 : decode cX5_next 50 = .ok (.aload_n 0, 1) := by decide +kernel
theorem dX5_next_51 : decode cX5_next 51 = .ok (.getfield 61, 3) := by decide +kernel
theorem dX5_next_54 : decode cX5_next 54 = .ok (.if_icmp .ne 9, 3) := by decide +kernel
theorem dX5_next_57 : decode cX5_next 57 = .ok (.aload_n 0, 1) := by decide +kernel
theorem dX5_next_58 : decode cX5_next 58 = .ok (.iconst (-1), 1) := by decide +kernel
theorem dX5_next_59 : decode cX5_next 59 = .ok (.putfield 70, 3) := by decide +kernel
theorem dX5_next_62 : decode cX5_next 62 = .ok (.return_, 1) := by decide +kernel
theorem dX5_next_63 : decode cX5_next 63 = .ok (.aload_n 0, 1) := by decide +kernel
theorem dX5_next_64 : decode cX5_next 64 = .ok (.invokevirtual 73, 3) := by decide +kernel
theorem dX5_next_67 : decode cX5_next 67 = .ok (.ifCond .ne 58, 3) := by decide +kernel
theorem dX5_next_70 : decode cX5_next 70 = .ok (.aload_n 0, 1) := by decide +kernel
theorem dX5_next_71 : decode cX5_next 71 = .ok (.getfield 30, 3) := by decide +kernel
theorem dX5_next_74 : decode cX5_next 74 = .ok (.aload_n 0, 1) := by decide +kernel
theorem dX5_next_75 : decode cX5_next 75 = .ok (.getfield 64, 3) := by decide +kernel
theorem dX5_next_78 : decode cX5_next 78 = .ok (.iaload, 1) := by decide +kernel
theorem dX5_next_79 : decode cX5_next 79 = .ok (.istore_n 1, 1) := by decide +kernel
theorem dX5_next_80 : decode cX5_next 80 = .ok (.aload_n 0, 1) := by decide +kernel
theorem dX5_next_81 : decode cX5_next 81 = .ok (.iload_n 1, 1) := by decide +kernel
theorem dX5_next_82 : decode cX5_next 82 = .ok (.bipush 112, 2) := by decide +kernel
theorem dX5_next_84 : decode cX5_next 84 = .ok (.if_icmp .eq 21, 3) := by decide +kernel
theorem dX5_next_87 : decode cX5_next 87 = .ok (.iload_n 1, 1) := by decide +kernel
theorem dX5_next_88 : decode cX5_next 88 = .ok (.bipush 99, 2) := by decide +kernel
theorem dX5_next_90 : decode cX5_next 90 = .ok (.if_icmp .eq 15, 3) := by decide +kernel
theorem dX5_next_93 : decode cX5_next 93 = .ok (.iload_n 1, 1) := by decide +kernel
theorem dX5_next_94 : decode cX5_next 94 = .ok (.bipush 119, 2) := by decide +kernel
theorem dX5_next_96 : decode cX5_next 96 = .ok (.if_icmp .eq 9, 3) := by decide +kernel
theorem dX5_next_99 : decode cX5_next 99 = .ok (.iload_n 1, 1) := by decide +kernel
theorem dX5_next_100 : decode cX5_next 100 = .ok (.bipush 59, 2) := by decide +kernel
theorem dX5_next_102 : decode cX5_next 102 = .ok (.if_icmp .ne 7, 3) := by decide +kernel
theorem dX5_next_105 : decode cX5_next 105 = .ok (.iload_n 1, 1) := by decide +kernel
theorem dX5_next_106 : decode cX5_next 106 = .ok (.goto 5, 3) := by decide +kernel
theorem dX5_next_109 : decode cX5_next 109 = .ok (.bipush (-2), 2) := by decide +kernel
theorem dX5_next_111 : decode cX5_next 111 = .ok (.putfield 70, 3) := by decide +kernel
theorem dX5_next_114 : decode cX5_next 114 = .ok (.aload_n 0, 1) := by decide +kernel
theorem dX5_next_115 : decode cX5_next 115 = .ok (.dup, 1) := by decide +kernel
theorem dX5_next_116 : decode cX5_next 116 = .ok (.getfield 64, 3) := by decide +kernel
theorem dX5_next_119 : decode cX5_next 119 = .ok (.iconst 1, 1) := by decide +kernel
theorem dX5_next_120 : decode cX5_next 120 = .ok (.iadd, 1) := by decide +kernel
theorem dX5_next_121 : decode cX5_next 121 = .ok (.putfield 64, 3) := by decide +kernel
theorem dX5_next_124 : decode cX5_next 124 = .ok (.return_, 1) := by decide +kernel
theorem dX5_next_125 : decode cX5_next 125 = .ok (.aload_n 0, 1) := by decide +kernel
theorem dX5_next_126 : decode cX5_next 126 = .ok (.iconst 0, 1) := by decide +kernel
theorem dX5_next_127 : decode cX5_next 127 = .ok (.putfield 77, 3) := by decide +kernel
theorem dX5_next_130 : decode cX5_next 130 = .ok (.aload_n 0, 1) := by decide +kernel
theorem dX5_next_131 : decode cX5_next 131 = .ok (.invokevirtual 73, 3) := by decide +kernel
theorem dX5_next_134 : decode cX5_next 134 = .ok (.ifCond .eq 56, 3) := by decide +kernel
theorem dX5_next_137 : decode cX5_next 137 = .ok (.aload_n 0, 1) := by decide +kernel
theorem dX5_next_138 : decode cX5_next 138 = .ok (.aload_n 0, 1) := by decide +kernel
theorem dX5_next_139 : decode cX5_next 139 = .ok (.getfield 77, 3) := by decide +kernel
theorem dX5_next_142 : decode cX5_next 142 = .ok (.sipush 198, 3) := by decide +kernel
theorem dX5_next_145 : decode cX5_next 145 = .ok (.if_icmp .le 9, 3) := by decide +kernel
theorem dX5_next_148 : decode cX5_next 148 = .ok (.sipush 199, 3) := by decide +kernel
theorem dX5_next_151 : decode cX5_next 151 = .ok (.goto 23, 3) := by decide +kernel
theorem dX5_next_154 : decode cX5_next 154 = .ok (.bipush 10, 2) := by decide +kernel
theorem dX5_next_156 : decode cX5_next 156 = .ok (.aload_n 0, 1) := by decide +kernel
theorem dX5_next_157 : decode cX5_next 157 = .ok (.getfield 77, 3) := by decide +kernel
theorem dX5_next_160 : decode cX5_next 160 = .ok (.imul, 1) := by decide +kernel
theorem dX5_next_161 : decode cX5_next 161 = .ok (.aload_n 0, 1) := by decide +kernel
theorem dX5_next_162 : decode cX5_next 162 = .ok (.getfield 30, 3) := by decide +kernel
theorem dX5_next_165 : decode cX5_next 165 = .ok (.aload_n 0, 1) := by decide +kernel
theorem dX5_next_166 : decode cX5_next 166 = .ok (.getfield 64, 3) := by decide +kernel
theorem dX5_next_169 : decode cX5_next 169 = .ok (.iaload, 1) := by decide +kernel
theorem dX5_next_170 : decode cX5_next 170 = .ok (.iadd, 1) := by decide +kernel
theorem dX5_next_171 : decode cX5_next 171 = .ok (.bipush 48, 2) := by decide +kernel
theorem dX5_next_173 : decode cX5_next 173 = .ok (.isub, 1) := by decide +kernel
theorem dX5_next_174 : decode cX5_next 174 = .ok (.putfield 77, 3) := by decide +kernel
theorem dX5_next_177 : decode cX5_next 177 = .ok (.aload_n 0, 1) := by decide +kernel
theorem dX5_next_178 : decode cX5_next 178 = .ok (.dup, 1) := by decide +kernel
theorem dX5_next_179 : decode cX5_next 179 = .ok (.getfield 64, 3) := by decide +kernel
theorem dX5_next_182 : decode cX5_next 182 = .ok (.iconst 1, 1) := by decide +kernel
theorem dX5_next_183 : decode cX5_next 183 = .ok (.iadd, 1) := by decide +kernel
theorem dX5_next_184 : decode cX5_next 184 = .ok (.putfield 64, 3) := by decide +kernel
theorem dX5_next_187 : decode cX5_next 187 = .ok (.goto (-57), 3) := by decide +kernel
theorem dX5_next_190 : decode cX5_next 190 = .ok (.aload_n 0, 1) := by decide +kernel
theorem dX5_next_191 : decode cX5_next 191 = .ok (.aload_n 0, 1) := by decide +kernel
theorem dX5_next_192 : decode cX5_next 192 = .ok (.getfield 77, 3) := by decide +kernel
theorem dX5_next_195 : decode cX5_next 195 = .ok (.sipush 198, 3) := by decide +kernel
theorem dX5_next_198 : decode cX5_next 198 = .ok (.if_icmp .gt 30, 3) := by decide +kernel
theorem dX5_next_201 : decode cX5_next 201 = .ok (.aload_n 0, 1) := by decide +kernel
theorem dX5_next_202 : decode cX5_next 202 = .ok (.getfield 30, 3) := by decide +kernel
theorem dX5_next_205 : decode cX5_next 205 = .ok (.aload_n 0, 1) := by decide +kernel
theorem dX5_next_206 : decode cX5_next 206 = .ok (.getfield 67, 3) := by decide +kernel
theorem dX5_next_209 : decode cX5_next 209 = .ok (.iaload, 1) := by decide +kernel
theorem dX5_next_210 : decode cX5_next 210 = .ok (.bipush 48, 2) := by decide +kernel
theorem dX5_next_212 : decode cX5_next 212 = .ok (.if_icmp .ne 21, 3) := by decide +kernel
theorem dX5_next_215 : decode cX5_next 215 = .ok (.aload_n 0, 1) := by decide +kernel
theorem dX5_next_216 : decode cX5_next 216 = .ok (.getfield 64, 3) := by decide +kernel
theorem dX5_next_219 : decode cX5_next 219 = .ok (.aload_n 0, 1) := by decide +kernel
theorem dX5_next_220 : decode cX5_next 220 = .ok (.getfield 67, 3) := by decide +kernel
theorem dX5_next_223 : decode cX5_next 223 = .ok (.iconst 1, 1) := by decide +kernel
theorem dX5_next_224 : decode cX5_next 224 = .ok (.iadd, 1) := by decide +kernel
theorem dX5_next_225 : decode cX5_next 225 = .ok (.if_icmp .le 8, 3) := by decide +kernel
theorem dX5_next_228 : decode cX5_next 228 = .ok (.bipush (-2), 2) := by decide +kernel
theorem dX5_next_230 : decode cX5_next 230 = .ok (.goto 4, 3) := by decide +kernel
theorem dX5_next_233 : decode cX5_next 233 = .ok (.iconst 0, 1) := by decide +kernel
theorem dX5_next_234 : decode cX5_next 234 = .ok (.putfield 70, 3) := by decide +kernel
theorem dX5_next_237 : decode cX5_next 237 = .ok (.return_, 1) := by decide +kernel
theorem dX5_due_0 : decode cX5_due 0 = .ok (.iload_n 1, 1) := by decide +kernel
theorem dX5_due_1 : decode cX5_due 1 = .ok (.ifCond .ne 20, 3) := by decide +kernel
theorem dX5_due_4 : decode cX5_due 4 = .ok (.aload_n 0, 1) := by decide +kernel
theorem dX5_due_5 : decode cX5_due 5 = .ok (.getfield 80, 3) := by decide +kernel
theorem dX5_due_8 : decode cX5_due 8 = .ok (.bipush (-9), 2) := by decide +kernel
theorem dX5_due_10 : decode cX5_due 10 = .ok (.if_icmp .ne 11, 3) := by decide +kernel
theorem dX5_due_13 : decode cX5_due 13 = .ok (.aload_n 0, 1) := by decide +kernel
theorem dX5_due_14 : decode cX5_due 14 = .ok (.aload_n 0, 1) := by decide +kernel
theorem dX5_due_15 : decode cX5_due 15 = .ok (.getfield 67, 3) := by decide +kernel
theorem dX5_due_18 : decode cX5_due 18 = .ok (.putfield 80, 3) := by decide +kernel
theorem dX5_due_21 : decode cX5_due 21 = .ok (.return_, 1) := by decide +kernel
theorem dX5_reads_0 : decode cX5_reads 0 = .ok (.aload_n 0, 1) := by decide +kernel
theorem dX5_reads_1 : decode cX5_reads 1 = .ok (.aload_n 0, 1) := by decide +kernel
theorem dX5_reads_2 : decode cX5_reads 2 = .ok (.getfield 70, 3) := by decide +kernel
theorem dX5_reads_5 : decode cX5_reads 5 = .ok (.ifCond .ne 19, 3) := by decide +kernel
theorem dX5_reads_8 : decode cX5_reads 8 = .ok (.aload_n 0, 1) := by decide +kernel
theorem dX5_reads_9 : decode cX5_reads 9 = .ok (.getfield 77, 3) := by decide +kernel
theorem dX5_reads_12 : decode cX5_reads 12 = .ok (.iload_n 2, 1) := by decide +kernel
theorem dX5_reads_13 : decode cX5_reads 13 = .ok (.iload_n 3, 1) := by decide +kernel
theorem dX5_reads_14 : decode cX5_reads 14 = .ok (.invokestatic 57, 3) := by decide +kernel
theorem dX5_reads_17 : decode cX5_reads 17 = .ok (.ifCond .eq 7, 3) := by decide +kernel
theorem dX5_reads_20 : decode cX5_reads 20 = .ok (.iconst 1, 1) := by decide +kernel
theorem dX5_reads_21 : decode cX5_reads 21 = .ok (.goto 4, 3) := by decide +kernel
theorem dX5_reads_24 : decode cX5_reads 24 = .ok (.iconst 0, 1) := by decide +kernel
theorem dX5_reads_25 : decode cX5_reads 25 = .ok (.invokevirtual 83, 3) := by decide +kernel
theorem dX5_reads_28 : decode cX5_reads 28 = .ok (.aload_n 0, 1) := by decide +kernel
theorem dX5_reads_29 : decode cX5_reads 29 = .ok (.getfield 80, 3) := by decide +kernel
theorem dX5_reads_32 : decode cX5_reads 32 = .ok (.bipush (-9), 2) := by decide +kernel
theorem dX5_reads_34 : decode cX5_reads 34 = .ok (.if_icmp .ne 20, 3) := by decide +kernel
theorem dX5_reads_37 : decode cX5_reads 37 = .ok (.aload_n 0, 1) := by decide +kernel
theorem dX5_reads_38 : decode cX5_reads 38 = .ok (.getfield 33, 3) := by decide +kernel
theorem dX5_reads_41 : decode cX5_reads 41 = .ok (.iload_n 1, 1) := by decide +kernel
theorem dX5_reads_42 : decode cX5_reads 42 = .ok (.aload_n 0, 1) := by decide +kernel
theorem dX5_reads_43 : decode cX5_reads 43 = .ok (.getfield 77, 3) := by decide +kernel
theorem dX5_reads_46 : decode cX5_reads 46 = .ok (.iload 4, 2) := by decide +kernel
theorem dX5_reads_48 : decode cX5_reads 48 = .ok (.isub, 1) := by decide +kernel
theorem dX5_reads_49 : decode cX5_reads 49 = .ok (.iastore, 1) := by decide +kernel
theorem dX5_reads_50 : decode cX5_reads 50 = .ok (.aload_n 0, 1) := by decide +kernel
theorem dX5_reads_51 : decode cX5_reads 51 = .ok (.invokevirtual 87, 3) := by decide +kernel
theorem dX5_reads_54 : decode cX5_reads 54 = .ok (.return_, 1) := by decide +kernel
theorem dX5_isTakenByDraft_0 : decode cX5_isTakenByDraft 0 = .ok (.iconst 0, 1) := by decide +kernel
theorem dX5_isTakenByDraft_1 : decode cX5_isTakenByDraft 1 = .ok (.istore_n 3, 1) := by decide +kernel
theorem dX5_isTakenByDraft_2 : decode cX5_isTakenByDraft 2 = .ok (.iconst 0, 1) := by decide +kernel
theorem dX5_isTakenByDraft_3 : decode cX5_isTakenByDraft 3 = .ok (.istore 4, 2) := by decide +kernel
theorem dX5_isTakenByDraft_5 : decode cX5_isTakenByDraft 5 = .ok (.iload 4, 2) := by decide +kernel
theorem dX5_isTakenByDraft_7 : decode cX5_isTakenByDraft 7 = .ok (.aload_n 0, 1) := by decide +kernel
theorem dX5_isTakenByDraft_8 : decode cX5_isTakenByDraft 8 = .ok (.getfield 33, 3) := by decide +kernel
theorem dX5_isTakenByDraft_11 : decode cX5_isTakenByDraft 11 = .ok (.iconst 0, 1) := by decide +kernel
theorem dX5_isTakenByDraft_12 : decode cX5_isTakenByDraft 12 = .ok (.iaload, 1) := by decide +kernel
theorem dX5_isTakenByDraft_13 : decode cX5_isTakenByDraft 13 = .ok (.if_icmp .ge 53, 3) := by decide +kernel
theorem dX5_isTakenByDraft_16 : decode cX5_isTakenByDraft 16 = .ok (.iload_n 3, 1) := by decide +kernel
theorem dX5_isTakenByDraft_17 : decode cX5_isTakenByDraft 17 = .ok (.ifCond .ne 37, 3) := by decide +kernel
theorem dX5_isTakenByDraft_20 : decode cX5_isTakenByDraft 20 = .ok (.aload_n 0, 1) := by decide +kernel
theorem dX5_isTakenByDraft_21 : decode cX5_isTakenByDraft 21 = .ok (.getfield 33, 3) := by decide +kernel
theorem dX5_isTakenByDraft_24 : decode cX5_isTakenByDraft 24 = .ok (.iconst 1, 1) := by decide +kernel
theorem dX5_isTakenByDraft_25 : decode cX5_isTakenByDraft 25 = .ok (.iconst 5, 1) := by decide +kernel
theorem dX5_isTakenByDraft_26 : decode cX5_isTakenByDraft 26 = .ok (.iload 4, 2) := by decide +kernel
theorem dX5_isTakenByDraft_28 : decode cX5_isTakenByDraft 28 = .ok (.imul, 1) := by decide +kernel
theorem dX5_isTakenByDraft_29 : decode cX5_isTakenByDraft 29 = .ok (.iadd, 1) := by decide +kernel
theorem dX5_isTakenByDraft_30 : decode cX5_isTakenByDraft 30 = .ok (.iconst 0, 1) := by decide +kernel
theorem dX5_isTakenByDraft_31 : decode cX5_isTakenByDraft 31 = .ok (.iadd, 1) := by decide +kernel
theorem dX5_isTakenByDraft_32 : decode cX5_isTakenByDraft 32 = .ok (.iaload, 1) := by decide +kernel
theorem dX5_isTakenByDraft_33 : decode cX5_isTakenByDraft 33 = .ok (.iload_n 1, 1) := by decide +kernel
theorem dX5_isTakenByDraft_34 : decode cX5_isTakenByDraft 34 = .ok (.if_icmp .ne 24, 3) := by decide +kernel
theorem dX5_isTakenByDraft_37 : decode cX5_isTakenByDraft 37 = .ok (.aload_n 0, 1) := by decide +kernel
theorem dX5_isTakenByDraft_38 : decode cX5_isTakenByDraft 38 = .ok (.getfield 33, 3) := by decide +kernel
theorem dX5_isTakenByDraft_41 : decode cX5_isTakenByDraft 41 = .ok (.iconst 1, 1) := by decide +kernel
theorem dX5_isTakenByDraft_42 : decode cX5_isTakenByDraft 42 = .ok (.iconst 5, 1) := by decide +kernel
theorem dX5_isTakenByDraft_43 : decode cX5_isTakenByDraft 43 = .ok (.iload 4, 2) := by decide +kernel
theorem dX5_isTakenByDraft_45 : decode cX5_isTakenByDraft 45 = .ok (.imul, 1) := by decide +kernel
theorem dX5_isTakenByDraft_46 : decode cX5_isTakenByDraft 46 = .ok (.iadd, 1) := by decide +kernel
theorem dX5_isTakenByDraft_47 : decode cX5_isTakenByDraft 47 = .ok (.iconst 1, 1) := by decide +kernel
theorem dX5_isTakenByDraft_48 : decode cX5_isTakenByDraft 48 = .ok (.iadd, 1) := by decide +kernel
theorem dX5_isTakenByDraft_49 : decode cX5_isTakenByDraft 49 = .ok (.iaload, 1) := by decide +kernel
theorem dX5_isTakenByDraft_50 : decode cX5_isTakenByDraft 50 = .ok (.iload_n 2, 1) := by decide +kernel
theorem dX5_isTakenByDraft_51 : decode cX5_isTakenByDraft 51 = .ok (.if_icmp .ne 7, 3) := by decide +kernel
theorem dX5_isTakenByDraft_54 : decode cX5_isTakenByDraft 54 = .ok (.iconst 1, 1) := by decide +kernel
theorem dX5_isTakenByDraft_55 : decode cX5_isTakenByDraft 55 = .ok (.goto 4, 3) := by decide +kernel
theorem dX5_isTakenByDraft_58 : decode cX5_isTakenByDraft 58 = .ok (.iconst 0, 1) := by decide +kernel
theorem dX5_isTakenByDraft_59 : decode cX5_isTakenByDraft 59 = .ok (.istore_n 3, 1) := by decide +kernel
theorem dX5_isTakenByDraft_60 : decode cX5_isTakenByDraft 60 = .ok (.iinc 4 1, 3) := by decide +kernel
theorem dX5_isTakenByDraft_63 : decode cX5_isTakenByDraft 63 = .ok (.goto (-58), 3) := by decide +kernel
theorem dX5_isTakenByDraft_66 : decode cX5_isTakenByDraft 66 = .ok (.iload_n 3, 1) := by decide +kernel
theorem dX5_isTakenByDraft_67 : decode cX5_isTakenByDraft 67 = .ok (.ireturn, 1) := by decide +kernel
theorem dX5_readsPile_0 : decode cX5_readsPile 0 = .ok (.aload_n 0, 1) := by decide +kernel
theorem dX5_readsPile_1 : decode cX5_readsPile 1 = .ok (.aload_n 0, 1) := by decide +kernel
theorem dX5_readsPile_2 : decode cX5_readsPile 2 = .ok (.getfield 33, 3) := by decide +kernel
theorem dX5_readsPile_5 : decode cX5_readsPile 5 = .ok (.iconst 0, 1) := by decide +kernel
theorem dX5_readsPile_6 : decode cX5_readsPile 6 = .ok (.iaload, 1) := by decide +kernel
theorem dX5_readsPile_7 : decode cX5_readsPile 7 = .ok (.bipush 8, 2) := by decide +kernel
theorem dX5_readsPile_9 : decode cX5_readsPile 9 = .ok (.if_icmp .ge 7, 3) := by decide +kernel
theorem dX5_readsPile_12 : decode cX5_readsPile 12 = .ok (.iconst 1, 1) := by decide +kernel
theorem dX5_readsPile_13 : decode cX5_readsPile 13 = .ok (.goto 4, 3) := by decide +kernel
theorem dX5_readsPile_16 : decode cX5_readsPile 16 = .ok (.iconst 0, 1) := by decide +kernel
theorem dX5_readsPile_17 : decode cX5_readsPile 17 = .ok (.invokevirtual 83, 3) := by decide +kernel
theorem dX5_readsPile_20 : decode cX5_readsPile 20 = .ok (.aload_n 0, 1) := by decide +kernel
theorem dX5_readsPile_21 : decode cX5_readsPile 21 = .ok (.getfield 80, 3) := by decide +kernel
theorem dX5_readsPile_24 : decode cX5_readsPile 24 = .ok (.bipush (-9), 2) := by decide +kernel
theorem dX5_readsPile_26 : decode cX5_readsPile 26 = .ok (.if_icmp .eq 4, 3) := by decide +kernel
theorem dX5_readsPile_29 : decode cX5_readsPile 29 = .ok (.return_, 1) := by decide +kernel
theorem dX5_readsPile_30 : decode cX5_readsPile 30 = .ok (.aload_n 0, 1) := by decide +kernel
theorem dX5_readsPile_31 : decode cX5_readsPile 31 = .ok (.invokevirtual 87, 3) := by decide +kernel
theorem dX5_readsPile_34 : decode cX5_readsPile 34 = .ok (.iconst 1, 1) := by decide +kernel
theorem dX5_readsPile_35 : decode cX5_readsPile 35 = .ok (.iconst 5, 1) := by decide +kernel
theorem dX5_readsPile_36 : decode cX5_readsPile 36 = .ok (.aload_n 0, 1) := by decide +kernel
theorem dX5_readsPile_37 : decode cX5_readsPile 37 = .ok (.getfield 33, 3) := by decide +kernel
theorem dX5_readsPile_40 : decode cX5_readsPile 40 = .ok (.iconst 0, 1) := by decide +kernel
theorem dX5_readsPile_41 : decode cX5_readsPile 41 = .ok (.iaload, 1) := by decide +kernel
theorem dX5_readsPile_42 : decode cX5_readsPile 42 = .ok (.imul, 1) := by decide +kernel
theorem dX5_readsPile_43 : decode cX5_readsPile 43 = .ok (.iadd, 1) := by decide +kernel
theorem dX5_readsPile_44 : decode cX5_readsPile 44 = .ok (.istore_n 1, 1) := by decide +kernel
theorem dX5_readsPile_45 : decode cX5_readsPile 45 = .ok (.aload_n 0, 1) := by decide +kernel
theorem dX5_readsPile_46 : decode cX5_readsPile 46 = .ok (.iload_n 1, 1) := by decide +kernel
theorem dX5_readsPile_47 : decode cX5_readsPile 47 = .ok (.iconst 0, 1) := by decide +kernel
theorem dX5_readsPile_48 : decode cX5_readsPile 48 = .ok (.iadd, 1) := by decide +kernel
theorem dX5_readsPile_49 : decode cX5_readsPile 49 = .ok (.iconst 0, 1) := by decide +kernel
theorem dX5_readsPile_50 : decode cX5_readsPile 50 = .ok (.bipush 18, 2) := by decide +kernel
theorem dX5_readsPile_52 : decode cX5_readsPile 52 = .ok (.bipush 9, 2) := by decide +kernel
theorem dX5_readsPile_54 : decode cX5_readsPile 54 = .ok (.invokevirtual 90, 3) := by decide +kernel
theorem dX5_readsPile_57 : decode cX5_readsPile 57 = .ok (.aload_n 0, 1) := by decide +kernel
theorem dX5_readsPile_58 : decode cX5_readsPile 58 = .ok (.aload_n 0, 1) := by decide +kernel
theorem dX5_readsPile_59 : decode cX5_readsPile 59 = .ok (.getfield 70, 3) := by decide +kernel
theorem dX5_readsPile_62 : decode cX5_readsPile 62 = .ok (.ifCond .ne 42, 3) := by decide +kernel
theorem dX5_readsPile_65 : decode cX5_readsPile 65 = .ok (.aload_n 0, 1) := by decide +kernel
theorem dX5_readsPile_66 : decode cX5_readsPile 66 = .ok (.getfield 77, 3) := by decide +kernel
theorem dX5_readsPile_69 : decode cX5_readsPile 69 = .ok (.iconst 0, 1) := by decide +kernel
theorem dX5_readsPile_70 : decode cX5_readsPile 70 = .ok (.bipush 18, 2) := by decide +kernel
theorem dX5_readsPile_72 : decode cX5_readsPile 72 = .ok (.invokestatic 57, 3) := by decide +kernel
theorem dX5_readsPile_75 : decode cX5_readsPile 75 = .ok (.ifCond .eq 29, 3) := by decide +kernel
theorem dX5_readsPile_78 : decode cX5_readsPile 78 = .ok (.aload_n 0, 1) := by decide +kernel
theorem dX5_readsPile_79 : decode cX5_readsPile 79 = .ok (.aload_n 0, 1) := by decide +kernel
theorem dX5_readsPile_80 : decode cX5_readsPile 80 = .ok (.getfield 33, 3) := by decide +kernel
theorem dX5_readsPile_83 : decode cX5_readsPile 83 = .ok (.iload_n 1, 1) := by decide +kernel
theorem dX5_readsPile_84 : decode cX5_readsPile 84 = .ok (.iconst 0, 1) := by decide +kernel
theorem dX5_readsPile_85 : decode cX5_readsPile 85 = .ok (.iadd, 1) := by decide +kernel
theorem dX5_readsPile_86 : decode cX5_readsPile 86 = .ok (.iaload, 1) := by decide +kernel
theorem dX5_readsPile_87 : decode cX5_readsPile 87 = .ok (.aload_n 0, 1) := by decide +kernel
theorem dX5_readsPile_88 : decode cX5_readsPile 88 = .ok (.getfield 77, 3) := by decide +kernel
theorem dX5_readsPile_91 : decode cX5_readsPile 91 = .ok (.bipush 9, 2) := by decide +kernel
theorem dX5_readsPile_93 : decode cX5_readsPile 93 = .ok (.isub, 1) := by decide +kernel
theorem dX5_readsPile_94 : decode cX5_readsPile 94 = .ok (.invokevirtual 94, 3) := by decide +kernel
theorem dX5_readsPile_97 : decode cX5_readsPile 97 = .ok (.ifCond .ne 7, 3) := by decide +kernel
theorem dX5_readsPile_100 : decode cX5_readsPile 100 = .ok (.iconst 1, 1) := by decide +kernel
theorem dX5_readsPile_101 : decode cX5_readsPile 101 = .ok (.goto 4, 3) := by decide +kernel
theorem dX5_readsPile_104 : decode cX5_readsPile 104 = .ok (.iconst 0, 1) := by decide +kernel
theorem dX5_readsPile_105 : decode cX5_readsPile 105 = .ok (.invokevirtual 83, 3) := by decide +kernel
theorem dX5_readsPile_108 : decode cX5_readsPile 108 = .ok (.aload_n 0, 1) := by decide +kernel
theorem dX5_readsPile_109 : decode cX5_readsPile 109 = .ok (.iload_n 1, 1) := by decide +kernel
theorem dX5_readsPile_110 : decode cX5_readsPile 110 = .ok (.iconst 1, 1) := by decide +kernel
theorem dX5_readsPile_111 : decode cX5_readsPile 111 = .ok (.iadd, 1) := by decide +kernel
theorem dX5_readsPile_112 : decode cX5_readsPile 112 = .ok (.iconst 0, 1) := by decide +kernel
theorem dX5_readsPile_113 : decode cX5_readsPile 113 = .ok (.bipush 18, 2) := by decide +kernel
theorem dX5_readsPile_115 : decode cX5_readsPile 115 = .ok (.bipush 9, 2) := by decide +kernel
theorem dX5_readsPile_117 : decode cX5_readsPile 117 = .ok (.invokevirtual 90, 3) := by decide +kernel
theorem dX5_readsPile_120 : decode cX5_readsPile 120 = .ok (.aload_n 0, 1) := by decide +kernel
theorem dX5_readsPile_121 : decode cX5_readsPile 121 = .ok (.iload_n 1, 1) := by decide +kernel
theorem dX5_readsPile_122 : decode cX5_readsPile 122 = .ok (.iconst 2, 1) := by decide +kernel
theorem dX5_readsPile_123 : decode cX5_readsPile 123 = .ok (.iadd, 1) := by decide +kernel
theorem dX5_readsPile_124 : decode cX5_readsPile 124 = .ok (.iconst 1, 1) := by decide +kernel
theorem dX5_readsPile_125 : decode cX5_readsPile 125 = .ok (.bipush 9, 2) := by decide +kernel
theorem dX5_readsPile_127 : decode cX5_readsPile 127 = .ok (.iconst 0, 1) := by decide +kernel
theorem dX5_readsPile_128 : decode cX5_readsPile 128 = .ok (.invokevirtual 90, 3) := by decide +kernel
theorem dX5_readsPile_131 : decode cX5_readsPile 131 = .ok (.aload_n 0, 1) := by decide +kernel
theorem dX5_readsPile_132 : decode cX5_readsPile 132 = .ok (.iload_n 1, 1) := by decide +kernel
theorem dX5_readsPile_133 : decode cX5_readsPile 133 = .ok (.iconst 3, 1) := by decide +kernel
theorem dX5_readsPile_134 : decode cX5_readsPile 134 = .ok (.iadd, 1) := by decide +kernel
theorem dX5_readsPile_135 : decode cX5_readsPile 135 = .ok (.iconst 1, 1) := by decide +kernel
theorem dX5_readsPile_136 : decode cX5_readsPile 136 = .ok (.bipush 99, 2) := by decide +kernel
theorem dX5_readsPile_138 : decode cX5_readsPile 138 = .ok (.iconst 0, 1) := by decide +kernel
theorem dX5_readsPile_139 : decode cX5_readsPile 139 = .ok (.invokevirtual 90, 3) := by decide +kernel
theorem dX5_readsPile_142 : decode cX5_readsPile 142 = .ok (.aload_n 0, 1) := by decide +kernel
theorem dX5_readsPile_143 : decode cX5_readsPile 143 = .ok (.getfield 33, 3) := by decide +kernel
theorem dX5_readsPile_146 : decode cX5_readsPile 146 = .ok (.iload_n 1, 1) := by decide +kernel
theorem dX5_readsPile_147 : decode cX5_readsPile 147 = .ok (.iconst 4, 1) := by decide +kernel
theorem dX5_readsPile_148 : decode cX5_readsPile 148 = .ok (.iadd, 1) := by decide +kernel
theorem dX5_readsPile_149 : decode cX5_readsPile 149 = .ok (.iconst 0, 1) := by decide +kernel
theorem dX5_readsPile_150 : decode cX5_readsPile 150 = .ok (.iastore, 1) := by decide +kernel
theorem dX5_readsPile_151 : decode cX5_readsPile 151 = .ok (.aload_n 0, 1) := by decide +kernel
theorem dX5_readsPile_152 : decode cX5_readsPile 152 = .ok (.getfield 33, 3) := by decide +kernel
theorem dX5_readsPile_155 : decode cX5_readsPile 155 = .ok (.iconst 0, 1) := by decide +kernel
theorem dX5_readsPile_156 : decode cX5_readsPile 156 = .ok (.dup2, 1) := by decide +kernel
theorem dX5_readsPile_157 : decode cX5_readsPile 157 = .ok (.iaload, 1) := by decide +kernel
theorem dX5_readsPile_158 : decode cX5_readsPile 158 = .ok (.iconst 1, 1) := by decide +kernel
theorem dX5_readsPile_159 : decode cX5_readsPile 159 = .ok (.iadd, 1) := by decide +kernel
theorem dX5_readsPile_160 : decode cX5_readsPile 160 = .ok (.iastore, 1) := by decide +kernel
theorem dX5_readsPile_161 : decode cX5_readsPile 161 = .ok (.return_, 1) := by decide +kernel
theorem dX5_readsColumn_0 : decode cX5_readsColumn 0 = .ok (.aload_n 0, 1) := by decide +kernel
theorem dX5_readsColumn_1 : decode cX5_readsColumn 1 = .ok (.aload_n 0, 1) := by decide +kernel
theorem dX5_readsColumn_2 : decode cX5_readsColumn 2 = .ok (.getfield 33, 3) := by decide +kernel
theorem dX5_readsColumn_5 : decode cX5_readsColumn 5 = .ok (.bipush 41, 2) := by decide +kernel
theorem dX5_readsColumn_7 : decode cX5_readsColumn 7 = .ok (.iaload, 1) := by decide +kernel
theorem dX5_readsColumn_8 : decode cX5_readsColumn 8 = .ok (.iconst 5, 1) := by decide +kernel
theorem dX5_readsColumn_9 : decode cX5_readsColumn 9 = .ok (.if_icmp .ge 7, 3) := by decide +kernel
theorem dX5_readsColumn_12 : decode cX5_readsColumn 12 = .ok (.iconst 1, 1) := by decide +kernel
theorem dX5_readsColumn_13 : decode cX5_readsColumn 13 = .ok (.goto 4, 3) := by decide +kernel
theorem dX5_readsColumn_16 : decode cX5_readsColumn 16 = .ok (.iconst 0, 1) := by decide +kernel
theorem dX5_readsColumn_17 : decode cX5_readsColumn 17 = .ok (.invokevirtual 83, 3) := by decide +kernel
theorem dX5_readsColumn_20 : decode cX5_readsColumn 20 = .ok (.aload_n 0, 1) := by decide +kernel
theorem dX5_readsColumn_21 : decode cX5_readsColumn 21 = .ok (.getfield 80, 3) := by decide +kernel
theorem dX5_readsColumn_24 : decode cX5_readsColumn 24 = .ok (.bipush (-9), 2) := by decide +kernel
theorem dX5_readsColumn_26 : decode cX5_readsColumn 26 = .ok (.if_icmp .eq 4, 3) := by decide +kernel
theorem dX5_readsColumn_29 : decode cX5_readsColumn 29 = .ok (.return_, 1) := by decide +kernel
theorem dX5_readsColumn_30 : decode cX5_readsColumn 30 = .ok (.aload_n 0, 1) := by decide +kernel
theorem dX5_readsColumn_31 : decode cX5_readsColumn 31 = .ok (.invokevirtual 87, 3) := by decide +kernel
theorem dX5_readsColumn_34 : decode cX5_readsColumn 34 = .ok (.bipush 42, 2) := by decide +kernel
theorem dX5_readsColumn_36 : decode cX5_readsColumn 36 = .ok (.iconst 3, 1) := by decide +kernel
theorem dX5_readsColumn_37 : decode cX5_readsColumn 37 = .ok (.aload_n 0, 1) := by decide +kernel
theorem dX5_readsColumn_38 : decode cX5_readsColumn 38 = .ok (.getfield 33, 3) := by decide +kernel
theorem dX5_readsColumn_41 : decode cX5_readsColumn 41 = .ok (.bipush 41, 2) := by decide +kernel
theorem dX5_readsColumn_43 : decode cX5_readsColumn 43 = .ok (.iaload, 1) := by decide +kernel
theorem dX5_readsColumn_44 : decode cX5_readsColumn 44 = .ok (.imul, 1) := by decide +kernel
theorem dX5_readsColumn_45 : decode cX5_readsColumn 45 = .ok (.iadd, 1) := by decide +kernel
theorem dX5_readsColumn_46 : decode cX5_readsColumn 46 = .ok (.istore_n 1, 1) := by decide +kernel
theorem dX5_readsColumn_47 : decode cX5_readsColumn 47 = .ok (.aload_n 0, 1) := by decide +kernel
theorem dX5_readsColumn_48 : decode cX5_readsColumn 48 = .ok (.iload_n 1, 1) := by decide +kernel
theorem dX5_readsColumn_49 : decode cX5_readsColumn 49 = .ok (.iconst 0, 1) := by decide +kernel
theorem dX5_readsColumn_50 : decode cX5_readsColumn 50 = .ok (.iadd, 1) := by decide +kernel
theorem dX5_readsColumn_51 : decode cX5_readsColumn 51 = .ok (.iconst 0, 1) := by decide +kernel
theorem dX5_readsColumn_52 : decode cX5_readsColumn 52 = .ok (.bipush 18, 2) := by decide +kernel
theorem dX5_readsColumn_54 : decode cX5_readsColumn 54 = .ok (.bipush 9, 2) := by decide +kernel
theorem dX5_readsColumn_56 : decode cX5_readsColumn 56 = .ok (.invokevirtual 90, 3) := by decide +kernel
theorem dX5_readsColumn_59 : decode cX5_readsColumn 59 = .ok (.aload_n 0, 1) := by decide +kernel
theorem dX5_readsColumn_60 : decode cX5_readsColumn 60 = .ok (.iload_n 1, 1) := by decide +kernel
theorem dX5_readsColumn_61 : decode cX5_readsColumn 61 = .ok (.iconst 1, 1) := by decide +kernel
theorem dX5_readsColumn_62 : decode cX5_readsColumn 62 = .ok (.iadd, 1) := by decide +kernel
theorem dX5_readsColumn_63 : decode cX5_readsColumn 63 = .ok (.iconst 0, 1) := by decide +kernel
theorem dX5_readsColumn_64 : decode cX5_readsColumn 64 = .ok (.bipush 18, 2) := by decide +kernel
theorem dX5_readsColumn_66 : decode cX5_readsColumn 66 = .ok (.bipush 9, 2) := by decide +kernel
theorem dX5_readsColumn_68 : decode cX5_readsColumn 68 = .ok (.invokevirtual 90, 3) := by decide +kernel
theorem dX5_readsColumn_71 : decode cX5_readsColumn 71 = .ok (.aload_n 0, 1) := by decide +kernel
theorem dX5_readsColumn_72 : decode cX5_readsColumn 72 = .ok (.iload_n 1, 1) := by decide +kernel
theorem dX5_readsColumn_73 : decode cX5_readsColumn 73 = .ok (.iconst 2, 1) := by decide +kernel
theorem dX5_readsColumn_74 : decode cX5_readsColumn 74 = .ok (.iadd, 1) := by decide +kernel
theorem dX5_readsColumn_75 : decode cX5_readsColumn 75 = .ok (.iconst 0, 1) := by decide +kernel
theorem dX5_readsColumn_76 : decode cX5_readsColumn 76 = .ok (.bipush 99, 2) := by decide +kernel
theorem dX5_readsColumn_78 : decode cX5_readsColumn 78 = .ok (.iconst 0, 1) := by decide +kernel
theorem dX5_readsColumn_79 : decode cX5_readsColumn 79 = .ok (.invokevirtual 90, 3) := by decide +kernel
theorem dX5_readsColumn_82 : decode cX5_readsColumn 82 = .ok (.aload_n 0, 1) := by decide +kernel
theorem dX5_readsColumn_83 : decode cX5_readsColumn 83 = .ok (.getfield 33, 3) := by decide +kernel
theorem dX5_readsColumn_86 : decode cX5_readsColumn 86 = .ok (.bipush 41, 2) := by decide +kernel
theorem dX5_readsColumn_88 : decode cX5_readsColumn 88 = .ok (.dup2, 1) := by decide +kernel
theorem dX5_readsColumn_89 : decode cX5_readsColumn 89 = .ok (.iaload, 1) := by decide +kernel
theorem dX5_readsColumn_90 : decode cX5_readsColumn 90 = .ok (.iconst 1, 1) := by decide +kernel
theorem dX5_readsColumn_91 : decode cX5_readsColumn 91 = .ok (.iadd, 1) := by decide +kernel
theorem dX5_readsColumn_92 : decode cX5_readsColumn 92 = .ok (.iastore, 1) := by decide +kernel
theorem dX5_readsColumn_93 : decode cX5_readsColumn 93 = .ok (.return_, 1) := by decide +kernel
theorem dX5_readsWind_0 : decode cX5_readsWind 0 = .ok (.aload_n 0, 1) := by decide +kernel
theorem dX5_readsWind_1 : decode cX5_readsWind 1 = .ok (.aload_n 0, 1) := by decide +kernel
theorem dX5_readsWind_2 : decode cX5_readsWind 2 = .ok (.getfield 98, 3) := by decide +kernel
theorem dX5_readsWind_5 : decode cX5_readsWind 5 = .ok (.ifCond .ne 7, 3) := by decide +kernel
theorem dX5_readsWind_8 : decode cX5_readsWind 8 = .ok (.iconst 1, 1) := by decide +kernel
theorem dX5_readsWind_9 : decode cX5_readsWind 9 = .ok (.goto 4, 3) := by decide +kernel
theorem dX5_readsWind_12 : decode cX5_readsWind 12 = .ok (.iconst 0, 1) := by decide +kernel
theorem dX5_readsWind_13 : decode cX5_readsWind 13 = .ok (.invokevirtual 83, 3) := by decide +kernel
theorem dX5_readsWind_16 : decode cX5_readsWind 16 = .ok (.aload_n 0, 1) := by decide +kernel
theorem dX5_readsWind_17 : decode cX5_readsWind 17 = .ok (.getfield 80, 3) := by decide +kernel
theorem dX5_readsWind_20 : decode cX5_readsWind 20 = .ok (.bipush (-9), 2) := by decide +kernel
theorem dX5_readsWind_22 : decode cX5_readsWind 22 = .ok (.if_icmp .eq 4, 3) := by decide +kernel
theorem dX5_readsWind_25 : decode cX5_readsWind 25 = .ok (.return_, 1) := by decide +kernel
theorem dX5_readsWind_26 : decode cX5_readsWind 26 = .ok (.aload_n 0, 1) := by decide +kernel
theorem dX5_readsWind_27 : decode cX5_readsWind 27 = .ok (.invokevirtual 87, 3) := by decide +kernel
theorem dX5_readsWind_30 : decode cX5_readsWind 30 = .ok (.aload_n 0, 1) := by decide +kernel
theorem dX5_readsWind_31 : decode cX5_readsWind 31 = .ok (.iconst 1, 1) := by decide +kernel
theorem dX5_readsWind_32 : decode cX5_readsWind 32 = .ok (.putfield 98, 3) := by decide +kernel
theorem dX5_readsWind_35 : decode cX5_readsWind 35 = .ok (.aload_n 0, 1) := by decide +kernel
theorem dX5_readsWind_36 : decode cX5_readsWind 36 = .ok (.bipush 57, 2) := by decide +kernel
theorem dX5_readsWind_38 : decode cX5_readsWind 38 = .ok (.iconst 0, 1) := by decide +kernel
theorem dX5_readsWind_39 : decode cX5_readsWind 39 = .ok (.sipush 198, 3) := by decide +kernel
theorem dX5_readsWind_42 : decode cX5_readsWind 42 = .ok (.bipush 99, 2) := by decide +kernel
theorem dX5_readsWind_44 : decode cX5_readsWind 44 = .ok (.invokevirtual 90, 3) := by decide +kernel
theorem dX5_readsWind_47 : decode cX5_readsWind 47 = .ok (.aload_n 0, 1) := by decide +kernel
theorem dX5_readsWind_48 : decode cX5_readsWind 48 = .ok (.bipush 58, 2) := by decide +kernel
theorem dX5_readsWind_50 : decode cX5_readsWind 50 = .ok (.iconst 0, 1) := by decide +kernel
theorem dX5_readsWind_51 : decode cX5_readsWind 51 = .ok (.sipush 198, 3) := by decide +kernel
theorem dX5_readsWind_54 : decode cX5_readsWind 54 = .ok (.bipush 99, 2) := by decide +kernel
theorem dX5_readsWind_56 : decode cX5_readsWind 56 = .ok (.invokevirtual 90, 3) := by decide +kernel
theorem dX5_readsWind_59 : decode cX5_readsWind 59 = .ok (.return_, 1) := by decide +kernel
theorem dX5_tells_0 : decode cX5_tells 0 = .ok (.iconst 0, 1) := by decide +kernel
theorem dX5_tells_1 : decode cX5_tells 1 = .ok (.istore_n 1, 1) := by decide +kernel
theorem dX5_tells_2 : decode cX5_tells 2 = .ok (.iload_n 1, 1) := by decide +kernel
theorem dX5_tells_3 : decode cX5_tells 3 = .ok (.bipush 59, 2) := by decide +kernel
theorem dX5_tells_5 : decode cX5_tells 5 = .ok (.if_icmp .ge 16, 3) := by decide +kernel
theorem dX5_tells_8 : decode cX5_tells 8 = .ok (.aload_n 0, 1) := by decide +kernel
theorem dX5_tells_9 : decode cX5_tells 9 = .ok (.getfield 33, 3) := by decide +kernel
theorem dX5_tells_12 : decode cX5_tells 12 = .ok (.iload_n 1, 1) := by decide +kernel
theorem dX5_tells_13 : decode cX5_tells 13 = .ok (.iconst 0, 1) := by decide +kernel
theorem dX5_tells_14 : decode cX5_tells 14 = .ok (.iastore, 1) := by decide +kernel
theorem dX5_tells_15 : decode cX5_tells 15 = .ok (.iinc 1 1, 3) := by decide +kernel
theorem dX5_tells_18 : decode cX5_tells 18 = .ok (.goto (-16), 3) := by decide +kernel
theorem dX5_tells_21 : decode cX5_tells 21 = .ok (.aload_n 0, 1) := by decide +kernel
theorem dX5_tells_22 : decode cX5_tells 22 = .ok (.iconst 0, 1) := by decide +kernel
theorem dX5_tells_23 : decode cX5_tells 23 = .ok (.putfield 64, 3) := by decide +kernel
theorem dX5_tells_26 : decode cX5_tells 26 = .ok (.aload_n 0, 1) := by decide +kernel
theorem dX5_tells_27 : decode cX5_tells 27 = .ok (.bipush (-9), 2) := by decide +kernel
theorem dX5_tells_29 : decode cX5_tells 29 = .ok (.putfield 80, 3) := by decide +kernel
theorem dX5_tells_32 : decode cX5_tells 32 = .ok (.aload_n 0, 1) := by decide +kernel
theorem dX5_tells_33 : decode cX5_tells 33 = .ok (.iconst 0, 1) := by decide +kernel
theorem dX5_tells_34 : decode cX5_tells 34 = .ok (.putfield 98, 3) := by decide +kernel
theorem dX5_tells_37 : decode cX5_tells 37 = .ok (.iconst 0, 1) := by decide +kernel
theorem dX5_tells_38 : decode cX5_tells 38 = .ok (.istore_n 1, 1) := by decide +kernel
theorem dX5_tells_39 : decode cX5_tells 39 = .ok (.aload_n 0, 1) := by decide +kernel
theorem dX5_tells_40 : decode cX5_tells 40 = .ok (.invokevirtual 87, 3) := by decide +kernel
theorem dX5_tells_43 : decode cX5_tells 43 = .ok (.aload_n 0, 1) := by decide +kernel
theorem dX5_tells_44 : decode cX5_tells 44 = .ok (.getfield 80, 3) := by decide +kernel
theorem dX5_tells_47 : decode cX5_tells 47 = .ok (.bipush (-9), 2) := by decide +kernel
theorem dX5_tells_49 : decode cX5_tells 49 = .ok (.if_icmp .ne 101, 3) := by decide +kernel
theorem dX5_tells_52 : decode cX5_tells 52 = .ok (.aload_n 0, 1) := by decide +kernel
theorem dX5_tells_53 : decode cX5_tells 53 = .ok (.getfield 70, 3) := by decide +kernel
theorem dX5_tells_56 : decode cX5_tells 56 = .ok (.iconst (-1), 1) := by decide +kernel
theorem dX5_tells_57 : decode cX5_tells 57 = .ok (.if_icmp .eq 93, 3) := by decide +kernel
theorem dX5_tells_60 : decode cX5_tells 60 = .ok (.aload_n 0, 1) := by decide +kernel
theorem dX5_tells_61 : decode cX5_tells 61 = .ok (.getfield 70, 3) := by decide +kernel
theorem dX5_tells_64 : decode cX5_tells 64 = .ok (.bipush 112, 2) := by decide +kernel
theorem dX5_tells_66 : decode cX5_tells 66 = .ok (.if_icmp .ne 10, 3) := by decide +kernel
theorem dX5_tells_69 : decode cX5_tells 69 = .ok (.aload_n 0, 1) := by decide +kernel
theorem dX5_tells_70 : decode cX5_tells 70 = .ok (.invokevirtual 102, 3) := by decide +kernel
theorem dX5_tells_73 : decode cX5_tells 73 = .ok (.goto 40, 3) := by decide +kernel
theorem dX5_tells_76 : decode cX5_tells 76 = .ok (.aload_n 0, 1) := by decide +kernel
theorem dX5_tells_77 : decode cX5_tells 77 = .ok (.getfield 70, 3) := by decide +kernel
theorem dX5_tells_80 : decode cX5_tells 80 = .ok (.bipush 99, 2) := by decide +kernel
theorem dX5_tells_82 : decode cX5_tells 82 = .ok (.if_icmp .ne 10, 3) := by decide +kernel
theorem dX5_tells_85 : decode cX5_tells 85 = .ok (.aload_n 0, 1) := by decide +kernel
theorem dX5_tells_86 : decode cX5_tells 86 = .ok (.invokevirtual 105, 3) := by decide +kernel
theorem dX5_tells_89 : decode cX5_tells 89 = .ok (.goto 24, 3) := by decide +kernel
theorem dX5_tells_92 : decode cX5_tells 92 = .ok (.aload_n 0, 1) := by decide +kernel
theorem dX5_tells_93 : decode cX5_tells 93 = .ok (.getfield 70, 3) := by decide +kernel
theorem dX5_tells_96 : decode cX5_tells 96 = .ok (.bipush 119, 2) := by decide +kernel
theorem dX5_tells_98 : decode cX5_tells 98 = .ok (.if_icmp .ne 10, 3) := by decide +kernel
theorem dX5_tells_101 : decode cX5_tells 101 = .ok (.aload_n 0, 1) := by decide +kernel
theorem dX5_tells_102 : decode cX5_tells 102 = .ok (.invokevirtual 108, 3) := by decide +kernel
theorem dX5_tells_105 : decode cX5_tells 105 = .ok (.goto 8, 3) := by decide +kernel
theorem dX5_tells_108 : decode cX5_tells 108 = .ok (.aload_n 0, 1) := by decide +kernel
theorem dX5_tells_109 : decode cX5_tells 109 = .ok (.iconst 0, 1) := by decide +kernel
theorem dX5_tells_110 : decode cX5_tells 110 = .ok (.invokevirtual 83, 3) := by decide +kernel
theorem dX5_tells_113 : decode cX5_tells 113 = .ok (.aload_n 0, 1) := by decide +kernel
theorem dX5_tells_114 : decode cX5_tells 114 = .ok (.aload_n 0, 1) := by decide +kernel
theorem dX5_tells_115 : decode cX5_tells 115 = .ok (.getfield 70, 3) := by decide +kernel
theorem dX5_tells_118 : decode cX5_tells 118 = .ok (.bipush 59, 2) := by decide +kernel
theorem dX5_tells_120 : decode cX5_tells 120 = .ok (.if_icmp .ne 7, 3) := by decide +kernel
theorem dX5_tells_123 : decode cX5_tells 123 = .ok (.iconst 1, 1) := by decide +kernel
theorem dX5_tells_124 : decode cX5_tells 124 = .ok (.goto 4, 3) := by decide +kernel
theorem dX5_tells_127 : decode cX5_tells 127 = .ok (.iconst 0, 1) := by decide +kernel
theorem dX5_tells_128 : decode cX5_tells 128 = .ok (.invokevirtual 83, 3) := by decide +kernel
theorem dX5_tells_131 : decode cX5_tells 131 = .ok (.aload_n 0, 1) := by decide +kernel
theorem dX5_tells_132 : decode cX5_tells 132 = .ok (.getfield 80, 3) := by decide +kernel
theorem dX5_tells_135 : decode cX5_tells 135 = .ok (.bipush (-9), 2) := by decide +kernel
theorem dX5_tells_137 : decode cX5_tells 137 = .ok (.if_icmp .ne 7, 3) := by decide +kernel
theorem dX5_tells_140 : decode cX5_tells 140 = .ok (.aload_n 0, 1) := by decide +kernel
theorem dX5_tells_141 : decode cX5_tells 141 = .ok (.invokevirtual 87, 3) := by decide +kernel
theorem dX5_tells_144 : decode cX5_tells 144 = .ok (.iinc 1 1, 3) := by decide +kernel
theorem dX5_tells_147 : decode cX5_tells 147 = .ok (.goto (-104), 3) := by decide +kernel
theorem dX5_tells_150 : decode cX5_tells 150 = .ok (.aload_n 0, 1) := by decide +kernel
theorem dX5_tells_151 : decode cX5_tells 151 = .ok (.getfield 80, 3) := by decide +kernel
theorem dX5_tells_154 : decode cX5_tells 154 = .ok (.bipush (-9), 2) := by decide +kernel
theorem dX5_tells_156 : decode cX5_tells 156 = .ok (.if_icmp .eq 11, 3) := by decide +kernel
theorem dX5_tells_159 : decode cX5_tells 159 = .ok (.bipush (-10), 2) := by decide +kernel
theorem dX5_tells_161 : decode cX5_tells 161 = .ok (.aload_n 0, 1) := by decide +kernel
theorem dX5_tells_162 : decode cX5_tells 162 = .ok (.getfield 80, 3) := by decide +kernel
theorem dX5_tells_165 : decode cX5_tells 165 = .ok (.isub, 1) := by decide +kernel
theorem dX5_tells_166 : decode cX5_tells 166 = .ok (.ireturn, 1) := by decide +kernel
theorem dX5_tells_167 : decode cX5_tells 167 = .ok (.iconst 0, 1) := by decide +kernel
theorem dX5_tells_168 : decode cX5_tells 168 = .ok (.istore_n 2, 1) := by decide +kernel
theorem dX5_tells_169 : decode cX5_tells 169 = .ok (.iload_n 2, 1) := by decide +kernel
theorem dX5_tells_170 : decode cX5_tells 170 = .ok (.bipush 59, 2) := by decide +kernel
theorem dX5_tells_172 : decode cX5_tells 172 = .ok (.if_icmp .ge 21, 3) := by decide +kernel
theorem dX5_tells_175 : decode cX5_tells 175 = .ok (.aload_n 0, 1) := by decide +kernel
theorem dX5_tells_176 : decode cX5_tells 176 = .ok (.getfield 7, 3) := by decide +kernel
theorem dX5_tells_179 : decode cX5_tells 179 = .ok (.iload_n 2, 1) := by decide +kernel
theorem dX5_tells_180 : decode cX5_tells 180 = .ok (.aload_n 0, 1) := by decide +kernel
theorem dX5_tells_181 : decode cX5_tells 181 = .ok (.getfield 33, 3) := by decide +kernel
theorem dX5_tells_184 : decode cX5_tells 184 = .ok (.iload_n 2, 1) := by decide +kernel
theorem dX5_tells_185 : decode cX5_tells 185 = .ok (.iaload, 1) := by decide +kernel
theorem dX5_tells_186 : decode cX5_tells 186 = .ok (.iastore, 1) := by decide +kernel
theorem dX5_tells_187 : decode cX5_tells 187 = .ok (.iinc 2 1, 3) := by decide +kernel
theorem dX5_tells_190 : decode cX5_tells 190 = .ok (.goto (-21), 3) := by decide +kernel
theorem dX5_tells_193 : decode cX5_tells 193 = .ok (.aload_n 0, 1) := by decide +kernel
theorem dX5_tells_194 : decode cX5_tells 194 = .ok (.iconst 0, 1) := by decide +kernel
theorem dX5_tells_195 : decode cX5_tells 195 = .ok (.putfield 111, 3) := by decide +kernel
theorem dX5_tells_198 : decode cX5_tells 198 = .ok (.aload_n 0, 1) := by decide +kernel
theorem dX5_tells_199 : decode cX5_tells 199 = .ok (.bipush 10, 2) := by decide +kernel
theorem dX5_tells_201 : decode cX5_tells 201 = .ok (.putfield 23, 3) := by decide +kernel
theorem dX5_tells_204 : decode cX5_tells 204 = .ok (.aload_n 0, 1) := by decide +kernel
theorem dX5_tells_205 : decode cX5_tells 205 = .ok (.iconst 0, 1) := by decide +kernel
theorem dX5_tells_206 : decode cX5_tells 206 = .ok (.putfield 114, 3) := by decide +kernel
theorem dX5_tells_209 : decode cX5_tells 209 = .ok (.aload_n 0, 1) := by decide +kernel
theorem dX5_tells_210 : decode cX5_tells 210 = .ok (.getfield 19, 3) := by decide +kernel
theorem dX5_tells_213 : decode cX5_tells 213 = .ok (.iconst 0, 1) := by decide +kernel
theorem dX5_tells_214 : decode cX5_tells 214 = .ok (.iconst 0, 1) := by decide +kernel
theorem dX5_tells_215 : decode cX5_tells 215 = .ok (.bastore, 1) := by decide +kernel
theorem dX5_tells_216 : decode cX5_tells 216 = .ok (.aload_n 0, 1) := by decide +kernel
theorem dX5_tells_217 : decode cX5_tells 217 = .ok (.getfield 19, 3) := by decide +kernel
theorem dX5_tells_220 : decode cX5_tells 220 = .ok (.iconst 1, 1) := by decide +kernel
theorem dX5_tells_221 : decode cX5_tells 221 = .ok (.iconst 0, 1) := by decide +kernel
theorem dX5_tells_222 : decode cX5_tells 222 = .ok (.bastore, 1) := by decide +kernel
theorem dX5_tells_223 : decode cX5_tells 223 = .ok (.aload_n 0, 1) := by decide +kernel
theorem dX5_tells_224 : decode cX5_tells 224 = .ok (.iconst 0, 1) := by decide +kernel
theorem dX5_tells_225 : decode cX5_tells 225 = .ok (.putfield 61, 3) := by decide +kernel
theorem dX5_tells_228 : decode cX5_tells 228 = .ok (.iload_n 1, 1) := by decide +kernel
theorem dX5_tells_229 : decode cX5_tells 229 = .ok (.ireturn, 1) := by decide +kernel
theorem dX5_notes_0 : decode cX5_notes 0 = .ok (.aload_n 0, 1) := by decide +kernel
theorem dX5_notes_1 : decode cX5_notes 1 = .ok (.getfield 111, 3) := by decide +kernel
theorem dX5_notes_4 : decode cX5_notes 4 = .ok (.bipush 6, 2) := by decide +kernel
theorem dX5_notes_6 : decode cX5_notes 6 = .ok (.if_icmp .ne 43, 3) := by decide +kernel
theorem dX5_notes_9 : decode cX5_notes 9 = .ok (.iconst 0, 1) := by decide +kernel
theorem dX5_notes_10 : decode cX5_notes 10 = .ok (.istore_n 1, 1) := by decide +kernel
theorem dX5_notes_11 : decode cX5_notes 11 = .ok (.iload_n 1, 1) := by decide +kernel
theorem dX5_notes_12 : decode cX5_notes 12 = .ok (.sipush 295, 3) := by decide +kernel
theorem dX5_notes_15 : decode cX5_notes 15 = .ok (.if_icmp .ge 24, 3) := by decide +kernel
theorem dX5_notes_18 : decode cX5_notes 18 = .ok (.aload_n 0, 1) := by decide +kernel
theorem dX5_notes_19 : decode cX5_notes 19 = .ok (.getfield 13, 3) := by decide +kernel
theorem dX5_notes_22 : decode cX5_notes 22 = .ok (.iload_n 1, 1) := by decide +kernel
theorem dX5_notes_23 : decode cX5_notes 23 = .ok (.aload_n 0, 1) := by decide +kernel
theorem dX5_notes_24 : decode cX5_notes 24 = .ok (.getfield 13, 3) := by decide +kernel
theorem dX5_notes_27 : decode cX5_notes 27 = .ok (.iload_n 1, 1) := by decide +kernel
theorem dX5_notes_28 : decode cX5_notes 28 = .ok (.bipush 59, 2) := by decide +kernel
theorem dX5_notes_30 : decode cX5_notes 30 = .ok (.iadd, 1) := by decide +kernel
theorem dX5_notes_31 : decode cX5_notes 31 = .ok (.iaload, 1) := by decide +kernel
theorem dX5_notes_32 : decode cX5_notes 32 = .ok (.iastore, 1) := by decide +kernel
theorem dX5_notes_33 : decode cX5_notes 33 = .ok (.iinc 1 1, 3) := by decide +kernel
theorem dX5_notes_36 : decode cX5_notes 36 = .ok (.goto (-25), 3) := by decide +kernel
theorem dX5_notes_39 : decode cX5_notes 39 = .ok (.aload_n 0, 1) := by decide +kernel
theorem dX5_notes_40 : decode cX5_notes 40 = .ok (.dup, 1) := by decide +kernel
theorem dX5_notes_41 : decode cX5_notes 41 = .ok (.getfield 111, 3) := by decide +kernel
theorem dX5_notes_44 : decode cX5_notes 44 = .ok (.iconst 1, 1) := by decide +kernel
theorem dX5_notes_45 : decode cX5_notes 45 = .ok (.isub, 1) := by decide +kernel
theorem dX5_notes_46 : decode cX5_notes 46 = .ok (.putfield 111, 3) := by decide +kernel
theorem dX5_notes_49 : decode cX5_notes 49 = .ok (.iconst 0, 1) := by decide +kernel
theorem dX5_notes_50 : decode cX5_notes 50 = .ok (.istore_n 1, 1) := by decide +kernel
theorem dX5_notes_51 : decode cX5_notes 51 = .ok (.iload_n 1, 1) := by decide +kernel
theorem dX5_notes_52 : decode cX5_notes 52 = .ok (.bipush 59, 2) := by decide +kernel
theorem dX5_notes_54 : decode cX5_notes 54 = .ok (.if_icmp .ge 29, 3) := by decide +kernel
theorem dX5_notes_57 : decode cX5_notes 57 = .ok (.aload_n 0, 1) := by decide +kernel
theorem dX5_notes_58 : decode cX5_notes 58 = .ok (.getfield 13, 3) := by decide +kernel
theorem dX5_notes_61 : decode cX5_notes 61 = .ok (.bipush 59, 2) := by decide +kernel
theorem dX5_notes_63 : decode cX5_notes 63 = .ok (.aload_n 0, 1) := by decide +kernel
theorem dX5_notes_64 : decode cX5_notes 64 = .ok (.getfield 111, 3) := by decide +kernel
theorem dX5_notes_67 : decode cX5_notes 67 = .ok (.imul, 1) := by decide +kernel
theorem dX5_notes_68 : decode cX5_notes 68 = .ok (.iload_n 1, 1) := by decide +kernel
theorem dX5_notes_69 : decode cX5_notes 69 = .ok (.iadd, 1) := by decide +kernel
theorem dX5_notes_70 : decode cX5_notes 70 = .ok (.aload_n 0, 1) := by decide +kernel
theorem dX5_notes_71 : decode cX5_notes 71 = .ok (.getfield 7, 3) := by decide +kernel
theorem dX5_notes_74 : decode cX5_notes 74 = .ok (.iload_n 1, 1) := by decide +kernel
theorem dX5_notes_75 : decode cX5_notes 75 = .ok (.iaload, 1) := by decide +kernel
theorem dX5_notes_76 : decode cX5_notes 76 = .ok (.iastore, 1) := by decide +kernel
theorem dX5_notes_77 : decode cX5_notes 77 = .ok (.iinc 1 1, 3) := by decide +kernel
theorem dX5_notes_80 : decode cX5_notes 80 = .ok (.goto (-29), 3) := by decide +kernel
theorem dX5_notes_83 : decode cX5_notes 83 = .ok (.aload_n 0, 1) := by decide +kernel
theorem dX5_notes_84 : decode cX5_notes 84 = .ok (.dup, 1) := by decide +kernel
theorem dX5_notes_85 : decode cX5_notes 85 = .ok (.getfield 111, 3) := by decide +kernel
theorem dX5_notes_88 : decode cX5_notes 88 = .ok (.iconst 1, 1) := by decide +kernel
theorem dX5_notes_89 : decode cX5_notes 89 = .ok (.iadd, 1) := by decide +kernel
theorem dX5_notes_90 : decode cX5_notes 90 = .ok (.putfield 111, 3) := by decide +kernel
theorem dX5_notes_93 : decode cX5_notes 93 = .ok (.return_, 1) := by decide +kernel
theorem dX5_isTaken_0 : decode cX5_isTaken 0 = .ok (.iconst 0, 1) := by decide +kernel
theorem dX5_isTaken_1 : decode cX5_isTaken 1 = .ok (.istore_n 3, 1) := by decide +kernel
theorem dX5_isTaken_2 : decode cX5_isTaken 2 = .ok (.iconst 0, 1) := by decide +kernel
theorem dX5_isTaken_3 : decode cX5_isTaken 3 = .ok (.istore 4, 2) := by decide +kernel
theorem dX5_isTaken_5 : decode cX5_isTaken 5 = .ok (.iload 4, 2) := by decide +kernel
theorem dX5_isTaken_7 : decode cX5_isTaken 7 = .ok (.aload_n 0, 1) := by decide +kernel
theorem dX5_isTaken_8 : decode cX5_isTaken 8 = .ok (.getfield 7, 3) := by decide +kernel
theorem dX5_isTaken_11 : decode cX5_isTaken 11 = .ok (.iconst 0, 1) := by decide +kernel
theorem dX5_isTaken_12 : decode cX5_isTaken 12 = .ok (.iaload, 1) := by decide +kernel
theorem dX5_isTaken_13 : decode cX5_isTaken 13 = .ok (.if_icmp .ge 41, 3) := by decide +kernel
theorem dX5_isTaken_16 : decode cX5_isTaken 16 = .ok (.iload_n 3, 1) := by decide +kernel
theorem dX5_isTaken_17 : decode cX5_isTaken 17 = .ok (.ifCond .ne 25, 3) := by decide +kernel
theorem dX5_isTaken_20 : decode cX5_isTaken 20 = .ok (.aload_n 0, 1) := by decide +kernel
theorem dX5_isTaken_21 : decode cX5_isTaken 21 = .ok (.iload 4, 2) := by decide +kernel
theorem dX5_isTaken_23 : decode cX5_isTaken 23 = .ok (.iconst 0, 1) := by decide +kernel
theorem dX5_isTaken_24 : decode cX5_isTaken 24 = .ok (.invokevirtual 117, 3) := by decide +kernel
theorem dX5_isTaken_27 : decode cX5_isTaken 27 = .ok (.iload_n 1, 1) := by decide +kernel
theorem dX5_isTaken_28 : decode cX5_isTaken 28 = .ok (.if_icmp .ne 18, 3) := by decide +kernel
theorem dX5_isTaken_31 : decode cX5_isTaken 31 = .ok (.aload_n 0, 1) := by decide +kernel
theorem dX5_isTaken_32 : decode cX5_isTaken 32 = .ok (.iload 4, 2) := by decide +kernel
theorem dX5_isTaken_34 : decode cX5_isTaken 34 = .ok (.iconst 1, 1) := by decide +kernel
theorem dX5_isTaken_35 : decode cX5_isTaken 35 = .ok (.invokevirtual 117, 3) := by decide +kernel
theorem dX5_isTaken_38 : decode cX5_isTaken 38 = .ok (.iload_n 2, 1) := by decide +kernel
theorem dX5_isTaken_39 : decode cX5_isTaken 39 = .ok (.if_icmp .ne 7, 3) := by decide +kernel
theorem dX5_isTaken_42 : decode cX5_isTaken 42 = .ok (.iconst 1, 1) := by decide +kernel
theorem dX5_isTaken_43 : decode cX5_isTaken 43 = .ok (.goto 4, 3) := by decide +kernel
theorem dX5_isTaken_46 : decode cX5_isTaken 46 = .ok (.iconst 0, 1) := by decide +kernel
theorem dX5_isTaken_47 : decode cX5_isTaken 47 = .ok (.istore_n 3, 1) := by decide +kernel
theorem dX5_isTaken_48 : decode cX5_isTaken 48 = .ok (.iinc 4 1, 3) := by decide +kernel
theorem dX5_isTaken_51 : decode cX5_isTaken 51 = .ok (.goto (-46), 3) := by decide +kernel
theorem dX5_isTaken_54 : decode cX5_isTaken 54 = .ok (.iload_n 3, 1) := by decide +kernel
theorem dX5_isTaken_55 : decode cX5_isTaken 55 = .ok (.ireturn, 1) := by decide +kernel
theorem dX5_isKind_0 : decode cX5_isKind 0 = .ok (.iload_n 0, 1) := by decide +kernel
theorem dX5_isKind_1 : decode cX5_isKind 1 = .ok (.iconst 1, 1) := by decide +kernel
theorem dX5_isKind_2 : decode cX5_isKind 2 = .ok (.bipush 9, 2) := by decide +kernel
theorem dX5_isKind_4 : decode cX5_isKind 4 = .ok (.invokestatic 57, 3) := by decide +kernel
theorem dX5_isKind_7 : decode cX5_isKind 7 = .ok (.ifCond .eq 17, 3) := by decide +kernel
theorem dX5_isKind_10 : decode cX5_isKind 10 = .ok (.iload_n 1, 1) := by decide +kernel
theorem dX5_isKind_11 : decode cX5_isKind 11 = .ok (.iconst 1, 1) := by decide +kernel
theorem dX5_isKind_12 : decode cX5_isKind 12 = .ok (.bipush 99, 2) := by decide +kernel
theorem dX5_isKind_14 : decode cX5_isKind 14 = .ok (.invokestatic 57, 3) := by decide +kernel
theorem dX5_isKind_17 : decode cX5_isKind 17 = .ok (.ifCond .eq 7, 3) := by decide +kernel
theorem dX5_isKind_20 : decode cX5_isKind 20 = .ok (.iconst 1, 1) := by decide +kernel
theorem dX5_isKind_21 : decode cX5_isKind 21 = .ok (.goto 4, 3) := by decide +kernel
theorem dX5_isKind_24 : decode cX5_isKind 24 = .ok (.iconst 0, 1) := by decide +kernel
theorem dX5_isKind_25 : decode cX5_isKind 25 = .ok (.ireturn, 1) := by decide +kernel
theorem dX5_drives_0 : decode cX5_drives 0 = .ok (.iload_n 1, 1) := by decide +kernel
theorem dX5_drives_1 : decode cX5_drives 1 = .ok (.iload_n 2, 1) := by decide +kernel
theorem dX5_drives_2 : decode cX5_drives 2 = .ok (.invokestatic 121, 3) := by decide +kernel
theorem dX5_drives_5 : decode cX5_drives 5 = .ok (.ifCond .eq 12, 3) := by decide +kernel
theorem dX5_drives_8 : decode cX5_drives 8 = .ok (.iload_n 3, 1) := by decide +kernel
theorem dX5_drives_9 : decode cX5_drives 9 = .ok (.iload 4, 2) := by decide +kernel
theorem dX5_drives_11 : decode cX5_drives 11 = .ok (.invokestatic 124, 3) := by decide +kernel
theorem dX5_drives_14 : decode cX5_drives 14 = .ok (.ifCond .ne 5, 3) := by decide +kernel
theorem dX5_drives_17 : decode cX5_drives 17 = .ok (.iconst (-1), 1) := by decide +kernel
theorem dX5_drives_18 : decode cX5_drives 18 = .ok (.ireturn, 1) := by decide +kernel
theorem dX5_drives_19 : decode cX5_drives 19 = .ok (.aload_n 0, 1) := by decide +kernel
theorem dX5_drives_20 : decode cX5_drives 20 = .ok (.iload_n 1, 1) := by decide +kernel
theorem dX5_drives_21 : decode cX5_drives 21 = .ok (.iload_n 2, 1) := by decide +kernel
theorem dX5_drives_22 : decode cX5_drives 22 = .ok (.invokevirtual 127, 3) := by decide +kernel
theorem dX5_drives_25 : decode cX5_drives 25 = .ok (.ifCond .eq 6, 3) := by decide +kernel
theorem dX5_drives_28 : decode cX5_drives 28 = .ok (.bipush (-2), 2) := by decide +kernel
theorem dX5_drives_30 : decode cX5_drives 30 = .ok (.ireturn, 1) := by decide +kernel
theorem dX5_drives_31 : decode cX5_drives 31 = .ok (.aload_n 0, 1) := by decide +kernel
theorem dX5_drives_32 : decode cX5_drives 32 = .ok (.getfield 7, 3) := by decide +kernel
theorem dX5_drives_35 : decode cX5_drives 35 = .ok (.iconst 0, 1) := by decide +kernel
theorem dX5_drives_36 : decode cX5_drives 36 = .ok (.iaload, 1) := by decide +kernel
theorem dX5_drives_37 : decode cX5_drives 37 = .ok (.bipush 8, 2) := by decide +kernel
theorem dX5_drives_39 : decode cX5_drives 39 = .ok (.if_icmp .ne 6, 3) := by decide +kernel
theorem dX5_drives_42 : decode cX5_drives 42 = .ok (.bipush (-3), 2) := by decide +kernel
theorem dX5_drives_44 : decode cX5_drives 44 = .ok (.ireturn, 1) := by decide +kernel
theorem dX5_drives_45 : decode cX5_drives 45 = .ok (.aload_n 0, 1) := by decide +kernel
theorem dX5_drives_46 : decode cX5_drives 46 = .ok (.invokevirtual 130, 3) := by decide +kernel
theorem dX5_drives_49 : decode cX5_drives 49 = .ok (.iconst 1, 1) := by decide +kernel
theorem dX5_drives_50 : decode cX5_drives 50 = .ok (.iconst 5, 1) := by decide +kernel
theorem dX5_drives_51 : decode cX5_drives 51 = .ok (.aload_n 0, 1) := by decide +kernel
theorem dX5_drives_52 : decode cX5_drives 52 = .ok (.getfield 7, 3) := by decide +kernel
theorem dX5_drives_55 : decode cX5_drives 55 = .ok (.iconst 0, 1) := by decide +kernel
theorem dX5_drives_56 : decode cX5_drives 56 = .ok (.iaload, 1) := by decide +kernel
theorem dX5_drives_57 : decode cX5_drives 57 = .ok (.imul, 1) := by decide +kernel
theorem dX5_drives_58 : decode cX5_drives 58 = .ok (.iadd, 1) := by decide +kernel
theorem dX5_drives_59 : decode cX5_drives 59 = .ok (.istore 5, 2) := by decide +kernel
theorem dX5_drives_61 : decode cX5_drives 61 = .ok (.aload_n 0, 1) := by decide +kernel
theorem dX5_drives_62 : decode cX5_drives 62 = .ok (.getfield 7, 3) := by decide +kernel
theorem dX5_drives_65 : decode cX5_drives 65 = .ok (.iload 5, 2) := by decide +kernel
theorem dX5_drives_67 : decode cX5_drives 67 = .ok (.iconst 0, 1) := by decide +kernel
theorem dX5_drives_68 : decode cX5_drives 68 = .ok (.iadd, 1) := by decide +kernel
theorem dX5_drives_69 : decode cX5_drives 69 = .ok (.iload_n 1, 1) := by decide +kernel
theorem dX5_drives_70 : decode cX5_drives 70 = .ok (.iastore, 1) := by decide +kernel
theorem dX5_drives_71 : decode cX5_drives 71 = .ok (.aload_n 0, 1) := by decide +kernel
theorem dX5_drives_72 : decode cX5_drives 72 = .ok (.getfield 7, 3) := by decide +kernel
theorem dX5_drives_75 : decode cX5_drives 75 = .ok (.iload 5, 2) := by decide +kernel
theorem dX5_drives_77 : decode cX5_drives 77 = .ok (.iconst 1, 1) := by decide +kernel
theorem dX5_drives_78 : decode cX5_drives 78 = .ok (.iadd, 1) := by decide +kernel
theorem dX5_drives_79 : decode cX5_drives 79 = .ok (.iload_n 2, 1) := by decide +kernel
theorem dX5_drives_80 : decode cX5_drives 80 = .ok (.iastore, 1) := by decide +kernel
theorem dX5_drives_81 : decode cX5_drives 81 = .ok (.aload_n 0, 1) := by decide +kernel
theorem dX5_drives_82 : decode cX5_drives 82 = .ok (.getfield 7, 3) := by decide +kernel
theorem dX5_drives_85 : decode cX5_drives 85 = .ok (.iload 5, 2) := by decide +kernel
theorem dX5_drives_87 : decode cX5_drives 87 = .ok (.iconst 2, 1) := by decide +kernel
theorem dX5_drives_88 : decode cX5_drives 88 = .ok (.iadd, 1) := by decide +kernel
theorem dX5_drives_89 : decode cX5_drives 89 = .ok (.iload_n 3, 1) := by decide +kernel
theorem dX5_drives_90 : decode cX5_drives 90 = .ok (.iastore, 1) := by decide +kernel
theorem dX5_drives_91 : decode cX5_drives 91 = .ok (.aload_n 0, 1) := by decide +kernel
theorem dX5_drives_92 : decode cX5_drives 92 = .ok (.getfield 7, 3) := by decide +kernel
theorem dX5_drives_95 : decode cX5_drives 95 = .ok (.iload 5, 2) := by decide +kernel
theorem dX5_drives_97 : decode cX5_drives 97 = .ok (.iconst 3, 1) := by decide +kernel
theorem dX5_drives_98 : decode cX5_drives 98 = .ok (.iadd, 1) := by decide +kernel
theorem dX5_drives_99 : decode cX5_drives 99 = .ok (.iload 4, 2) := by decide +kernel
theorem dX5_drives_101 : decode cX5_drives 101 = .ok (.iastore, 1) := by decide +kernel
theorem dX5_drives_102 : decode cX5_drives 102 = .ok (.aload_n 0, 1) := by decide +kernel
theorem dX5_drives_103 : decode cX5_drives 103 = .ok (.getfield 7, 3) := by decide +kernel
theorem dX5_drives_106 : decode cX5_drives 106 = .ok (.iload 5, 2) := by decide +kernel
theorem dX5_drives_108 : decode cX5_drives 108 = .ok (.iconst 4, 1) := by decide +kernel
theorem dX5_drives_109 : decode cX5_drives 109 = .ok (.iadd, 1) := by decide +kernel
theorem dX5_drives_110 : decode cX5_drives 110 = .ok (.iconst 0, 1) := by decide +kernel
theorem dX5_drives_111 : decode cX5_drives 111 = .ok (.iastore, 1) := by decide +kernel
theorem dX5_drives_112 : decode cX5_drives 112 = .ok (.aload_n 0, 1) := by decide +kernel
theorem dX5_drives_113 : decode cX5_drives 113 = .ok (.getfield 7, 3) := by decide +kernel
theorem dX5_drives_116 : decode cX5_drives 116 = .ok (.iconst 0, 1) := by decide +kernel
theorem dX5_drives_117 : decode cX5_drives 117 = .ok (.dup2, 1) := by decide +kernel
theorem dX5_drives_118 : decode cX5_drives 118 = .ok (.iaload, 1) := by decide +kernel
theorem dX5_drives_119 : decode cX5_drives 119 = .ok (.iconst 1, 1) := by decide +kernel
theorem dX5_drives_120 : decode cX5_drives 120 = .ok (.iadd, 1) := by decide +kernel
theorem dX5_drives_121 : decode cX5_drives 121 = .ok (.iastore, 1) := by decide +kernel
theorem dX5_drives_122 : decode cX5_drives 122 = .ok (.aload_n 0, 1) := by decide +kernel
theorem dX5_drives_123 : decode cX5_drives 123 = .ok (.getfield 7, 3) := by decide +kernel
theorem dX5_drives_126 : decode cX5_drives 126 = .ok (.iconst 0, 1) := by decide +kernel
theorem dX5_drives_127 : decode cX5_drives 127 = .ok (.iaload, 1) := by decide +kernel
theorem dX5_drives_128 : decode cX5_drives 128 = .ok (.iconst 1, 1) := by decide +kernel
theorem dX5_drives_129 : decode cX5_drives 129 = .ok (.isub, 1) := by decide +kernel
theorem dX5_drives_130 : decode cX5_drives 130 = .ok (.ireturn, 1) := by decide +kernel
theorem dX5_wholes_0 : decode cX5_wholes 0 = .ok (.iconst 0, 1) := by decide +kernel
theorem dX5_wholes_1 : decode cX5_wholes 1 = .ok (.istore_n 1, 1) := by decide +kernel
theorem dX5_wholes_2 : decode cX5_wholes 2 = .ok (.iconst 0, 1) := by decide +kernel
theorem dX5_wholes_3 : decode cX5_wholes 3 = .ok (.istore_n 2, 1) := by decide +kernel
theorem dX5_wholes_4 : decode cX5_wholes 4 = .ok (.iload_n 2, 1) := by decide +kernel
theorem dX5_wholes_5 : decode cX5_wholes 5 = .ok (.aload_n 0, 1) := by decide +kernel
theorem dX5_wholes_6 : decode cX5_wholes 6 = .ok (.getfield 7, 3) := by decide +kernel
theorem dX5_wholes_9 : decode cX5_wholes 9 = .ok (.iconst 0, 1) := by decide +kernel
theorem dX5_wholes_10 : decode cX5_wholes 10 = .ok (.iaload, 1) := by decide +kernel
theorem dX5_wholes_11 : decode cX5_wholes 11 = .ok (.if_icmp .ge 26, 3) := by decide +kernel
theorem dX5_wholes_14 : decode cX5_wholes 14 = .ok (.iload_n 1, 1) := by decide +kernel
theorem dX5_wholes_15 : decode cX5_wholes 15 = .ok (.aload_n 0, 1) := by decide +kernel
theorem dX5_wholes_16 : decode cX5_wholes 16 = .ok (.iload_n 2, 1) := by decide +kernel
theorem dX5_wholes_17 : decode cX5_wholes 17 = .ok (.iconst 4, 1) := by decide +kernel
theorem dX5_wholes_18 : decode cX5_wholes 18 = .ok (.invokevirtual 117, 3) := by decide +kernel
theorem dX5_wholes_21 : decode cX5_wholes 21 = .ok (.ifCond .ne 7, 3) := by decide +kernel
theorem dX5_wholes_24 : decode cX5_wholes 24 = .ok (.iconst 1, 1) := by decide +kernel
theorem dX5_wholes_25 : decode cX5_wholes 25 = .ok (.goto 4, 3) := by decide +kernel
theorem dX5_wholes_28 : decode cX5_wholes 28 = .ok (.iconst 0, 1) := by decide +kernel
theorem dX5_wholes_29 : decode cX5_wholes 29 = .ok (.iadd, 1) := by decide +kernel
theorem dX5_wholes_30 : decode cX5_wholes 30 = .ok (.istore_n 1, 1) := by decide +kernel
theorem dX5_wholes_31 : decode cX5_wholes 31 = .ok (.iinc 2 1, 3) := by decide +kernel
theorem dX5_wholes_34 : decode cX5_wholes 34 = .ok (.goto (-30), 3) := by decide +kernel
theorem dX5_wholes_37 : decode cX5_wholes 37 = .ok (.iload_n 1, 1) := by decide +kernel
theorem dX5_wholes_38 : decode cX5_wholes 38 = .ok (.ireturn, 1) := by decide +kernel
theorem dX5_becomes_0 : decode cX5_becomes 0 = .ok (.aload_n 0, 1) := by decide +kernel
theorem dX5_becomes_1 : decode cX5_becomes 1 = .ok (.iload_n 1, 1) := by decide +kernel
theorem dX5_becomes_2 : decode cX5_becomes 2 = .ok (.invokevirtual 133, 3) := by decide +kernel
theorem dX5_becomes_5 : decode cX5_becomes 5 = .ok (.ifCond .ne 5, 3) := by decide +kernel
theorem dX5_becomes_8 : decode cX5_becomes 8 = .ok (.iconst (-1), 1) := by decide +kernel
theorem dX5_becomes_9 : decode cX5_becomes 9 = .ok (.ireturn, 1) := by decide +kernel
theorem dX5_becomes_10 : decode cX5_becomes 10 = .ok (.aload_n 0, 1) := by decide +kernel
theorem dX5_becomes_11 : decode cX5_becomes 11 = .ok (.iload_n 1, 1) := by decide +kernel
theorem dX5_becomes_12 : decode cX5_becomes 12 = .ok (.iconst 4, 1) := by decide +kernel
theorem dX5_becomes_13 : decode cX5_becomes 13 = .ok (.invokevirtual 117, 3) := by decide +kernel
theorem dX5_becomes_16 : decode cX5_becomes 16 = .ok (.iload_n 2, 1) := by decide +kernel
theorem dX5_becomes_17 : decode cX5_becomes 17 = .ok (.if_icmp .ne 6, 3) := by decide +kernel
theorem dX5_becomes_20 : decode cX5_becomes 20 = .ok (.bipush (-2), 2) := by decide +kernel
theorem dX5_becomes_22 : decode cX5_becomes 22 = .ok (.ireturn, 1) := by decide +kernel
theorem dX5_becomes_23 : decode cX5_becomes 23 = .ok (.aload_n 0, 1) := by decide +kernel
theorem dX5_becomes_24 : decode cX5_becomes 24 = .ok (.invokevirtual 130, 3) := by decide +kernel
theorem dX5_becomes_27 : decode cX5_becomes 27 = .ok (.aload_n 0, 1) := by decide +kernel
theorem dX5_becomes_28 : decode cX5_becomes 28 = .ok (.getfield 7, 3) := by decide +kernel
theorem dX5_becomes_31 : decode cX5_becomes 31 = .ok (.iconst 1, 1) := by decide +kernel
theorem dX5_becomes_32 : decode cX5_becomes 32 = .ok (.iconst 5, 1) := by decide +kernel
theorem dX5_becomes_33 : decode cX5_becomes 33 = .ok (.iload_n 1, 1) := by decide +kernel
theorem dX5_becomes_34 : decode cX5_becomes 34 = .ok (.imul, 1) := by decide +kernel
theorem dX5_becomes_35 : decode cX5_becomes 35 = .ok (.iadd, 1) := by decide +kernel
theorem dX5_becomes_36 : decode cX5_becomes 36 = .ok (.iconst 4, 1) := by decide +kernel
theorem dX5_becomes_37 : decode cX5_becomes 37 = .ok (.iadd, 1) := by decide +kernel
theorem dX5_becomes_38 : decode cX5_becomes 38 = .ok (.iload_n 2, 1) := by decide +kernel
theorem dX5_becomes_39 : decode cX5_becomes 39 = .ok (.iastore, 1) := by decide +kernel
theorem dX5_becomes_40 : decode cX5_becomes 40 = .ok (.aload_n 0, 1) := by decide +kernel
theorem dX5_becomes_41 : decode cX5_becomes 41 = .ok (.invokevirtual 137, 3) := by decide +kernel
theorem dX5_becomes_44 : decode cX5_becomes 44 = .ok (.ireturn, 1) := by decide +kernel
theorem dX5_loses_0 : decode cX5_loses 0 = .ok (.aload_n 0, 1) := by decide +kernel
theorem dX5_loses_1 : decode cX5_loses 1 = .ok (.iload_n 1, 1) := by decide +kernel
theorem dX5_loses_2 : decode cX5_loses 2 = .ok (.iconst 1, 1) := by decide +kernel
theorem dX5_loses_3 : decode cX5_loses 3 = .ok (.invokevirtual 141, 3) := by decide +kernel
theorem dX5_loses_6 : decode cX5_loses 6 = .ok (.ireturn, 1) := by decide +kernel
theorem dX5_mends_0 : decode cX5_mends 0 = .ok (.aload_n 0, 1) := by decide +kernel
theorem dX5_mends_1 : decode cX5_mends 1 = .ok (.iload_n 1, 1) := by decide +kernel
theorem dX5_mends_2 : decode cX5_mends 2 = .ok (.iconst 0, 1) := by decide +kernel
theorem dX5_mends_3 : decode cX5_mends 3 = .ok (.invokevirtual 141, 3) := by decide +kernel
theorem dX5_mends_6 : decode cX5_mends 6 = .ok (.ireturn, 1) := by decide +kernel
theorem dX5_loads_0 : decode cX5_loads 0 = .ok (.aload_n 0, 1) := by decide +kernel
theorem dX5_loads_1 : decode cX5_loads 1 = .ok (.iload_n 1, 1) := by decide +kernel
theorem dX5_loads_2 : decode cX5_loads 2 = .ok (.invokevirtual 144, 3) := by decide +kernel
theorem dX5_loads_5 : decode cX5_loads 5 = .ok (.ifCond .eq 13, 3) := by decide +kernel
theorem dX5_loads_8 : decode cX5_loads 8 = .ok (.iload_n 2, 1) := by decide +kernel
theorem dX5_loads_9 : decode cX5_loads 9 = .ok (.iconst 0, 1) := by decide +kernel
theorem dX5_loads_10 : decode cX5_loads 10 = .ok (.bipush 99, 2) := by decide +kernel
theorem dX5_loads_12 : decode cX5_loads 12 = .ok (.invokestatic 57, 3) := by decide +kernel
theorem dX5_loads_15 : decode cX5_loads 15 = .ok (.ifCond .ne 5, 3) := by decide +kernel
theorem dX5_loads_18 : decode cX5_loads 18 = .ok (.iconst (-1), 1) := by decide +kernel
theorem dX5_loads_19 : decode cX5_loads 19 = .ok (.ireturn, 1) := by decide +kernel
theorem dX5_loads_20 : decode cX5_loads 20 = .ok (.aload_n 0, 1) := by decide +kernel
theorem dX5_loads_21 : decode cX5_loads 21 = .ok (.iload_n 1, 1) := by decide +kernel
theorem dX5_loads_22 : decode cX5_loads 22 = .ok (.iconst 2, 1) := by decide +kernel
theorem dX5_loads_23 : decode cX5_loads 23 = .ok (.invokevirtual 147, 3) := by decide +kernel
theorem dX5_loads_26 : decode cX5_loads 26 = .ok (.istore_n 3, 1) := by decide +kernel
theorem dX5_loads_27 : decode cX5_loads 27 = .ok (.iload_n 3, 1) := by decide +kernel
theorem dX5_loads_28 : decode cX5_loads 28 = .ok (.iload_n 2, 1) := by decide +kernel
theorem dX5_loads_29 : decode cX5_loads 29 = .ok (.if_icmp .ne 6, 3) := by decide +kernel
theorem dX5_loads_32 : decode cX5_loads 32 = .ok (.bipush (-2), 2) := by decide +kernel
theorem dX5_loads_34 : decode cX5_loads 34 = .ok (.ireturn, 1) := by decide +kernel
theorem dX5_loads_35 : decode cX5_loads 35 = .ok (.aload_n 0, 1) := by decide +kernel
theorem dX5_loads_36 : decode cX5_loads 36 = .ok (.invokevirtual 130, 3) := by decide +kernel
theorem dX5_loads_39 : decode cX5_loads 39 = .ok (.aload_n 0, 1) := by decide +kernel
theorem dX5_loads_40 : decode cX5_loads 40 = .ok (.getfield 7, 3) := by decide +kernel
theorem dX5_loads_43 : decode cX5_loads 43 = .ok (.bipush 42, 2) := by decide +kernel
theorem dX5_loads_45 : decode cX5_loads 45 = .ok (.iconst 3, 1) := by decide +kernel
theorem dX5_loads_46 : decode cX5_loads 46 = .ok (.iload_n 1, 1) := by decide +kernel
theorem dX5_loads_47 : decode cX5_loads 47 = .ok (.imul, 1) := by decide +kernel
theorem dX5_loads_48 : decode cX5_loads 48 = .ok (.iadd, 1) := by decide +kernel
theorem dX5_loads_49 : decode cX5_loads 49 = .ok (.iconst 2, 1) := by decide +kernel
theorem dX5_loads_50 : decode cX5_loads 50 = .ok (.iadd, 1) := by decide +kernel
theorem dX5_loads_51 : decode cX5_loads 51 = .ok (.iload_n 2, 1) := by decide +kernel
theorem dX5_loads_52 : decode cX5_loads 52 = .ok (.iastore, 1) := by decide +kernel
theorem dX5_loads_53 : decode cX5_loads 53 = .ok (.iload_n 3, 1) := by decide +kernel
theorem dX5_loads_54 : decode cX5_loads 54 = .ok (.ireturn, 1) := by decide +kernel
theorem dX5_moves_0 : decode cX5_moves 0 = .ok (.aload_n 0, 1) := by decide +kernel
theorem dX5_moves_1 : decode cX5_moves 1 = .ok (.iload_n 1, 1) := by decide +kernel
theorem dX5_moves_2 : decode cX5_moves 2 = .ok (.invokevirtual 144, 3) := by decide +kernel
theorem dX5_moves_5 : decode cX5_moves 5 = .ok (.ifCond .eq 11, 3) := by decide +kernel
theorem dX5_moves_8 : decode cX5_moves 8 = .ok (.iload_n 2, 1) := by decide +kernel
theorem dX5_moves_9 : decode cX5_moves 9 = .ok (.iload_n 3, 1) := by decide +kernel
theorem dX5_moves_10 : decode cX5_moves 10 = .ok (.invokestatic 121, 3) := by decide +kernel
theorem dX5_moves_13 : decode cX5_moves 13 = .ok (.ifCond .ne 5, 3) := by decide +kernel
theorem dX5_moves_16 : decode cX5_moves 16 = .ok (.iconst (-1), 1) := by decide +kernel
theorem dX5_moves_17 : decode cX5_moves 17 = .ok (.ireturn, 1) := by decide +kernel
theorem dX5_moves_18 : decode cX5_moves 18 = .ok (.aload_n 0, 1) := by decide +kernel
theorem dX5_moves_19 : decode cX5_moves 19 = .ok (.iload_n 1, 1) := by decide +kernel
theorem dX5_moves_20 : decode cX5_moves 20 = .ok (.iconst 0, 1) := by decide +kernel
theorem dX5_moves_21 : decode cX5_moves 21 = .ok (.invokevirtual 147, 3) := by decide +kernel
theorem dX5_moves_24 : decode cX5_moves 24 = .ok (.iload_n 2, 1) := by decide +kernel
theorem dX5_moves_25 : decode cX5_moves 25 = .ok (.if_icmp .ne 16, 3) := by decide +kernel
theorem dX5_moves_28 : decode cX5_moves 28 = .ok (.aload_n 0, 1) := by decide +kernel
theorem dX5_moves_29 : decode cX5_moves 29 = .ok (.iload_n 1, 1) := by decide +kernel
theorem dX5_moves_30 : decode cX5_moves 30 = .ok (.iconst 1, 1) := by decide +kernel
theorem dX5_moves_31 : decode cX5_moves 31 = .ok (.invokevirtual 147, 3) := by decide +kernel
theorem dX5_moves_34 : decode cX5_moves 34 = .ok (.iload_n 3, 1) := by decide +kernel
theorem dX5_moves_35 : decode cX5_moves 35 = .ok (.if_icmp .ne 6, 3) := by decide +kernel
theorem dX5_moves_38 : decode cX5_moves 38 = .ok (.bipush (-2), 2) := by decide +kernel
theorem dX5_moves_40 : decode cX5_moves 40 = .ok (.ireturn, 1) := by decide +kernel
theorem dX5_moves_41 : decode cX5_moves 41 = .ok (.aload_n 0, 1) := by decide +kernel
theorem dX5_moves_42 : decode cX5_moves 42 = .ok (.invokevirtual 130, 3) := by decide +kernel
theorem dX5_moves_45 : decode cX5_moves 45 = .ok (.aload_n 0, 1) := by decide +kernel
theorem dX5_moves_46 : decode cX5_moves 46 = .ok (.getfield 7, 3) := by decide +kernel
theorem dX5_moves_49 : decode cX5_moves 49 = .ok (.bipush 42, 2) := by decide +kernel
theorem dX5_moves_51 : decode cX5_moves 51 = .ok (.iconst 3, 1) := by decide +kernel
theorem dX5_moves_52 : decode cX5_moves 52 = .ok (.iload_n 1, 1) := by decide +kernel
theorem dX5_moves_53 : decode cX5_moves 53 = .ok (.imul, 1) := by decide +kernel
theorem dX5_moves_54 : decode cX5_moves 54 = .ok (.iadd, 1) := by decide +kernel
theorem dX5_moves_55 : decode cX5_moves 55 = .ok (.iconst 0, 1) := by decide +kernel
theorem dX5_moves_56 : decode cX5_moves 56 = .ok (.iadd, 1) := by decide +kernel
theorem dX5_moves_57 : decode cX5_moves 57 = .ok (.iload_n 2, 1) := by decide +kernel
theorem dX5_moves_58 : decode cX5_moves 58 = .ok (.iastore, 1) := by decide +kernel
theorem dX5_moves_59 : decode cX5_moves 59 = .ok (.aload_n 0, 1) := by decide +kernel
theorem dX5_moves_60 : decode cX5_moves 60 = .ok (.getfield 7, 3) := by decide +kernel
theorem dX5_moves_63 : decode cX5_moves 63 = .ok (.bipush 42, 2) := by decide +kernel
theorem dX5_moves_65 : decode cX5_moves 65 = .ok (.iconst 3, 1) := by decide +kernel
theorem dX5_moves_66 : decode cX5_moves 66 = .ok (.iload_n 1, 1) := by decide +kernel
theorem dX5_moves_67 : decode cX5_moves 67 = .ok (.imul, 1) := by decide +kernel
theorem dX5_moves_68 : decode cX5_moves 68 = .ok (.iadd, 1) := by decide +kernel
theorem dX5_moves_69 : decode cX5_moves 69 = .ok (.iconst 1, 1) := by decide +kernel
theorem dX5_moves_70 : decode cX5_moves 70 = .ok (.iadd, 1) := by decide +kernel
theorem dX5_moves_71 : decode cX5_moves 71 = .ok (.iload_n 3, 1) := by decide +kernel
theorem dX5_moves_72 : decode cX5_moves 72 = .ok (.iastore, 1) := by decide +kernel
theorem dX5_moves_73 : decode cX5_moves 73 = .ok (.iconst 1, 1) := by decide +kernel
theorem dX5_moves_74 : decode cX5_moves 74 = .ok (.ireturn, 1) := by decide +kernel
theorem dX5_winds_0 : decode cX5_winds 0 = .ok (.iload_n 1, 1) := by decide +kernel
theorem dX5_winds_1 : decode cX5_winds 1 = .ok (.bipush (-99), 2) := by decide +kernel
theorem dX5_winds_3 : decode cX5_winds 3 = .ok (.bipush 99, 2) := by decide +kernel
theorem dX5_winds_5 : decode cX5_winds 5 = .ok (.invokestatic 57, 3) := by decide +kernel
theorem dX5_winds_8 : decode cX5_winds 8 = .ok (.ifCond .eq 14, 3) := by decide +kernel
theorem dX5_winds_11 : decode cX5_winds 11 = .ok (.iload_n 2, 1) := by decide +kernel
theorem dX5_winds_12 : decode cX5_winds 12 = .ok (.bipush (-99), 2) := by decide +kernel
theorem dX5_winds_14 : decode cX5_winds 14 = .ok (.bipush 99, 2) := by decide +kernel
theorem dX5_winds_16 : decode cX5_winds 16 = .ok (.invokestatic 57, 3) := by decide +kernel
theorem dX5_winds_19 : decode cX5_winds 19 = .ok (.ifCond .ne 5, 3) := by decide +kernel
theorem dX5_winds_22 : decode cX5_winds 22 = .ok (.iconst (-1), 1) := by decide +kernel
theorem dX5_winds_23 : decode cX5_winds 23 = .ok (.ireturn, 1) := by decide +kernel
theorem dX5_winds_24 : decode cX5_winds 24 = .ok (.aload_n 0, 1) := by decide +kernel
theorem dX5_winds_25 : decode cX5_winds 25 = .ok (.getfield 7, 3) := by decide +kernel
theorem dX5_winds_28 : decode cX5_winds 28 = .ok (.bipush 57, 2) := by decide +kernel
theorem dX5_winds_30 : decode cX5_winds 30 = .ok (.iaload, 1) := by decide +kernel
theorem dX5_winds_31 : decode cX5_winds 31 = .ok (.iload_n 1, 1) := by decide +kernel
theorem dX5_winds_32 : decode cX5_winds 32 = .ok (.if_icmp .ne 17, 3) := by decide +kernel
theorem dX5_winds_35 : decode cX5_winds 35 = .ok (.aload_n 0, 1) := by decide +kernel
theorem dX5_winds_36 : decode cX5_winds 36 = .ok (.getfield 7, 3) := by decide +kernel
theorem dX5_winds_39 : decode cX5_winds 39 = .ok (.bipush 58, 2) := by decide +kernel
theorem dX5_winds_41 : decode cX5_winds 41 = .ok (.iaload, 1) := by decide +kernel
theorem dX5_winds_42 : decode cX5_winds 42 = .ok (.iload_n 2, 1) := by decide +kernel
theorem dX5_winds_43 : decode cX5_winds 43 = .ok (.if_icmp .ne 6, 3) := by decide +kernel
theorem dX5_winds_46 : decode cX5_winds 46 = .ok (.bipush (-2), 2) := by decide +kernel
theorem dX5_winds_48 : decode cX5_winds 48 = .ok (.ireturn, 1) := by decide +kernel
theorem dX5_winds_49 : decode cX5_winds 49 = .ok (.aload_n 0, 1) := by decide +kernel
theorem dX5_winds_50 : decode cX5_winds 50 = .ok (.invokevirtual 130, 3) := by decide +kernel
theorem dX5_winds_53 : decode cX5_winds 53 = .ok (.aload_n 0, 1) := by decide +kernel
theorem dX5_winds_54 : decode cX5_winds 54 = .ok (.getfield 7, 3) := by decide +kernel
theorem dX5_winds_57 : decode cX5_winds 57 = .ok (.bipush 57, 2) := by decide +kernel
theorem dX5_winds_59 : decode cX5_winds 59 = .ok (.iload_n 1, 1) := by decide +kernel
theorem dX5_winds_60 : decode cX5_winds 60 = .ok (.iastore, 1) := by decide +kernel
theorem dX5_winds_61 : decode cX5_winds 61 = .ok (.aload_n 0, 1) := by decide +kernel
theorem dX5_winds_62 : decode cX5_winds 62 = .ok (.getfield 7, 3) := by decide +kernel
theorem dX5_winds_65 : decode cX5_winds 65 = .ok (.bipush 58, 2) := by decide +kernel
theorem dX5_winds_67 : decode cX5_winds 67 = .ok (.iload_n 2, 1) := by decide +kernel
theorem dX5_winds_68 : decode cX5_winds 68 = .ok (.iastore, 1) := by decide +kernel
theorem dX5_winds_69 : decode cX5_winds 69 = .ok (.iconst 1, 1) := by decide +kernel
theorem dX5_winds_70 : decode cX5_winds 70 = .ok (.ireturn, 1) := by decide +kernel
theorem dX5_undo_0 : decode cX5_undo 0 = .ok (.aload_n 0, 1) := by decide +kernel
theorem dX5_undo_1 : decode cX5_undo 1 = .ok (.getfield 111, 3) := by decide +kernel
theorem dX5_undo_4 : decode cX5_undo 4 = .ok (.ifCond .ne 6, 3) := by decide +kernel
theorem dX5_undo_7 : decode cX5_undo 7 = .ok (.bipush (-2), 2) := by decide +kernel
theorem dX5_undo_9 : decode cX5_undo 9 = .ok (.ireturn, 1) := by decide +kernel
theorem dX5_undo_10 : decode cX5_undo 10 = .ok (.aload_n 0, 1) := by decide +kernel
theorem dX5_undo_11 : decode cX5_undo 11 = .ok (.dup, 1) := by decide +kernel
theorem dX5_undo_12 : decode cX5_undo 12 = .ok (.getfield 111, 3) := by decide +kernel
theorem dX5_undo_15 : decode cX5_undo 15 = .ok (.iconst 1, 1) := by decide +kernel
theorem dX5_undo_16 : decode cX5_undo 16 = .ok (.isub, 1) := by decide +kernel
theorem dX5_undo_17 : decode cX5_undo 17 = .ok (.putfield 111, 3) := by decide +kernel
theorem dX5_undo_20 : decode cX5_undo 20 = .ok (.iconst 0, 1) := by decide +kernel
theorem dX5_undo_21 : decode cX5_undo 21 = .ok (.istore_n 1, 1) := by decide +kernel
theorem dX5_undo_22 : decode cX5_undo 22 = .ok (.iload_n 1, 1) := by decide +kernel
theorem dX5_undo_23 : decode cX5_undo 23 = .ok (.bipush 59, 2) := by decide +kernel
theorem dX5_undo_25 : decode cX5_undo 25 = .ok (.if_icmp .ge 29, 3) := by decide +kernel
theorem dX5_undo_28 : decode cX5_undo 28 = .ok (.aload_n 0, 1) := by decide +kernel
theorem dX5_undo_29 : decode cX5_undo 29 = .ok (.getfield 7, 3) := by decide +kernel
theorem dX5_undo_32 : decode cX5_undo 32 = .ok (.iload_n 1, 1) := by decide +kernel
theorem dX5_undo_33 : decode cX5_undo 33 = .ok (.aload_n 0, 1) := by decide +kernel
theorem dX5_undo_34 : decode cX5_undo 34 = .ok (.getfield 13, 3) := by decide +kernel
theorem dX5_undo_37 : decode cX5_undo 37 = .ok (.bipush 59, 2) := by decide +kernel
theorem dX5_undo_39 : decode cX5_undo 39 = .ok (.aload_n 0, 1) := by decide +kernel
theorem dX5_undo_40 : decode cX5_undo 40 = .ok (.getfield 111, 3) := by decide +kernel
theorem dX5_undo_43 : decode cX5_undo 43 = .ok (.imul, 1) := by decide +kernel
theorem dX5_undo_44 : decode cX5_undo 44 = .ok (.iload_n 1, 1) := by decide +kernel
theorem dX5_undo_45 : decode cX5_undo 45 = .ok (.iadd, 1) := by decide +kernel
theorem dX5_undo_46 : decode cX5_undo 46 = .ok (.iaload, 1) := by decide +kernel
theorem dX5_undo_47 : decode cX5_undo 47 = .ok (.iastore, 1) := by decide +kernel
theorem dX5_undo_48 : decode cX5_undo 48 = .ok (.iinc 1 1, 3) := by decide +kernel
theorem dX5_undo_51 : decode cX5_undo 51 = .ok (.goto (-29), 3) := by decide +kernel
theorem dX5_undo_54 : decode cX5_undo 54 = .ok (.aload_n 0, 1) := by decide +kernel
theorem dX5_undo_55 : decode cX5_undo 55 = .ok (.getfield 111, 3) := by decide +kernel
theorem dX5_undo_58 : decode cX5_undo 58 = .ok (.ireturn, 1) := by decide +kernel
theorem dX5_laysPiles_0 : decode cX5_laysPiles 0 = .ok (.aload_n 0, 1) := by decide +kernel
theorem dX5_laysPiles_1 : decode cX5_laysPiles 1 = .ok (.aload_n 0, 1) := by decide +kernel
theorem dX5_laysPiles_2 : decode cX5_laysPiles 2 = .ok (.getfield 7, 3) := by decide +kernel
theorem dX5_laysPiles_5 : decode cX5_laysPiles 5 = .ok (.iconst 0, 1) := by decide +kernel
theorem dX5_laysPiles_6 : decode cX5_laysPiles 6 = .ok (.iaload, 1) := by decide +kernel
theorem dX5_laysPiles_7 : decode cX5_laysPiles 7 = .ok (.putfield 150, 3) := by decide +kernel
theorem dX5_laysPiles_10 : decode cX5_laysPiles 10 = .ok (.aload_n 0, 1) := by decide +kernel
theorem dX5_laysPiles_11 : decode cX5_laysPiles 11 = .ok (.iconst 0, 1) := by decide +kernel
theorem dX5_laysPiles_12 : decode cX5_laysPiles 12 = .ok (.putfield 153, 3) := by decide +kernel
theorem dX5_laysPiles_15 : decode cX5_laysPiles 15 = .ok (.iconst 0, 1) := by decide +kernel
theorem dX5_laysPiles_16 : decode cX5_laysPiles 16 = .ok (.istore_n 1, 1) := by decide +kernel
theorem dX5_laysPiles_17 : decode cX5_laysPiles 17 = .ok (.iload_n 1, 1) := by decide +kernel
theorem dX5_laysPiles_18 : decode cX5_laysPiles 18 = .ok (.aload_n 0, 1) := by decide +kernel
theorem dX5_laysPiles_19 : decode cX5_laysPiles 19 = .ok (.getfield 150, 3) := by decide +kernel
theorem dX5_laysPiles_22 : decode cX5_laysPiles 22 = .ok (.if_icmp .ge 82, 3) := by decide +kernel
theorem dX5_laysPiles_25 : decode cX5_laysPiles 25 = .ok (.aload_n 0, 1) := by decide +kernel
theorem dX5_laysPiles_26 : decode cX5_laysPiles 26 = .ok (.getfield 36, 3) := by decide +kernel
theorem dX5_laysPiles_29 : decode cX5_laysPiles 29 = .ok (.iload_n 1, 1) := by decide +kernel
theorem dX5_laysPiles_30 : decode cX5_laysPiles 30 = .ok (.aload_n 0, 1) := by decide +kernel
theorem dX5_laysPiles_31 : decode cX5_laysPiles 31 = .ok (.iload_n 1, 1) := by decide +kernel
theorem dX5_laysPiles_32 : decode cX5_laysPiles 32 = .ok (.iconst 0, 1) := by decide +kernel
theorem dX5_laysPiles_33 : decode cX5_laysPiles 33 = .ok (.invokevirtual 117, 3) := by decide +kernel
theorem dX5_laysPiles_36 : decode cX5_laysPiles 36 = .ok (.iastore, 1) := by decide +kernel
theorem dX5_laysPiles_37 : decode cX5_laysPiles 37 = .ok (.aload_n 0, 1) := by decide +kernel
theorem dX5_laysPiles_38 : decode cX5_laysPiles 38 = .ok (.getfield 39, 3) := by decide +kernel
theorem dX5_laysPiles_41 : decode cX5_laysPiles 41 = .ok (.iload_n 1, 1) := by decide +kernel
theorem dX5_laysPiles_42 : decode cX5_laysPiles 42 = .ok (.aload_n 0, 1) := by decide +kernel
theorem dX5_laysPiles_43 : decode cX5_laysPiles 43 = .ok (.iload_n 1, 1) := by decide +kernel
theorem dX5_laysPiles_44 : decode cX5_laysPiles 44 = .ok (.iconst 1, 1) := by decide +kernel
theorem dX5_laysPiles_45 : decode cX5_laysPiles 45 = .ok (.invokevirtual 117, 3) := by decide +kernel
theorem dX5_laysPiles_48 : decode cX5_laysPiles 48 = .ok (.iastore, 1) := by decide +kernel
theorem dX5_laysPiles_49 : decode cX5_laysPiles 49 = .ok (.aload_n 0, 1) := by decide +kernel
theorem dX5_laysPiles_50 : decode cX5_laysPiles 50 = .ok (.getfield 42, 3) := by decide +kernel
theorem dX5_laysPiles_53 : decode cX5_laysPiles 53 = .ok (.iload_n 1, 1) := by decide +kernel
theorem dX5_laysPiles_54 : decode cX5_laysPiles 54 = .ok (.aload_n 0, 1) := by decide +kernel
theorem dX5_laysPiles_55 : decode cX5_laysPiles 55 = .ok (.iload_n 1, 1) := by decide +kernel
theorem dX5_laysPiles_56 : decode cX5_laysPiles 56 = .ok (.iconst 2, 1) := by decide +kernel
theorem dX5_laysPiles_57 : decode cX5_laysPiles 57 = .ok (.invokevirtual 117, 3) := by decide +kernel
theorem dX5_laysPiles_60 : decode cX5_laysPiles 60 = .ok (.iastore, 1) := by decide +kernel
theorem dX5_laysPiles_61 : decode cX5_laysPiles 61 = .ok (.aload_n 0, 1) := by decide +kernel
theorem dX5_laysPiles_62 : decode cX5_laysPiles 62 = .ok (.getfield 45, 3) := by decide +kernel
theorem dX5_laysPiles_65 : decode cX5_laysPiles 65 = .ok (.iload_n 1, 1) := by decide +kernel
theorem dX5_laysPiles_66 : decode cX5_laysPiles 66 = .ok (.aload_n 0, 1) := by decide +kernel
theorem dX5_laysPiles_67 : decode cX5_laysPiles 67 = .ok (.iload_n 1, 1) := by decide +kernel
theorem dX5_laysPiles_68 : decode cX5_laysPiles 68 = .ok (.iconst 3, 1) := by decide +kernel
theorem dX5_laysPiles_69 : decode cX5_laysPiles 69 = .ok (.invokevirtual 117, 3) := by decide +kernel
theorem dX5_laysPiles_72 : decode cX5_laysPiles 72 = .ok (.iastore, 1) := by decide +kernel
theorem dX5_laysPiles_73 : decode cX5_laysPiles 73 = .ok (.aload_n 0, 1) := by decide +kernel
theorem dX5_laysPiles_74 : decode cX5_laysPiles 74 = .ok (.dup, 1) := by decide +kernel
theorem dX5_laysPiles_75 : decode cX5_laysPiles 75 = .ok (.getfield 153, 3) := by decide +kernel
theorem dX5_laysPiles_78 : decode cX5_laysPiles 78 = .ok (.aload_n 0, 1) := by decide +kernel
theorem dX5_laysPiles_79 : decode cX5_laysPiles 79 = .ok (.iload_n 1, 1) := by decide +kernel
theorem dX5_laysPiles_80 : decode cX5_laysPiles 80 = .ok (.iconst 4, 1) := by decide +kernel
theorem dX5_laysPiles_81 : decode cX5_laysPiles 81 = .ok (.invokevirtual 117, 3) := by decide +kernel
theorem dX5_laysPiles_84 : decode cX5_laysPiles 84 = .ok (.ifCond .ne 9, 3) := by decide +kernel
theorem dX5_laysPiles_87 : decode cX5_laysPiles 87 = .ok (.iconst 1, 1) := by decide +kernel
theorem dX5_laysPiles_88 : decode cX5_laysPiles 88 = .ok (.iload_n 1, 1) := by decide +kernel
theorem dX5_laysPiles_89 : decode cX5_laysPiles 89 = .ok (.ishl, 1) := by decide +kernel
theorem dX5_laysPiles_90 : decode cX5_laysPiles 90 = .ok (.goto 4, 3) := by decide +kernel
theorem dX5_laysPiles_93 : decode cX5_laysPiles 93 = .ok (.iconst 0, 1) := by decide +kernel
theorem dX5_laysPiles_94 : decode cX5_laysPiles 94 = .ok (.ior, 1) := by decide +kernel
theorem dX5_laysPiles_95 : decode cX5_laysPiles 95 = .ok (.putfield 153, 3) := by decide +kernel
theorem dX5_laysPiles_98 : decode cX5_laysPiles 98 = .ok (.iinc 1 1, 3) := by decide +kernel
theorem dX5_laysPiles_101 : decode cX5_laysPiles 101 = .ok (.goto (-84), 3) := by decide +kernel
theorem dX5_laysPiles_104 : decode cX5_laysPiles 104 = .ok (.return_, 1) := by decide +kernel
theorem dX5_sumOf_0 : decode cX5_sumOf 0 = .ok (.iload_n 1, 1) := by decide +kernel
theorem dX5_sumOf_1 : decode cX5_sumOf 1 = .ok (.iconst 2, 1) := by decide +kernel
theorem dX5_sumOf_2 : decode cX5_sumOf 2 = .ok (.if_icmp .le 16, 3) := by decide +kernel
theorem dX5_sumOf_5 : decode cX5_sumOf 5 = .ok (.aload_n 0, 1) := by decide +kernel
theorem dX5_sumOf_6 : decode cX5_sumOf 6 = .ok (.getfield 7, 3) := by decide +kernel
theorem dX5_sumOf_9 : decode cX5_sumOf 9 = .ok (.bipush 57, 2) := by decide +kernel
theorem dX5_sumOf_11 : decode cX5_sumOf 11 = .ok (.iload_n 1, 1) := by decide +kernel
theorem dX5_sumOf_12 : decode cX5_sumOf 12 = .ok (.iadd, 1) := by decide +kernel
theorem dX5_sumOf_13 : decode cX5_sumOf 13 = .ok (.iconst 3, 1) := by decide +kernel
theorem dX5_sumOf_14 : decode cX5_sumOf 14 = .ok (.isub, 1) := by decide +kernel
theorem dX5_sumOf_15 : decode cX5_sumOf 15 = .ok (.iaload, 1) := by decide +kernel
theorem dX5_sumOf_16 : decode cX5_sumOf 16 = .ok (.i2l, 1) := by decide +kernel
theorem dX5_sumOf_17 : decode cX5_sumOf 17 = .ok (.lreturn, 1) := by decide +kernel
theorem dX5_sumOf_18 : decode cX5_sumOf 18 = .ok (.iload_n 1, 1) := by decide +kernel
theorem dX5_sumOf_19 : decode cX5_sumOf 19 = .ok (.ifCond .ne 7, 3) := by decide +kernel
theorem dX5_sumOf_22 : decode cX5_sumOf 22 = .ok (.lconst 0, 1) := by decide +kernel
theorem dX5_sumOf_23 : decode cX5_sumOf 23 = .ok (.goto 15, 3) := by decide +kernel
theorem dX5_sumOf_26 : decode cX5_sumOf 26 = .ok (.aload_n 0, 1) := by decide +kernel
theorem dX5_sumOf_27 : decode cX5_sumOf 27 = .ok (.getfield 7, 3) := by decide +kernel
theorem dX5_sumOf_30 : decode cX5_sumOf 30 = .ok (.bipush 57, 2) := by decide +kernel
theorem dX5_sumOf_32 : decode cX5_sumOf 32 = .ok (.iload_n 1, 1) := by decide +kernel
theorem dX5_sumOf_33 : decode cX5_sumOf 33 = .ok (.iadd, 1) := by decide +kernel
theorem dX5_sumOf_34 : decode cX5_sumOf 34 = .ok (.iconst 1, 1) := by decide +kernel
theorem dX5_sumOf_35 : decode cX5_sumOf 35 = .ok (.isub, 1) := by decide +kernel
theorem dX5_sumOf_36 : decode cX5_sumOf 36 = .ok (.iaload, 1) := by decide +kernel
theorem dX5_sumOf_37 : decode cX5_sumOf 37 = .ok (.i2l, 1) := by decide +kernel
theorem dX5_sumOf_38 : decode cX5_sumOf 38 = .ok (.lstore_n 2, 1) := by decide +kernel
theorem dX5_sumOf_39 : decode cX5_sumOf 39 = .ok (.iconst 0, 1) := by decide +kernel
theorem dX5_sumOf_40 : decode cX5_sumOf 40 = .ok (.istore 4, 2) := by decide +kernel
theorem dX5_sumOf_42 : decode cX5_sumOf 42 = .ok (.iload 4, 2) := by decide +kernel
theorem dX5_sumOf_44 : decode cX5_sumOf 44 = .ok (.aload_n 0, 1) := by decide +kernel
theorem dX5_sumOf_45 : decode cX5_sumOf 45 = .ok (.getfield 7, 3) := by decide +kernel
theorem dX5_sumOf_48 : decode cX5_sumOf 48 = .ok (.bipush 41, 2) := by decide +kernel
theorem dX5_sumOf_50 : decode cX5_sumOf 50 = .ok (.iaload, 1) := by decide +kernel
theorem dX5_sumOf_51 : decode cX5_sumOf 51 = .ok (.if_icmp .ge 38, 3) := by decide +kernel
theorem dX5_sumOf_54 : decode cX5_sumOf 54 = .ok (.lload_n 2, 1) := by decide +kernel
theorem dX5_sumOf_55 : decode cX5_sumOf 55 = .ok (.aload_n 0, 1) := by decide +kernel
theorem dX5_sumOf_56 : decode cX5_sumOf 56 = .ok (.iload 4, 2) := by decide +kernel
theorem dX5_sumOf_58 : decode cX5_sumOf 58 = .ok (.iconst 2, 1) := by decide +kernel
theorem dX5_sumOf_59 : decode cX5_sumOf 59 = .ok (.invokevirtual 147, 3) := by decide +kernel
theorem dX5_sumOf_62 : decode cX5_sumOf 62 = .ok (.iload_n 1, 1) := by decide +kernel
theorem dX5_sumOf_63 : decode cX5_sumOf 63 = .ok (.ifCond .ne 7, 3) := by decide +kernel
theorem dX5_sumOf_66 : decode cX5_sumOf 66 = .ok (.iconst 1, 1) := by decide +kernel
theorem dX5_sumOf_67 : decode cX5_sumOf 67 = .ok (.goto 12, 3) := by decide +kernel
theorem dX5_sumOf_70 : decode cX5_sumOf 70 = .ok (.aload_n 0, 1) := by decide +kernel
theorem dX5_sumOf_71 : decode cX5_sumOf 71 = .ok (.iload 4, 2) := by decide +kernel
theorem dX5_sumOf_73 : decode cX5_sumOf 73 = .ok (.iload_n 1, 1) := by decide +kernel
theorem dX5_sumOf_74 : decode cX5_sumOf 74 = .ok (.iconst 1, 1) := by decide +kernel
theorem dX5_sumOf_75 : decode cX5_sumOf 75 = .ok (.isub, 1) := by decide +kernel
theorem dX5_sumOf_76 : decode cX5_sumOf 76 = .ok (.invokevirtual 147, 3) := by decide +kernel
theorem dX5_sumOf_79 : decode cX5_sumOf 79 = .ok (.imul, 1) := by decide +kernel
theorem dX5_sumOf_80 : decode cX5_sumOf 80 = .ok (.i2l, 1) := by decide +kernel
theorem dX5_sumOf_81 : decode cX5_sumOf 81 = .ok (.ladd, 1) := by decide +kernel
theorem dX5_sumOf_82 : decode cX5_sumOf 82 = .ok (.lstore_n 2, 1) := by decide +kernel
theorem dX5_sumOf_83 : decode cX5_sumOf 83 = .ok (.iinc 4 1, 3) := by decide +kernel
theorem dX5_sumOf_86 : decode cX5_sumOf 86 = .ok (.goto (-44), 3) := by decide +kernel
theorem dX5_sumOf_89 : decode cX5_sumOf 89 = .ok (.lload_n 2, 1) := by decide +kernel
theorem dX5_sumOf_90 : decode cX5_sumOf 90 = .ok (.lreturn, 1) := by decide +kernel
theorem dX5_laysSums_0 : decode cX5_laysSums 0 = .ok (.aload_n 0, 1) := by decide +kernel
theorem dX5_laysSums_1 : decode cX5_laysSums 1 = .ok (.aload_n 0, 1) := by decide +kernel
theorem dX5_laysSums_2 : decode cX5_laysSums 2 = .ok (.iconst 0, 1) := by decide +kernel
theorem dX5_laysSums_3 : decode cX5_laysSums 3 = .ok (.invokevirtual 156, 3) := by decide +kernel
theorem dX5_laysSums_6 : decode cX5_laysSums 6 = .ok (.putfield 160, 3) := by decide +kernel
theorem dX5_laysSums_9 : decode cX5_laysSums 9 = .ok (.aload_n 0, 1) := by decide +kernel
theorem dX5_laysSums_10 : decode cX5_laysSums 10 = .ok (.aload_n 0, 1) := by decide +kernel
theorem dX5_laysSums_11 : decode cX5_laysSums 11 = .ok (.iconst 1, 1) := by decide +kernel
theorem dX5_laysSums_12 : decode cX5_laysSums 12 = .ok (.invokevirtual 156, 3) := by decide +kernel
theorem dX5_laysSums_15 : decode cX5_laysSums 15 = .ok (.putfield 164, 3) := by decide +kernel
theorem dX5_laysSums_18 : decode cX5_laysSums 18 = .ok (.aload_n 0, 1) := by decide +kernel
theorem dX5_laysSums_19 : decode cX5_laysSums 19 = .ok (.aload_n 0, 1) := by decide +kernel
theorem dX5_laysSums_20 : decode cX5_laysSums 20 = .ok (.iconst 2, 1) := by decide +kernel
theorem dX5_laysSums_21 : decode cX5_laysSums 21 = .ok (.invokevirtual 156, 3) := by decide +kernel
theorem dX5_laysSums_24 : decode cX5_laysSums 24 = .ok (.putfield 167, 3) := by decide +kernel
theorem dX5_laysSums_27 : decode cX5_laysSums 27 = .ok (.return_, 1) := by decide +kernel
theorem dX5_laysLoad_0 : decode cX5_laysLoad 0 = .ok (.aload_n 0, 1) := by decide +kernel
theorem dX5_laysLoad_1 : decode cX5_laysLoad 1 = .ok (.iload_n 1, 1) := by decide +kernel
theorem dX5_laysLoad_2 : decode cX5_laysLoad 2 = .ok (.i2l, 1) := by decide +kernel
theorem dX5_laysLoad_3 : decode cX5_laysLoad 3 = .ok (.putfield 160, 3) := by decide +kernel
theorem dX5_laysLoad_6 : decode cX5_laysLoad 6 = .ok (.aload_n 0, 1) := by decide +kernel
theorem dX5_laysLoad_7 : decode cX5_laysLoad 7 = .ok (.iload_n 1, 1) := by decide +kernel
theorem dX5_laysLoad_8 : decode cX5_laysLoad 8 = .ok (.iload_n 2, 1) := by decide +kernel
theorem dX5_laysLoad_9 : decode cX5_laysLoad 9 = .ok (.imul, 1) := by decide +kernel
theorem dX5_laysLoad_10 : decode cX5_laysLoad 10 = .ok (.i2l, 1) := by decide +kernel
theorem dX5_laysLoad_11 : decode cX5_laysLoad 11 = .ok (.putfield 164, 3) := by decide +kernel
theorem dX5_laysLoad_14 : decode cX5_laysLoad 14 = .ok (.aload_n 0, 1) := by decide +kernel
theorem dX5_laysLoad_15 : decode cX5_laysLoad 15 = .ok (.iload_n 1, 1) := by decide +kernel
theorem dX5_laysLoad_16 : decode cX5_laysLoad 16 = .ok (.iload_n 3, 1) := by decide +kernel
theorem dX5_laysLoad_17 : decode cX5_laysLoad 17 = .ok (.imul, 1) := by decide +kernel
theorem dX5_laysLoad_18 : decode cX5_laysLoad 18 = .ok (.i2l, 1) := by decide +kernel
theorem dX5_laysLoad_19 : decode cX5_laysLoad 19 = .ok (.putfield 167, 3) := by decide +kernel
theorem dX5_laysLoad_22 : decode cX5_laysLoad 22 = .ok (.return_, 1) := by decide +kernel
theorem dX5_det_0 : decode cX5_det 0 = .ok (.lload_n 0, 1) := by decide +kernel
theorem dX5_det_1 : decode cX5_det 1 = .ok (.lload 8, 2) := by decide +kernel
theorem dX5_det_3 : decode cX5_det 3 = .ok (.lload 16, 2) := by decide +kernel
theorem dX5_det_5 : decode cX5_det 5 = .ok (.lmul, 1) := by decide +kernel
theorem dX5_det_6 : decode cX5_det 6 = .ok (.lload 10, 2) := by decide +kernel
theorem dX5_det_8 : decode cX5_det 8 = .ok (.lload 14, 2) := by decide +kernel
theorem dX5_det_10 : decode cX5_det 10 = .ok (.lmul, 1) := by decide +kernel
theorem dX5_det_11 : decode cX5_det 11 = .ok (.lsub, 1) := by decide +kernel
theorem dX5_det_12 : decode cX5_det 12 = .ok (.lmul, 1) := by decide +kernel
theorem dX5_det_13 : decode cX5_det 13 = .ok (.lload_n 2, 1) := by decide +kernel
theorem dX5_det_14 : decode cX5_det 14 = .ok (.lload 6, 2) := by decide +kernel
theorem dX5_det_16 : decode cX5_det 16 = .ok (.lload 16, 2) := by decide +kernel
theorem dX5_det_18 : decode cX5_det 18 = .ok (.lmul, 1) := by decide +kernel
theorem dX5_det_19 : decode cX5_det 19 = .ok (.lload 10, 2) := by decide +kernel
theorem dX5_det_21 : decode cX5_det 21 = .ok (.lload 12, 2) := by decide +kernel
theorem dX5_det_23 : decode cX5_det 23 = .ok (.lmul, 1) := by decide +kernel
theorem dX5_det_24 : decode cX5_det 24 = .ok (.lsub, 1) := by decide +kernel
theorem dX5_det_25 : decode cX5_det 25 = .ok (.lmul, 1) := by decide +kernel
theorem dX5_det_26 : decode cX5_det 26 = .ok (.lsub, 1) := by decide +kernel
theorem dX5_det_27 : decode cX5_det 27 = .ok (.lload 4, 2) := by decide +kernel
theorem dX5_det_29 : decode cX5_det 29 = .ok (.lload 6, 2) := by decide +kernel
theorem dX5_det_31 : decode cX5_det 31 = .ok (.lload 14, 2) := by decide +kernel
theorem dX5_det_33 : decode cX5_det 33 = .ok (.lmul, 1) := by decide +kernel
theorem dX5_det_34 : decode cX5_det 34 = .ok (.lload 8, 2) := by decide +kernel
theorem dX5_det_36 : decode cX5_det 36 = .ok (.lload 12, 2) := by decide +kernel
theorem dX5_det_38 : decode cX5_det 38 = .ok (.lmul, 1) := by decide +kernel
theorem dX5_det_39 : decode cX5_det 39 = .ok (.lsub, 1) := by decide +kernel
theorem dX5_det_40 : decode cX5_det 40 = .ok (.lmul, 1) := by decide +kernel
theorem dX5_det_41 : decode cX5_det 41 = .ok (.ladd, 1) := by decide +kernel
theorem dX5_det_42 : decode cX5_det 42 = .ok (.lreturn, 1) := by decide +kernel
theorem dX5_isSteady_0 : decode cX5_isSteady 0 = .ok (.lconst 0, 1) := by decide +kernel
theorem dX5_isSteady_1 : decode cX5_isSteady 1 = .ok (.lstore_n 2, 1) := by decide +kernel
theorem dX5_isSteady_2 : decode cX5_isSteady 2 = .ok (.lconst 0, 1) := by decide +kernel
theorem dX5_isSteady_3 : decode cX5_isSteady 3 = .ok (.lstore 4, 2) := by decide +kernel
theorem dX5_isSteady_5 : decode cX5_isSteady 5 = .ok (.lconst 0, 1) := by decide +kernel
theorem dX5_isSteady_6 : decode cX5_isSteady 6 = .ok (.lstore 6, 2) := by decide +kernel
theorem dX5_isSteady_8 : decode cX5_isSteady 8 = .ok (.lconst 0, 1) := by decide +kernel
theorem dX5_isSteady_9 : decode cX5_isSteady 9 = .ok (.lstore 8, 2) := by decide +kernel
theorem dX5_isSteady_11 : decode cX5_isSteady 11 = .ok (.lconst 0, 1) := by decide +kernel
theorem dX5_isSteady_12 : decode cX5_isSteady 12 = .ok (.lstore 10, 2) := by decide +kernel
theorem dX5_isSteady_14 : decode cX5_isSteady 14 = .ok (.lconst 0, 1) := by decide +kernel
theorem dX5_isSteady_15 : decode cX5_isSteady 15 = .ok (.lstore 12, 2) := by decide +kernel
theorem dX5_isSteady_17 : decode cX5_isSteady 17 = .ok (.iconst 0, 1) := by decide +kernel
theorem dX5_isSteady_18 : decode cX5_isSteady 18 = .ok (.istore 14, 2) := by decide +kernel
theorem dX5_isSteady_20 : decode cX5_isSteady 20 = .ok (.iload 14, 2) := by decide +kernel
theorem dX5_isSteady_22 : decode cX5_isSteady 22 = .ok (.aload_n 0, 1) := by decide +kernel
theorem dX5_isSteady_23 : decode cX5_isSteady 23 = .ok (.getfield 150, 3) := by decide +kernel
theorem dX5_isSteady_26 : decode cX5_isSteady 26 = .ok (.if_icmp .ge 159, 3) := by decide +kernel
theorem dX5_isSteady_29 : decode cX5_isSteady 29 = .ok (.iload_n 1, 1) := by decide +kernel
theorem dX5_isSteady_30 : decode cX5_isSteady 30 = .ok (.iload 14, 2) := by decide +kernel
theorem dX5_isSteady_32 : decode cX5_isSteady 32 = .ok (.ishr, 1) := by decide +kernel
theorem dX5_isSteady_33 : decode cX5_isSteady 33 = .ok (.iconst 1, 1) := by decide +kernel
theorem dX5_isSteady_34 : decode cX5_isSteady 34 = .ok (.iand, 1) := by decide +kernel
theorem dX5_isSteady_35 : decode cX5_isSteady 35 = .ok (.iconst 1, 1) := by decide +kernel
theorem dX5_isSteady_36 : decode cX5_isSteady 36 = .ok (.if_icmp .ne 143, 3) := by decide +kernel
theorem dX5_isSteady_39 : decode cX5_isSteady 39 = .ok (.lload_n 2, 1) := by decide +kernel
theorem dX5_isSteady_40 : decode cX5_isSteady 40 = .ok (.aload_n 0, 1) := by decide +kernel
theorem dX5_isSteady_41 : decode cX5_isSteady 41 = .ok (.getfield 42, 3) := by decide +kernel
theorem dX5_isSteady_44 : decode cX5_isSteady 44 = .ok (.iload 14, 2) := by decide +kernel
theorem dX5_isSteady_46 : decode cX5_isSteady 46 = .ok (.iaload, 1) := by decide +kernel
theorem dX5_isSteady_47 : decode cX5_isSteady 47 = .ok (.i2l, 1) := by decide +kernel
theorem dX5_isSteady_48 : decode cX5_isSteady 48 = .ok (.ladd, 1) := by decide +kernel
theorem dX5_isSteady_49 : decode cX5_isSteady 49 = .ok (.lstore_n 2, 1) := by decide +kernel
theorem dX5_isSteady_50 : decode cX5_isSteady 50 = .ok (.lload 4, 2) := by decide +kernel
theorem dX5_isSteady_52 : decode cX5_isSteady 52 = .ok (.aload_n 0, 1) := by decide +kernel
theorem dX5_isSteady_53 : decode cX5_isSteady 53 = .ok (.getfield 42, 3) := by decide +kernel
theorem dX5_isSteady_56 : decode cX5_isSteady 56 = .ok (.iload 14, 2) := by decide +kernel
theorem dX5_isSteady_58 : decode cX5_isSteady 58 = .ok (.iaload, 1) := by decide +kernel
theorem dX5_isSteady_59 : decode cX5_isSteady 59 = .ok (.aload_n 0, 1) := by decide +kernel
theorem dX5_isSteady_60 : decode cX5_isSteady 60 = .ok (.getfield 36, 3) := by decide +kernel
theorem dX5_isSteady_63 : decode cX5_isSteady 63 = .ok (.iload 14, 2) := by decide +kernel
theorem dX5_isSteady_65 : decode cX5_isSteady 65 = .ok (.iaload, 1) := by decide +kernel
theorem dX5_isSteady_66 : decode cX5_isSteady 66 = .ok (.imul, 1) := by decide +kernel
theorem dX5_isSteady_67 : decode cX5_isSteady 67 = .ok (.i2l, 1) := by decide +kernel
theorem dX5_isSteady_68 : decode cX5_isSteady 68 = .ok (.ladd, 1) := by decide +kernel
theorem dX5_isSteady_69 : decode cX5_isSteady 69 = .ok (.lstore 4, 2) := by decide +kernel
theorem dX5_isSteady_71 : decode cX5_isSteady 71 = .ok (.lload 6, 2) := by decide +kernel
theorem dX5_isSteady_73 : decode cX5_isSteady 73 = .ok (.aload_n 0, 1) := by decide +kernel
theorem dX5_isSteady_74 : decode cX5_isSteady 74 = .ok (.getfield 42, 3) := by decide +kernel
theorem dX5_isSteady_77 : decode cX5_isSteady 77 = .ok (.iload 14, 2) := by decide +kernel
theorem dX5_isSteady_79 : decode cX5_isSteady 79 = .ok (.iaload, 1) := by decide +kernel
theorem dX5_isSteady_80 : decode cX5_isSteady 80 = .ok (.aload_n 0, 1) := by decide +kernel
theorem dX5_isSteady_81 : decode cX5_isSteady 81 = .ok (.getfield 39, 3) := by decide +kernel
theorem dX5_isSteady_84 : decode cX5_isSteady 84 = .ok (.iload 14, 2) := by decide +kernel
theorem dX5_isSteady_86 : decode cX5_isSteady 86 = .ok (.iaload, 1) := by decide +kernel
theorem dX5_isSteady_87 : decode cX5_isSteady 87 = .ok (.imul, 1) := by decide +kernel
theorem dX5_isSteady_88 : decode cX5_isSteady 88 = .ok (.i2l, 1) := by decide +kernel
theorem dX5_isSteady_89 : decode cX5_isSteady 89 = .ok (.ladd, 1) := by decide +kernel
theorem dX5_isSteady_90 : decode cX5_isSteady 90 = .ok (.lstore 6, 2) := by decide +kernel
theorem dX5_isSteady_92 : decode cX5_isSteady 92 = .ok (.lload 8, 2) := by decide +kernel
theorem dX5_isSteady_94 : decode cX5_isSteady 94 = .ok (.aload_n 0, 1) := by decide +kernel
theorem dX5_isSteady_95 : decode cX5_isSteady 95 = .ok (.getfield 42, 3) := by decide +kernel
theorem dX5_isSteady_98 : decode cX5_isSteady 98 = .ok (.iload 14, 2) := by decide +kernel
theorem dX5_isSteady_100 : decode cX5_isSteady 100 = .ok (.iaload, 1) := by decide +kernel
theorem dX5_isSteady_101 : decode cX5_isSteady 101 = .ok (.aload_n 0, 1) := by decide +kernel
theorem dX5_isSteady_102 : decode cX5_isSteady 102 = .ok (.getfield 36, 3) := by decide +kernel
theorem dX5_isSteady_105 : decode cX5_isSteady 105 = .ok (.iload 14, 2) := by decide +kernel
theorem dX5_isSteady_107 : decode cX5_isSteady 107 = .ok (.iaload, 1) := by decide +kernel
theorem dX5_isSteady_108 : decode cX5_isSteady 108 = .ok (.imul, 1) := by decide +kernel
theorem dX5_isSteady_109 : decode cX5_isSteady 109 = .ok (.aload_n 0, 1) := by decide +kernel
theorem dX5_isSteady_110 : decode cX5_isSteady 110 = .ok (.getfield 36, 3) := by decide +kernel
theorem dX5_isSteady_113 : decode cX5_isSteady 113 = .ok (.iload 14, 2) := by decide +kernel
theorem dX5_isSteady_115 : decode cX5_isSteady 115 = .ok (.iaload, 1) := by decide +kernel
theorem dX5_isSteady_116 : decode cX5_isSteady 116 = .ok (.imul, 1) := by decide +kernel
theorem dX5_isSteady_117 : decode cX5_isSteady 117 = .ok (.i2l, 1) := by decide +kernel
theorem dX5_isSteady_118 : decode cX5_isSteady 118 = .ok (.ladd, 1) := by decide +kernel
theorem dX5_isSteady_119 : decode cX5_isSteady 119 = .ok (.lstore 8, 2) := by decide +kernel
theorem dX5_isSteady_121 : decode cX5_isSteady 121 = .ok (.lload 10, 2) := by decide +kernel
theorem dX5_isSteady_123 : decode cX5_isSteady 123 = .ok (.aload_n 0, 1) := by decide +kernel
theorem dX5_isSteady_124 : decode cX5_isSteady 124 = .ok (.getfield 42, 3) := by decide +kernel
theorem dX5_isSteady_127 : decode cX5_isSteady 127 = .ok (.iload 14, 2) := by decide +kernel
theorem dX5_isSteady_129 : decode cX5_isSteady 129 = .ok (.iaload, 1) := by decide +kernel
theorem dX5_isSteady_130 : decode cX5_isSteady 130 = .ok (.aload_n 0, 1) := by decide +kernel
theorem dX5_isSteady_131 : decode cX5_isSteady 131 = .ok (.getfield 36, 3) := by decide +kernel
theorem dX5_isSteady_134 : decode cX5_isSteady 134 = .ok (.iload 14, 2) := by decide +kernel
theorem dX5_isSteady_136 : decode cX5_isSteady 136 = .ok (.iaload, 1) := by decide +kernel
theorem dX5_isSteady_137 : decode cX5_isSteady 137 = .ok (.imul, 1) := by decide +kernel
theorem dX5_isSteady_138 : decode cX5_isSteady 138 = .ok (.aload_n 0, 1) := by decide +kernel
theorem dX5_isSteady_139 : decode cX5_isSteady 139 = .ok (.getfield 39, 3) := by decide +kernel
theorem dX5_isSteady_142 : decode cX5_isSteady 142 = .ok (.iload 14, 2) := by decide +kernel
theorem dX5_isSteady_144 : decode cX5_isSteady 144 = .ok (.iaload, 1) := by decide +kernel
theorem dX5_isSteady_145 : decode cX5_isSteady 145 = .ok (.imul, 1) := by decide +kernel
theorem dX5_isSteady_146 : decode cX5_isSteady 146 = .ok (.i2l, 1) := by decide +kernel
theorem dX5_isSteady_147 : decode cX5_isSteady 147 = .ok (.ladd, 1) := by decide +kernel
theorem dX5_isSteady_148 : decode cX5_isSteady 148 = .ok (.lstore 10, 2) := by decide +kernel
theorem dX5_isSteady_150 : decode cX5_isSteady 150 = .ok (.lload 12, 2) := by decide +kernel
theorem dX5_isSteady_152 : decode cX5_isSteady 152 = .ok (.aload_n 0, 1) := by decide +kernel
theorem dX5_isSteady_153 : decode cX5_isSteady 153 = .ok (.getfield 42, 3) := by decide +kernel
theorem dX5_isSteady_156 : decode cX5_isSteady 156 = .ok (.iload 14, 2) := by decide +kernel
theorem dX5_isSteady_158 : decode cX5_isSteady 158 = .ok (.iaload, 1) := by decide +kernel
theorem dX5_isSteady_159 : decode cX5_isSteady 159 = .ok (.aload_n 0, 1) := by decide +kernel
theorem dX5_isSteady_160 : decode cX5_isSteady 160 = .ok (.getfield 39, 3) := by decide +kernel
theorem dX5_isSteady_163 : decode cX5_isSteady 163 = .ok (.iload 14, 2) := by decide +kernel
theorem dX5_isSteady_165 : decode cX5_isSteady 165 = .ok (.iaload, 1) := by decide +kernel
theorem dX5_isSteady_166 : decode cX5_isSteady 166 = .ok (.imul, 1) := by decide +kernel
theorem dX5_isSteady_167 : decode cX5_isSteady 167 = .ok (.aload_n 0, 1) := by decide +kernel
theorem dX5_isSteady_168 : decode cX5_isSteady 168 = .ok (.getfield 39, 3) := by decide +kernel
theorem dX5_isSteady_171 : decode cX5_isSteady 171 = .ok (.iload 14, 2) := by decide +kernel
theorem dX5_isSteady_173 : decode cX5_isSteady 173 = .ok (.iaload, 1) := by decide +kernel
theorem dX5_isSteady_174 : decode cX5_isSteady 174 = .ok (.imul, 1) := by decide +kernel
theorem dX5_isSteady_175 : decode cX5_isSteady 175 = .ok (.i2l, 1) := by decide +kernel
theorem dX5_isSteady_176 : decode cX5_isSteady 176 = .ok (.ladd, 1) := by decide +kernel
theorem dX5_isSteady_177 : decode cX5_isSteady 177 = .ok (.lstore 12, 2) := by decide +kernel
theorem dX5_isSteady_179 : decode cX5_isSteady 179 = .ok (.iinc 14 1, 3) := by decide +kernel
theorem dX5_isSteady_182 : decode cX5_isSteady 182 = .ok (.goto (-162), 3) := by decide +kernel
theorem dX5_isSteady_185 : decode cX5_isSteady 185 = .ok (.aload_n 0, 1) := by decide +kernel
theorem dX5_isSteady_186 : decode cX5_isSteady 186 = .ok (.lload_n 2, 1) := by decide +kernel
theorem dX5_isSteady_187 : decode cX5_isSteady 187 = .ok (.lload 4, 2) := by decide +kernel
theorem dX5_isSteady_189 : decode cX5_isSteady 189 = .ok (.lload 6, 2) := by decide +kernel
theorem dX5_isSteady_191 : decode cX5_isSteady 191 = .ok (.lload 4, 2) := by decide +kernel
theorem dX5_isSteady_193 : decode cX5_isSteady 193 = .ok (.lload 8, 2) := by decide +kernel
theorem dX5_isSteady_195 : decode cX5_isSteady 195 = .ok (.lload 10, 2) := by decide +kernel
theorem dX5_isSteady_197 : decode cX5_isSteady 197 = .ok (.lload 6, 2) := by decide +kernel
theorem dX5_isSteady_199 : decode cX5_isSteady 199 = .ok (.lload 10, 2) := by decide +kernel
theorem dX5_isSteady_201 : decode cX5_isSteady 201 = .ok (.lload 12, 2) := by decide +kernel
theorem dX5_isSteady_203 : decode cX5_isSteady 203 = .ok (.invokestatic 170, 3) := by decide +kernel
theorem dX5_isSteady_206 : decode cX5_isSteady 206 = .ok (.putfield 174, 3) := by decide +kernel
theorem dX5_isSteady_209 : decode cX5_isSteady 209 = .ok (.aload_n 0, 1) := by decide +kernel
theorem dX5_isSteady_210 : decode cX5_isSteady 210 = .ok (.aload_n 0, 1) := by decide +kernel
theorem dX5_isSteady_211 : decode cX5_isSteady 211 = .ok (.getfield 160, 3) := by decide +kernel
theorem dX5_isSteady_214 : decode cX5_isSteady 214 = .ok (.lload 4, 2) := by decide +kernel
theorem dX5_isSteady_216 : decode cX5_isSteady 216 = .ok (.lload 6, 2) := by decide +kernel
theorem dX5_isSteady_218 : decode cX5_isSteady 218 = .ok (.aload_n 0, 1) := by decide +kernel
theorem dX5_isSteady_219 : decode cX5_isSteady 219 = .ok (.getfield 164, 3) := by decide +kernel
theorem dX5_isSteady_222 : decode cX5_isSteady 222 = .ok (.lload 8, 2) := by decide +kernel
theorem dX5_isSteady_224 : decode cX5_isSteady 224 = .ok (.lload 10, 2) := by decide +kernel
theorem dX5_isSteady_226 : decode cX5_isSteady 226 = .ok (.aload_n 0, 1) := by decide +kernel
theorem dX5_isSteady_227 : decode cX5_isSteady 227 = .ok (.getfield 167, 3) := by decide +kernel
theorem dX5_isSteady_230 : decode cX5_isSteady 230 = .ok (.lload 10, 2) := by decide +kernel
theorem dX5_isSteady_232 : decode cX5_isSteady 232 = .ok (.lload 12, 2) := by decide +kernel
theorem dX5_isSteady_234 : decode cX5_isSteady 234 = .ok (.invokestatic 170, 3) := by decide +kernel
theorem dX5_isSteady_237 : decode cX5_isSteady 237 = .ok (.putfield 177, 3) := by decide +kernel
theorem dX5_isSteady_240 : decode cX5_isSteady 240 = .ok (.aload_n 0, 1) := by decide +kernel
theorem dX5_isSteady_241 : decode cX5_isSteady 241 = .ok (.lload_n 2, 1) := by decide +kernel
theorem dX5_isSteady_242 : decode cX5_isSteady 242 = .ok (.aload_n 0, 1) := by decide +kernel
theorem dX5_isSteady_243 : decode cX5_isSteady 243 = .ok (.getfield 160, 3) := by decide +kernel
theorem dX5_isSteady_246 : decode cX5_isSteady 246 = .ok (.lload 6, 2) := by decide +kernel
theorem dX5_isSteady_248 : decode cX5_isSteady 248 = .ok (.lload 4, 2) := by decide +kernel
theorem dX5_isSteady_250 : decode cX5_isSteady 250 = .ok (.aload_n 0, 1) := by decide +kernel
theorem dX5_isSteady_251 : decode cX5_isSteady 251 = .ok (.getfield 164, 3) := by decide +kernel
theorem dX5_isSteady_254 : decode cX5_isSteady 254 = .ok (.lload 10, 2) := by decide +kernel
theorem dX5_isSteady_256 : decode cX5_isSteady 256 = .ok (.lload 6, 2) := by decide +kernel
theorem dX5_isSteady_258 : decode cX5_isSteady 258 = .ok (.aload_n 0, 1) := by decide +kernel
theorem dX5_isSteady_259 : decode cX5_isSteady 259 = .ok (.getfield 167, 3) := by decide +kernel
theorem dX5_isSteady_262 : decode cX5_isSteady 262 = .ok (.lload 12, 2) := by decide +kernel
theorem dX5_isSteady_264 : decode cX5_isSteady 264 = .ok (.invokestatic 170, 3) := by decide +kernel
theorem dX5_isSteady_267 : decode cX5_isSteady 267 = .ok (.putfield 180, 3) := by decide +kernel
theorem dX5_isSteady_270 : decode cX5_isSteady 270 = .ok (.aload_n 0, 1) := by decide +kernel
theorem dX5_isSteady_271 : decode cX5_isSteady 271 = .ok (.lload_n 2, 1) := by decide +kernel
theorem dX5_isSteady_272 : decode cX5_isSteady 272 = .ok (.lload 4, 2) := by decide +kernel
theorem dX5_isSteady_274 : decode cX5_isSteady 274 = .ok (.aload_n 0, 1) := by decide +kernel
theorem dX5_isSteady_275 : decode cX5_isSteady 275 = .ok (.getfield 160, 3) := by decide +kernel
theorem dX5_isSteady_278 : decode cX5_isSteady 278 = .ok (.lload 4, 2) := by decide +kernel
theorem dX5_isSteady_280 : decode cX5_isSteady 280 = .ok (.lload 8, 2) := by decide +kernel
theorem dX5_isSteady_282 : decode cX5_isSteady 282 = .ok (.aload_n 0, 1) := by decide +kernel
theorem dX5_isSteady_283 : decode cX5_isSteady 283 = .ok (.getfield 164, 3) := by decide +kernel
theorem dX5_isSteady_286 : decode cX5_isSteady 286 = .ok (.lload 6, 2) := by decide +kernel
theorem dX5_isSteady_288 : decode cX5_isSteady 288 = .ok (.lload 10, 2) := by decide +kernel
theorem dX5_isSteady_290 : decode cX5_isSteady 290 = .ok (.aload_n 0, 1) := by decide +kernel
theorem dX5_isSteady_291 : decode cX5_isSteady 291 = .ok (.getfield 167, 3) := by decide +kernel
theorem dX5_isSteady_294 : decode cX5_isSteady 294 = .ok (.invokestatic 170, 3) := by decide +kernel
theorem dX5_isSteady_297 : decode cX5_isSteady 297 = .ok (.putfield 183, 3) := by decide +kernel
theorem dX5_isSteady_300 : decode cX5_isSteady 300 = .ok (.aload_n 0, 1) := by decide +kernel
theorem dX5_isSteady_301 : decode cX5_isSteady 301 = .ok (.getfield 174, 3) := by decide +kernel
theorem dX5_isSteady_304 : decode cX5_isSteady 304 = .ok (.lconst 0, 1) := by decide +kernel
theorem dX5_isSteady_305 : decode cX5_isSteady 305 = .ok (.lcmp, 1) := by decide +kernel
theorem dX5_isSteady_306 : decode cX5_isSteady 306 = .ok (.ifCond .ge 39, 3) := by decide +kernel
theorem dX5_isSteady_309 : decode cX5_isSteady 309 = .ok (.aload_n 0, 1) := by decide +kernel
theorem dX5_isSteady_310 : decode cX5_isSteady 310 = .ok (.aload_n 0, 1) := by decide +kernel
theorem dX5_isSteady_311 : decode cX5_isSteady 311 = .ok (.getfield 174, 3) := by decide +kernel
theorem dX5_isSteady_314 : decode cX5_isSteady 314 = .ok (.lneg, 1) := by decide +kernel
theorem dX5_isSteady_315 : decode cX5_isSteady 315 = .ok (.putfield 174, 3) := by decide +kernel
theorem dX5_isSteady_318 : decode cX5_isSteady 318 = .ok (.aload_n 0, 1) := by decide +kernel
theorem dX5_isSteady_319 : decode cX5_isSteady 319 = .ok (.aload_n 0, 1) := by decide +kernel
theorem dX5_isSteady_320 : decode cX5_isSteady 320 = .ok (.getfield 177, 3) := by decide +kernel
theorem dX5_isSteady_323 : decode cX5_isSteady 323 = .ok (.lneg, 1) := by decide +kernel
theorem dX5_isSteady_324 : decode cX5_isSteady 324 = .ok (.putfield 177, 3) := by decide +kernel
theorem dX5_isSteady_327 : decode cX5_isSteady 327 = .ok (.aload_n 0, 1) := by decide +kernel
theorem dX5_isSteady_328 : decode cX5_isSteady 328 = .ok (.aload_n 0, 1) := by decide +kernel
theorem dX5_isSteady_329 : decode cX5_isSteady 329 = .ok (.getfield 180, 3) := by decide +kernel
theorem dX5_isSteady_332 : decode cX5_isSteady 332 = .ok (.lneg, 1) := by decide +kernel
theorem dX5_isSteady_333 : decode cX5_isSteady 333 = .ok (.putfield 180, 3) := by decide +kernel
theorem dX5_isSteady_336 : decode cX5_isSteady 336 = .ok (.aload_n 0, 1) := by decide +kernel
theorem dX5_isSteady_337 : decode cX5_isSteady 337 = .ok (.aload_n 0, 1) := by decide +kernel
theorem dX5_isSteady_338 : decode cX5_isSteady 338 = .ok (.getfield 183, 3) := by decide +kernel
theorem dX5_isSteady_341 : decode cX5_isSteady 341 = .ok (.lneg, 1) := by decide +kernel
theorem dX5_isSteady_342 : decode cX5_isSteady 342 = .ok (.putfield 183, 3) := by decide +kernel
theorem dX5_isSteady_345 : decode cX5_isSteady 345 = .ok (.aload_n 0, 1) := by decide +kernel
theorem dX5_isSteady_346 : decode cX5_isSteady 346 = .ok (.getfield 174, 3) := by decide +kernel
theorem dX5_isSteady_349 : decode cX5_isSteady 349 = .ok (.lconst 0, 1) := by decide +kernel
theorem dX5_isSteady_350 : decode cX5_isSteady 350 = .ok (.lcmp, 1) := by decide +kernel
theorem dX5_isSteady_351 : decode cX5_isSteady 351 = .ok (.ifCond .eq 7, 3) := by decide +kernel
theorem dX5_isSteady_354 : decode cX5_isSteady 354 = .ok (.iconst 1, 1) := by decide +kernel
theorem dX5_isSteady_355 : decode cX5_isSteady 355 = .ok (.goto 4, 3) := by decide +kernel
theorem dX5_isSteady_358 : decode cX5_isSteady 358 = .ok (.iconst 0, 1) := by decide +kernel
theorem dX5_isSteady_359 : decode cX5_isSteady 359 = .ok (.ireturn, 1) := by decide +kernel
theorem dX5_pressAt_0 : decode cX5_pressAt 0 = .ok (.aload_n 0, 1) := by decide +kernel
theorem dX5_pressAt_1 : decode cX5_pressAt 1 = .ok (.getfield 177, 3) := by decide +kernel
theorem dX5_pressAt_4 : decode cX5_pressAt 4 = .ok (.aload_n 0, 1) := by decide +kernel
theorem dX5_pressAt_5 : decode cX5_pressAt 5 = .ok (.getfield 180, 3) := by decide +kernel
theorem dX5_pressAt_8 : decode cX5_pressAt 8 = .ok (.iload_n 1, 1) := by decide +kernel
theorem dX5_pressAt_9 : decode cX5_pressAt 9 = .ok (.i2l, 1) := by decide +kernel
theorem dX5_pressAt_10 : decode cX5_pressAt 10 = .ok (.lmul, 1) := by decide +kernel
theorem dX5_pressAt_11 : decode cX5_pressAt 11 = .ok (.ladd, 1) := by decide +kernel
theorem dX5_pressAt_12 : decode cX5_pressAt 12 = .ok (.aload_n 0, 1) := by decide +kernel
theorem dX5_pressAt_13 : decode cX5_pressAt 13 = .ok (.getfield 183, 3) := by decide +kernel
theorem dX5_pressAt_16 : decode cX5_pressAt 16 = .ok (.iload_n 2, 1) := by decide +kernel
theorem dX5_pressAt_17 : decode cX5_pressAt 17 = .ok (.i2l, 1) := by decide +kernel
theorem dX5_pressAt_18 : decode cX5_pressAt 18 = .ok (.lmul, 1) := by decide +kernel
theorem dX5_pressAt_19 : decode cX5_pressAt 19 = .ok (.ladd, 1) := by decide +kernel
theorem dX5_pressAt_20 : decode cX5_pressAt 20 = .ok (.lreturn, 1) := by decide +kernel
theorem dX5_bears_0 : decode cX5_bears 0 = .ok (.aload_n 0, 1) := by decide +kernel
theorem dX5_bears_1 : decode cX5_bears 1 = .ok (.getfield 186, 3) := by decide +kernel
theorem dX5_bears_4 : decode cX5_bears 4 = .ok (.iload_n 1, 1) := by decide +kernel
theorem dX5_bears_5 : decode cX5_bears 5 = .ok (.ishr, 1) := by decide +kernel
theorem dX5_bears_6 : decode cX5_bears 6 = .ok (.iconst 1, 1) := by decide +kernel
theorem dX5_bears_7 : decode cX5_bears 7 = .ok (.iand, 1) := by decide +kernel
theorem dX5_bears_8 : decode cX5_bears 8 = .ok (.iconst 1, 1) := by decide +kernel
theorem dX5_bears_9 : decode cX5_bears 9 = .ok (.if_icmp .ne 30, 3) := by decide +kernel
theorem dX5_bears_12 : decode cX5_bears 12 = .ok (.aload_n 0, 1) := by decide +kernel
theorem dX5_bears_13 : decode cX5_bears 13 = .ok (.getfield 42, 3) := by decide +kernel
theorem dX5_bears_16 : decode cX5_bears 16 = .ok (.iload_n 1, 1) := by decide +kernel
theorem dX5_bears_17 : decode cX5_bears 17 = .ok (.iaload, 1) := by decide +kernel
theorem dX5_bears_18 : decode cX5_bears 18 = .ok (.i2l, 1) := by decide +kernel
theorem dX5_bears_19 : decode cX5_bears 19 = .ok (.aload_n 0, 1) := by decide +kernel
theorem dX5_bears_20 : decode cX5_bears 20 = .ok (.aload_n 0, 1) := by decide +kernel
theorem dX5_bears_21 : decode cX5_bears 21 = .ok (.getfield 36, 3) := by decide +kernel
theorem dX5_bears_24 : decode cX5_bears 24 = .ok (.iload_n 1, 1) := by decide +kernel
theorem dX5_bears_25 : decode cX5_bears 25 = .ok (.iaload, 1) := by decide +kernel
theorem dX5_bears_26 : decode cX5_bears 26 = .ok (.aload_n 0, 1) := by decide +kernel
theorem dX5_bears_27 : decode cX5_bears 27 = .ok (.getfield 39, 3) := by decide +kernel
theorem dX5_bears_30 : decode cX5_bears 30 = .ok (.iload_n 1, 1) := by decide +kernel
theorem dX5_bears_31 : decode cX5_bears 31 = .ok (.iaload, 1) := by decide +kernel
theorem dX5_bears_32 : decode cX5_bears 32 = .ok (.invokevirtual 189, 3) := by decide +kernel
theorem dX5_bears_35 : decode cX5_bears 35 = .ok (.lmul, 1) := by decide +kernel
theorem dX5_bears_36 : decode cX5_bears 36 = .ok (.goto 4, 3) := by decide +kernel
theorem dX5_bears_39 : decode cX5_bears 39 = .ok (.lconst 0, 1) := by decide +kernel
theorem dX5_bears_40 : decode cX5_bears 40 = .ok (.lreturn, 1) := by decide +kernel
theorem dX5_goesOut_0 : decode cX5_goesOut 0 = .ok (.bipush (-9), 2) := by decide +kernel
theorem dX5_goesOut_2 : decode cX5_goesOut 2 = .ok (.istore_n 1, 1) := by decide +kernel
theorem dX5_goesOut_3 : decode cX5_goesOut 3 = .ok (.iconst 0, 1) := by decide +kernel
theorem dX5_goesOut_4 : decode cX5_goesOut 4 = .ok (.istore_n 2, 1) := by decide +kernel
theorem dX5_goesOut_5 : decode cX5_goesOut 5 = .ok (.iload_n 2, 1) := by decide +kernel
theorem dX5_goesOut_6 : decode cX5_goesOut 6 = .ok (.aload_n 0, 1) := by decide +kernel
theorem dX5_goesOut_7 : decode cX5_goesOut 7 = .ok (.getfield 150, 3) := by decide +kernel
theorem dX5_goesOut_10 : decode cX5_goesOut 10 = .ok (.if_icmp .ge 53, 3) := by decide +kernel
theorem dX5_goesOut_13 : decode cX5_goesOut 13 = .ok (.aload_n 0, 1) := by decide +kernel
theorem dX5_goesOut_14 : decode cX5_goesOut 14 = .ok (.getfield 186, 3) := by decide +kernel
theorem dX5_goesOut_17 : decode cX5_goesOut 17 = .ok (.iload_n 2, 1) := by decide +kernel
theorem dX5_goesOut_18 : decode cX5_goesOut 18 = .ok (.ishr, 1) := by decide +kernel
theorem dX5_goesOut_19 : decode cX5_goesOut 19 = .ok (.iconst 1, 1) := by decide +kernel
theorem dX5_goesOut_20 : decode cX5_goesOut 20 = .ok (.iand, 1) := by decide +kernel
theorem dX5_goesOut_21 : decode cX5_goesOut 21 = .ok (.iconst 1, 1) := by decide +kernel
theorem dX5_goesOut_22 : decode cX5_goesOut 22 = .ok (.if_icmp .ne 35, 3) := by decide +kernel
theorem dX5_goesOut_25 : decode cX5_goesOut 25 = .ok (.aload_n 0, 1) := by decide +kernel
theorem dX5_goesOut_26 : decode cX5_goesOut 26 = .ok (.iload_n 2, 1) := by decide +kernel
theorem dX5_goesOut_27 : decode cX5_goesOut 27 = .ok (.invokevirtual 193, 3) := by decide +kernel
theorem dX5_goesOut_30 : decode cX5_goesOut 30 = .ok (.lconst 0, 1) := by decide +kernel
theorem dX5_goesOut_31 : decode cX5_goesOut 31 = .ok (.lcmp, 1) := by decide +kernel
theorem dX5_goesOut_32 : decode cX5_goesOut 32 = .ok (.ifCond .ge 25, 3) := by decide +kernel
theorem dX5_goesOut_35 : decode cX5_goesOut 35 = .ok (.iload_n 1, 1) := by decide +kernel
theorem dX5_goesOut_36 : decode cX5_goesOut 36 = .ok (.bipush (-9), 2) := by decide +kernel
theorem dX5_goesOut_38 : decode cX5_goesOut 38 = .ok (.if_icmp .eq 17, 3) := by decide +kernel
theorem dX5_goesOut_41 : decode cX5_goesOut 41 = .ok (.aload_n 0, 1) := by decide +kernel
theorem dX5_goesOut_42 : decode cX5_goesOut 42 = .ok (.iload_n 2, 1) := by decide +kernel
theorem dX5_goesOut_43 : decode cX5_goesOut 43 = .ok (.invokevirtual 193, 3) := by decide +kernel
theorem dX5_goesOut_46 : decode cX5_goesOut 46 = .ok (.aload_n 0, 1) := by decide +kernel
theorem dX5_goesOut_47 : decode cX5_goesOut 47 = .ok (.iload_n 1, 1) := by decide +kernel
theorem dX5_goesOut_48 : decode cX5_goesOut 48 = .ok (.invokevirtual 193, 3) := by decide +kernel
theorem dX5_goesOut_51 : decode cX5_goesOut 51 = .ok (.lcmp, 1) := by decide +kernel
theorem dX5_goesOut_52 : decode cX5_goesOut 52 = .ok (.ifCond .ge 5, 3) := by decide +kernel
theorem dX5_goesOut_55 : decode cX5_goesOut 55 = .ok (.iload_n 2, 1) := by decide +kernel
theorem dX5_goesOut_56 : decode cX5_goesOut 56 = .ok (.istore_n 1, 1) := by decide +kernel
theorem dX5_goesOut_57 : decode cX5_goesOut 57 = .ok (.iinc 2 1, 3) := by decide +kernel
theorem dX5_goesOut_60 : decode cX5_goesOut 60 = .ok (.goto (-55), 3) := by decide +kernel
theorem dX5_goesOut_63 : decode cX5_goesOut 63 = .ok (.iload_n 1, 1) := by decide +kernel
theorem dX5_goesOut_64 : decode cX5_goesOut 64 = .ok (.ireturn, 1) := by decide +kernel
theorem dX5_comesIn_0 : decode cX5_comesIn 0 = .ok (.bipush (-9), 2) := by decide +kernel
theorem dX5_comesIn_2 : decode cX5_comesIn 2 = .ok (.istore_n 1, 1) := by decide +kernel
theorem dX5_comesIn_3 : decode cX5_comesIn 3 = .ok (.iconst 0, 1) := by decide +kernel
theorem dX5_comesIn_4 : decode cX5_comesIn 4 = .ok (.istore_n 2, 1) := by decide +kernel
theorem dX5_comesIn_5 : decode cX5_comesIn 5 = .ok (.iload_n 2, 1) := by decide +kernel
theorem dX5_comesIn_6 : decode cX5_comesIn 6 = .ok (.aload_n 0, 1) := by decide +kernel
theorem dX5_comesIn_7 : decode cX5_comesIn 7 = .ok (.getfield 150, 3) := by decide +kernel
theorem dX5_comesIn_10 : decode cX5_comesIn 10 = .ok (.if_icmp .ge 84, 3) := by decide +kernel
theorem dX5_comesIn_13 : decode cX5_comesIn 13 = .ok (.aload_n 0, 1) := by decide +kernel
theorem dX5_comesIn_14 : decode cX5_comesIn 14 = .ok (.aload_n 0, 1) := by decide +kernel
theorem dX5_comesIn_15 : decode cX5_comesIn 15 = .ok (.getfield 36, 3) := by decide +kernel
theorem dX5_comesIn_18 : decode cX5_comesIn 18 = .ok (.iload_n 2, 1) := by decide +kernel
theorem dX5_comesIn_19 : decode cX5_comesIn 19 = .ok (.iaload, 1) := by decide +kernel
theorem dX5_comesIn_20 : decode cX5_comesIn 20 = .ok (.aload_n 0, 1) := by decide +kernel
theorem dX5_comesIn_21 : decode cX5_comesIn 21 = .ok (.getfield 39, 3) := by decide +kernel
theorem dX5_comesIn_24 : decode cX5_comesIn 24 = .ok (.iload_n 2, 1) := by decide +kernel
theorem dX5_comesIn_25 : decode cX5_comesIn 25 = .ok (.iaload, 1) := by decide +kernel
theorem dX5_comesIn_26 : decode cX5_comesIn 26 = .ok (.invokevirtual 189, 3) := by decide +kernel
theorem dX5_comesIn_29 : decode cX5_comesIn 29 = .ok (.lstore_n 3, 1) := by decide +kernel
theorem dX5_comesIn_30 : decode cX5_comesIn 30 = .ok (.aload_n 0, 1) := by decide +kernel
theorem dX5_comesIn_31 : decode cX5_comesIn 31 = .ok (.getfield 153, 3) := by decide +kernel
theorem dX5_comesIn_34 : decode cX5_comesIn 34 = .ok (.iload_n 2, 1) := by decide +kernel
theorem dX5_comesIn_35 : decode cX5_comesIn 35 = .ok (.ishr, 1) := by decide +kernel
theorem dX5_comesIn_36 : decode cX5_comesIn 36 = .ok (.iconst 1, 1) := by decide +kernel
theorem dX5_comesIn_37 : decode cX5_comesIn 37 = .ok (.iand, 1) := by decide +kernel
theorem dX5_comesIn_38 : decode cX5_comesIn 38 = .ok (.iconst 1, 1) := by decide +kernel
theorem dX5_comesIn_39 : decode cX5_comesIn 39 = .ok (.if_icmp .ne 49, 3) := by decide +kernel
theorem dX5_comesIn_42 : decode cX5_comesIn 42 = .ok (.aload_n 0, 1) := by decide +kernel
theorem dX5_comesIn_43 : decode cX5_comesIn 43 = .ok (.getfield 186, 3) := by decide +kernel
theorem dX5_comesIn_46 : decode cX5_comesIn 46 = .ok (.iload_n 2, 1) := by decide +kernel
theorem dX5_comesIn_47 : decode cX5_comesIn 47 = .ok (.ishr, 1) := by decide +kernel
theorem dX5_comesIn_48 : decode cX5_comesIn 48 = .ok (.iconst 1, 1) := by decide +kernel
theorem dX5_comesIn_49 : decode cX5_comesIn 49 = .ok (.iand, 1) := by decide +kernel
theorem dX5_comesIn_50 : decode cX5_comesIn 50 = .ok (.ifCond .ne 38, 3) := by decide +kernel
theorem dX5_comesIn_53 : decode cX5_comesIn 53 = .ok (.lload_n 3, 1) := by decide +kernel
theorem dX5_comesIn_54 : decode cX5_comesIn 54 = .ok (.lconst 0, 1) := by decide +kernel
theorem dX5_comesIn_55 : decode cX5_comesIn 55 = .ok (.lcmp, 1) := by decide +kernel
theorem dX5_comesIn_56 : decode cX5_comesIn 56 = .ok (.ifCond .le 32, 3) := by decide +kernel
theorem dX5_comesIn_59 : decode cX5_comesIn 59 = .ok (.iload_n 1, 1) := by decide +kernel
theorem dX5_comesIn_60 : decode cX5_comesIn 60 = .ok (.bipush (-9), 2) := by decide +kernel
theorem dX5_comesIn_62 : decode cX5_comesIn 62 = .ok (.if_icmp .eq 24, 3) := by decide +kernel
theorem dX5_comesIn_65 : decode cX5_comesIn 65 = .ok (.lload_n 3, 1) := by decide +kernel
theorem dX5_comesIn_66 : decode cX5_comesIn 66 = .ok (.aload_n 0, 1) := by decide +kernel
theorem dX5_comesIn_67 : decode cX5_comesIn 67 = .ok (.aload_n 0, 1) := by decide +kernel
theorem dX5_comesIn_68 : decode cX5_comesIn 68 = .ok (.getfield 36, 3) := by decide +kernel
theorem dX5_comesIn_71 : decode cX5_comesIn 71 = .ok (.iload_n 1, 1) := by decide +kernel
theorem dX5_comesIn_72 : decode cX5_comesIn 72 = .ok (.iaload, 1) := by decide +kernel
theorem dX5_comesIn_73 : decode cX5_comesIn 73 = .ok (.aload_n 0, 1) := by decide +kernel
theorem dX5_comesIn_74 : decode cX5_comesIn 74 = .ok (.getfield 39, 3) := by decide +kernel
theorem dX5_comesIn_77 : decode cX5_comesIn 77 = .ok (.iload_n 1, 1) := by decide +kernel
theorem dX5_comesIn_78 : decode cX5_comesIn 78 = .ok (.iaload, 1) := by decide +kernel
theorem dX5_comesIn_79 : decode cX5_comesIn 79 = .ok (.invokevirtual 189, 3) := by decide +kernel
theorem dX5_comesIn_82 : decode cX5_comesIn 82 = .ok (.lcmp, 1) := by decide +kernel
theorem dX5_comesIn_83 : decode cX5_comesIn 83 = .ok (.ifCond .le 5, 3) := by decide +kernel
theorem dX5_comesIn_86 : decode cX5_comesIn 86 = .ok (.iload_n 2, 1) := by decide +kernel
theorem dX5_comesIn_87 : decode cX5_comesIn 87 = .ok (.istore_n 1, 1) := by decide +kernel
theorem dX5_comesIn_88 : decode cX5_comesIn 88 = .ok (.iinc 2 1, 3) := by decide +kernel
theorem dX5_comesIn_91 : decode cX5_comesIn 91 = .ok (.goto (-86), 3) := by decide +kernel
theorem dX5_comesIn_94 : decode cX5_comesIn 94 = .ok (.iload_n 1, 1) := by decide +kernel
theorem dX5_comesIn_95 : decode cX5_comesIn 95 = .ok (.ireturn, 1) := by decide +kernel
theorem dX5_shares_0 : decode cX5_shares 0 = .ok (.aload_n 0, 1) := by decide +kernel
theorem dX5_shares_1 : decode cX5_shares 1 = .ok (.aload_n 0, 1) := by decide +kernel
theorem dX5_shares_2 : decode cX5_shares 2 = .ok (.getfield 153, 3) := by decide +kernel
theorem dX5_shares_5 : decode cX5_shares 5 = .ok (.putfield 186, 3) := by decide +kernel
theorem dX5_shares_8 : decode cX5_shares 8 = .ok (.aload_n 0, 1) := by decide +kernel
theorem dX5_shares_9 : decode cX5_shares 9 = .ok (.iconst 0, 1) := by decide +kernel
theorem dX5_shares_10 : decode cX5_shares 10 = .ok (.putfield 196, 3) := by decide +kernel
theorem dX5_shares_13 : decode cX5_shares 13 = .ok (.aload_n 0, 1) := by decide +kernel
theorem dX5_shares_14 : decode cX5_shares 14 = .ok (.iconst 0, 1) := by decide +kernel
theorem dX5_shares_15 : decode cX5_shares 15 = .ok (.putfield 199, 3) := by decide +kernel
theorem dX5_shares_18 : decode cX5_shares 18 = .ok (.aload_n 0, 1) := by decide +kernel
theorem dX5_shares_19 : decode cX5_shares 19 = .ok (.getfield 196, 3) := by decide +kernel
theorem dX5_shares_22 : decode cX5_shares 22 = .ok (.bipush 40, 2) := by decide +kernel
theorem dX5_shares_24 : decode cX5_shares 24 = .ok (.if_icmp .ge 105, 3) := by decide +kernel
theorem dX5_shares_27 : decode cX5_shares 27 = .ok (.aload_n 0, 1) := by decide +kernel
theorem dX5_shares_28 : decode cX5_shares 28 = .ok (.getfield 199, 3) := by decide +kernel
theorem dX5_shares_31 : decode cX5_shares 31 = .ok (.ifCond .ne 98, 3) := by decide +kernel
theorem dX5_shares_34 : decode cX5_shares 34 = .ok (.aload_n 0, 1) := by decide +kernel
theorem dX5_shares_35 : decode cX5_shares 35 = .ok (.dup, 1) := by decide +kernel
theorem dX5_shares_36 : decode cX5_shares 36 = .ok (.getfield 196, 3) := by decide +kernel
theorem dX5_shares_39 : decode cX5_shares 39 = .ok (.iconst 1, 1) := by decide +kernel
theorem dX5_shares_40 : decode cX5_shares 40 = .ok (.iadd, 1) := by decide +kernel
theorem dX5_shares_41 : decode cX5_shares 41 = .ok (.putfield 196, 3) := by decide +kernel
theorem dX5_shares_44 : decode cX5_shares 44 = .ok (.aload_n 0, 1) := by decide +kernel
theorem dX5_shares_45 : decode cX5_shares 45 = .ok (.aload_n 0, 1) := by decide +kernel
theorem dX5_shares_46 : decode cX5_shares 46 = .ok (.getfield 186, 3) := by decide +kernel
theorem dX5_shares_49 : decode cX5_shares 49 = .ok (.invokevirtual 202, 3) := by decide +kernel
theorem dX5_shares_52 : decode cX5_shares 52 = .ok (.ifCond .ne 4, 3) := by decide +kernel
theorem dX5_shares_55 : decode cX5_shares 55 = .ok (.return_, 1) := by decide +kernel
theorem dX5_shares_56 : decode cX5_shares 56 = .ok (.aload_n 0, 1) := by decide +kernel
theorem dX5_shares_57 : decode cX5_shares 57 = .ok (.invokevirtual 205, 3) := by decide +kernel
theorem dX5_shares_60 : decode cX5_shares 60 = .ok (.istore_n 1, 1) := by decide +kernel
theorem dX5_shares_61 : decode cX5_shares 61 = .ok (.iload_n 1, 1) := by decide +kernel
theorem dX5_shares_62 : decode cX5_shares 62 = .ok (.bipush (-9), 2) := by decide +kernel
theorem dX5_shares_64 : decode cX5_shares 64 = .ok (.if_icmp .ne 10, 3) := by decide +kernel
theorem dX5_shares_67 : decode cX5_shares 67 = .ok (.aload_n 0, 1) := by decide +kernel
theorem dX5_shares_68 : decode cX5_shares 68 = .ok (.invokevirtual 208, 3) := by decide +kernel
theorem dX5_shares_71 : decode cX5_shares 71 = .ok (.goto 5, 3) := by decide +kernel
theorem dX5_shares_74 : decode cX5_shares 74 = .ok (.bipush (-9), 2) := by decide +kernel
theorem dX5_shares_76 : decode cX5_shares 76 = .ok (.istore_n 2, 1) := by decide +kernel
theorem dX5_shares_77 : decode cX5_shares 77 = .ok (.iload_n 1, 1) := by decide +kernel
theorem dX5_shares_78 : decode cX5_shares 78 = .ok (.bipush (-9), 2) := by decide +kernel
theorem dX5_shares_80 : decode cX5_shares 80 = .ok (.if_icmp .eq 20, 3) := by decide +kernel
theorem dX5_shares_83 : decode cX5_shares 83 = .ok (.aload_n 0, 1) := by decide +kernel
theorem dX5_shares_84 : decode cX5_shares 84 = .ok (.dup, 1) := by decide +kernel
theorem dX5_shares_85 : decode cX5_shares 85 = .ok (.getfield 186, 3) := by decide +kernel
theorem dX5_shares_88 : decode cX5_shares 88 = .ok (.iconst 1, 1) := by decide +kernel
theorem dX5_shares_89 : decode cX5_shares 89 = .ok (.iload_n 1, 1) := by decide +kernel
theorem dX5_shares_90 : decode cX5_shares 90 = .ok (.ishl, 1) := by decide +kernel
theorem dX5_shares_91 : decode cX5_shares 91 = .ok (.iconst (-1), 1) := by decide +kernel
theorem dX5_shares_92 : decode cX5_shares 92 = .ok (.ixor, 1) := by decide +kernel
theorem dX5_shares_93 : decode cX5_shares 93 = .ok (.iand, 1) := by decide +kernel
theorem dX5_shares_94 : decode cX5_shares 94 = .ok (.putfield 186, 3) := by decide +kernel
theorem dX5_shares_97 : decode cX5_shares 97 = .ok (.goto 29, 3) := by decide +kernel
theorem dX5_shares_100 : decode cX5_shares 100 = .ok (.iload_n 2, 1) := by decide +kernel
theorem dX5_shares_101 : decode cX5_shares 101 = .ok (.bipush (-9), 2) := by decide +kernel
theorem dX5_shares_103 : decode cX5_shares 103 = .ok (.if_icmp .eq 18, 3) := by decide +kernel
theorem dX5_shares_106 : decode cX5_shares 106 = .ok (.aload_n 0, 1) := by decide +kernel
theorem dX5_shares_107 : decode cX5_shares 107 = .ok (.dup, 1) := by decide +kernel
theorem dX5_shares_108 : decode cX5_shares 108 = .ok (.getfield 186, 3) := by decide +kernel
theorem dX5_shares_111 : decode cX5_shares 111 = .ok (.iconst 1, 1) := by decide +kernel
theorem dX5_shares_112 : decode cX5_shares 112 = .ok (.iload_n 2, 1) := by decide +kernel
theorem dX5_shares_113 : decode cX5_shares 113 = .ok (.ishl, 1) := by decide +kernel
theorem dX5_shares_114 : decode cX5_shares 114 = .ok (.ior, 1) := by decide +kernel
theorem dX5_shares_115 : decode cX5_shares 115 = .ok (.putfield 186, 3) := by decide +kernel
theorem dX5_shares_118 : decode cX5_shares 118 = .ok (.goto 8, 3) := by decide +kernel
theorem dX5_shares_121 : decode cX5_shares 121 = .ok (.aload_n 0, 1) := by decide +kernel
theorem dX5_shares_122 : decode cX5_shares 122 = .ok (.iconst 1, 1) := by decide +kernel
theorem dX5_shares_123 : decode cX5_shares 123 = .ok (.putfield 199, 3) := by decide +kernel
theorem dX5_shares_126 : decode cX5_shares 126 = .ok (.goto (-108), 3) := by decide +kernel
theorem dX5_shares_129 : decode cX5_shares 129 = .ok (.return_, 1) := by decide +kernel
theorem dX5_sharesNow_0 : decode cX5_sharesNow 0 = .ok (.aload_n 0, 1) := by decide +kernel
theorem dX5_sharesNow_1 : decode cX5_sharesNow 1 = .ok (.invokevirtual 211, 3) := by decide +kernel
theorem dX5_sharesNow_4 : decode cX5_sharesNow 4 = .ok (.aload_n 0, 1) := by decide +kernel
theorem dX5_sharesNow_5 : decode cX5_sharesNow 5 = .ok (.invokevirtual 214, 3) := by decide +kernel
theorem dX5_sharesNow_8 : decode cX5_sharesNow 8 = .ok (.aload_n 0, 1) := by decide +kernel
theorem dX5_sharesNow_9 : decode cX5_sharesNow 9 = .ok (.invokevirtual 217, 3) := by decide +kernel
theorem dX5_sharesNow_12 : decode cX5_sharesNow 12 = .ok (.return_, 1) := by decide +kernel
theorem dX5_common_0 : decode cX5_common 0 = .ok (.lload_n 0, 1) := by decide +kernel
theorem dX5_common_1 : decode cX5_common 1 = .ok (.lconst 0, 1) := by decide +kernel
theorem dX5_common_2 : decode cX5_common 2 = .ok (.lcmp, 1) := by decide +kernel
theorem dX5_common_3 : decode cX5_common 3 = .ok (.ifCond .ge 8, 3) := by decide +kernel
theorem dX5_common_6 : decode cX5_common 6 = .ok (.lload_n 0, 1) := by decide +kernel
theorem dX5_common_7 : decode cX5_common 7 = .ok (.lneg, 1) := by decide +kernel
theorem dX5_common_8 : decode cX5_common 8 = .ok (.goto 4, 3) := by decide +kernel
theorem dX5_common_11 : decode cX5_common 11 = .ok (.lload_n 0, 1) := by decide +kernel
theorem dX5_common_12 : decode cX5_common 12 = .ok (.lstore 4, 2) := by decide +kernel
theorem dX5_common_14 : decode cX5_common 14 = .ok (.lload_n 2, 1) := by decide +kernel
theorem dX5_common_15 : decode cX5_common 15 = .ok (.lstore 6, 2) := by decide +kernel
theorem dX5_common_17 : decode cX5_common 17 = .ok (.lload 6, 2) := by decide +kernel
theorem dX5_common_19 : decode cX5_common 19 = .ok (.lconst 0, 1) := by decide +kernel
theorem dX5_common_20 : decode cX5_common 20 = .ok (.lcmp, 1) := by decide +kernel
theorem dX5_common_21 : decode cX5_common 21 = .ok (.ifCond .eq 21, 3) := by decide +kernel
theorem dX5_common_24 : decode cX5_common 24 = .ok (.lload 4, 2) := by decide +kernel
theorem dX5_common_26 : decode cX5_common 26 = .ok (.lload 6, 2) := by decide +kernel
theorem dX5_common_28 : decode cX5_common 28 = .ok (.lrem, 1) := by decide +kernel
theorem dX5_common_29 : decode cX5_common 29 = .ok (.lstore 8, 2) := by decide +kernel
theorem dX5_common_31 : decode cX5_common 31 = .ok (.lload 6, 2) := by decide +kernel
theorem dX5_common_33 : decode cX5_common 33 = .ok (.lstore 4, 2) := by decide +kernel
theorem dX5_common_35 : decode cX5_common 35 = .ok (.lload 8, 2) := by decide +kernel
theorem dX5_common_37 : decode cX5_common 37 = .ok (.lstore 6, 2) := by decide +kernel
theorem dX5_common_39 : decode cX5_common 39 = .ok (.goto (-22), 3) := by decide +kernel
theorem dX5_common_42 : decode cX5_common 42 = .ok (.lload 4, 2) := by decide +kernel
theorem dX5_common_44 : decode cX5_common 44 = .ok (.lreturn, 1) := by decide +kernel
theorem dX5_part_0 : decode cX5_part 0 = .ok (.lload_n 0, 1) := by decide +kernel
theorem dX5_part_1 : decode cX5_part 1 = .ok (.lload_n 2, 1) := by decide +kernel
theorem dX5_part_2 : decode cX5_part 2 = .ok (.invokestatic 220, 3) := by decide +kernel
theorem dX5_part_5 : decode cX5_part 5 = .ok (.lstore 5, 2) := by decide +kernel
theorem dX5_part_7 : decode cX5_part 7 = .ok (.iload 4, 2) := by decide +kernel
theorem dX5_part_9 : decode cX5_part 9 = .ok (.ifCond .ne 7, 3) := by decide +kernel
theorem dX5_part_12 : decode cX5_part 12 = .ok (.lload_n 0, 1) := by decide +kernel
theorem dX5_part_13 : decode cX5_part 13 = .ok (.goto 4, 3) := by decide +kernel
theorem dX5_part_16 : decode cX5_part 16 = .ok (.lload_n 2, 1) := by decide +kernel
theorem dX5_part_17 : decode cX5_part 17 = .ok (.lload 5, 2) := by decide +kernel
theorem dX5_part_19 : decode cX5_part 19 = .ok (.ldiv, 1) := by decide +kernel
theorem dX5_part_20 : decode cX5_part 20 = .ok (.lreturn, 1) := by decide +kernel
theorem dX5_against_0 : decode cX5_against 0 = .ok (.lload_n 0, 1) := by decide +kernel
theorem dX5_against_1 : decode cX5_against 1 = .ok (.lstore 8, 2) := by decide +kernel
theorem dX5_against_3 : decode cX5_against 3 = .ok (.lload_n 2, 1) := by decide +kernel
theorem dX5_against_4 : decode cX5_against 4 = .ok (.lstore 10, 2) := by decide +kernel
theorem dX5_against_6 : decode cX5_against 6 = .ok (.lload 4, 2) := by decide +kernel
theorem dX5_against_8 : decode cX5_against 8 = .ok (.lstore 12, 2) := by decide +kernel
theorem dX5_against_10 : decode cX5_against 10 = .ok (.lload 6, 2) := by decide +kernel
theorem dX5_against_12 : decode cX5_against 12 = .ok (.lstore 14, 2) := by decide +kernel
theorem dX5_against_14 : decode cX5_against 14 = .ok (.iconst 1, 1) := by decide +kernel
theorem dX5_against_15 : decode cX5_against 15 = .ok (.istore 16, 2) := by decide +kernel
theorem dX5_against_17 : decode cX5_against 17 = .ok (.lload 8, 2) := by decide +kernel
theorem dX5_against_19 : decode cX5_against 19 = .ok (.lload 10, 2) := by decide +kernel
theorem dX5_against_21 : decode cX5_against 21 = .ok (.ldiv, 1) := by decide +kernel
theorem dX5_against_22 : decode cX5_against 22 = .ok (.lstore 17, 2) := by decide +kernel
theorem dX5_against_24 : decode cX5_against 24 = .ok (.lload 12, 2) := by decide +kernel
theorem dX5_against_26 : decode cX5_against 26 = .ok (.lload 14, 2) := by decide +kernel
theorem dX5_against_28 : decode cX5_against 28 = .ok (.ldiv, 1) := by decide +kernel
theorem dX5_against_29 : decode cX5_against 29 = .ok (.lstore 19, 2) := by decide +kernel
theorem dX5_against_31 : decode cX5_against 31 = .ok (.lload 17, 2) := by decide +kernel
theorem dX5_against_33 : decode cX5_against 33 = .ok (.lload 19, 2) := by decide +kernel
theorem dX5_against_35 : decode cX5_against 35 = .ok (.lcmp, 1) := by decide +kernel
theorem dX5_against_36 : decode cX5_against 36 = .ok (.ifCond .eq 20, 3) := by decide +kernel
theorem dX5_against_39 : decode cX5_against 39 = .ok (.lload 17, 2) := by decide +kernel
theorem dX5_against_41 : decode cX5_against 41 = .ok (.lload 19, 2) := by decide +kernel
theorem dX5_against_43 : decode cX5_against 43 = .ok (.lcmp, 1) := by decide +kernel
theorem dX5_against_44 : decode cX5_against 44 = .ok (.ifCond .ge 9, 3) := by decide +kernel
theorem dX5_against_47 : decode cX5_against 47 = .ok (.iload 16, 2) := by decide +kernel
theorem dX5_against_49 : decode cX5_against 49 = .ok (.ineg, 1) := by decide +kernel
theorem dX5_against_50 : decode cX5_against 50 = .ok (.goto 5, 3) := by decide +kernel
theorem dX5_against_53 : decode cX5_against 53 = .ok (.iload 16, 2) := by decide +kernel
theorem dX5_against_55 : decode cX5_against 55 = .ok (.ireturn, 1) := by decide +kernel
theorem dX5_against_56 : decode cX5_against 56 = .ok (.lload 8, 2) := by decide +kernel
theorem dX5_against_58 : decode cX5_against 58 = .ok (.lload 10, 2) := by decide +kernel
theorem dX5_against_60 : decode cX5_against 60 = .ok (.lrem, 1) := by decide +kernel
theorem dX5_against_61 : decode cX5_against 61 = .ok (.lstore 8, 2) := by decide +kernel
theorem dX5_against_63 : decode cX5_against 63 = .ok (.lload 12, 2) := by decide +kernel
theorem dX5_against_65 : decode cX5_against 65 = .ok (.lload 14, 2) := by decide +kernel
theorem dX5_against_67 : decode cX5_against 67 = .ok (.lrem, 1) := by decide +kernel
theorem dX5_against_68 : decode cX5_against 68 = .ok (.lstore 12, 2) := by decide +kernel
theorem dX5_against_70 : decode cX5_against 70 = .ok (.lload 8, 2) := by decide +kernel
theorem dX5_against_72 : decode cX5_against 72 = .ok (.lconst 0, 1) := by decide +kernel
theorem dX5_against_73 : decode cX5_against 73 = .ok (.lcmp, 1) := by decide +kernel
theorem dX5_against_74 : decode cX5_against 74 = .ok (.ifCond .eq 10, 3) := by decide +kernel
theorem dX5_against_77 : decode cX5_against 77 = .ok (.lload 12, 2) := by decide +kernel
theorem dX5_against_79 : decode cX5_against 79 = .ok (.lconst 0, 1) := by decide +kernel
theorem dX5_against_80 : decode cX5_against 80 = .ok (.lcmp, 1) := by decide +kernel
theorem dX5_against_81 : decode cX5_against 81 = .ok (.ifCond .ne 31, 3) := by decide +kernel
theorem dX5_against_84 : decode cX5_against 84 = .ok (.lload 8, 2) := by decide +kernel
theorem dX5_against_86 : decode cX5_against 86 = .ok (.lload 12, 2) := by decide +kernel
theorem dX5_against_88 : decode cX5_against 88 = .ok (.lcmp, 1) := by decide +kernel
theorem dX5_against_89 : decode cX5_against 89 = .ok (.ifCond .ne 7, 3) := by decide +kernel
theorem dX5_against_92 : decode cX5_against 92 = .ok (.iconst 0, 1) := by decide +kernel
theorem dX5_against_93 : decode cX5_against 93 = .ok (.goto 18, 3) := by decide +kernel
theorem dX5_against_96 : decode cX5_against 96 = .ok (.lload 8, 2) := by decide +kernel
theorem dX5_against_98 : decode cX5_against 98 = .ok (.lconst 0, 1) := by decide +kernel
theorem dX5_against_99 : decode cX5_against 99 = .ok (.lcmp, 1) := by decide +kernel
theorem dX5_against_100 : decode cX5_against 100 = .ok (.ifCond .ne 9, 3) := by decide +kernel
theorem dX5_against_103 : decode cX5_against 103 = .ok (.iload 16, 2) := by decide +kernel
theorem dX5_against_105 : decode cX5_against 105 = .ok (.ineg, 1) := by decide +kernel
theorem dX5_against_106 : decode cX5_against 106 = .ok (.goto 5, 3) := by decide +kernel
theorem dX5_against_109 : decode cX5_against 109 = .ok (.iload 16, 2) := by decide +kernel
theorem dX5_against_111 : decode cX5_against 111 = .ok (.ireturn, 1) := by decide +kernel
theorem dX5_against_112 : decode cX5_against 112 = .ok (.lload 8, 2) := by decide +kernel
theorem dX5_against_114 : decode cX5_against 114 = .ok (.lstore 21, 2) := by decide +kernel
theorem dX5_against_116 : decode cX5_against 116 = .ok (.lload 10, 2) := by decide +kernel
theorem dX5_against_118 : decode cX5_against 118 = .ok (.lstore 8, 2) := by decide +kernel
theorem dX5_against_120 : decode cX5_against 120 = .ok (.lload 21, 2) := by decide +kernel
theorem dX5_against_122 : decode cX5_against 122 = .ok (.lstore 10, 2) := by decide +kernel
theorem dX5_against_124 : decode cX5_against 124 = .ok (.lload 12, 2) := by decide +kernel
theorem dX5_against_126 : decode cX5_against 126 = .ok (.lstore 21, 2) := by decide +kernel
theorem dX5_against_128 : decode cX5_against 128 = .ok (.lload 14, 2) := by decide +kernel
theorem dX5_against_130 : decode cX5_against 130 = .ok (.lstore 12, 2) := by decide +kernel
theorem dX5_against_132 : decode cX5_against 132 = .ok (.lload 21, 2) := by decide +kernel
theorem dX5_against_134 : decode cX5_against 134 = .ok (.lstore 14, 2) := by decide +kernel
theorem dX5_against_136 : decode cX5_against 136 = .ok (.iload 16, 2) := by decide +kernel
theorem dX5_against_138 : decode cX5_against 138 = .ok (.ineg, 1) := by decide +kernel
theorem dX5_against_139 : decode cX5_against 139 = .ok (.istore 16, 2) := by decide +kernel
theorem dX5_against_141 : decode cX5_against 141 = .ok (.goto (-124), 3) := by decide +kernel
theorem dX5_laysMost_0 : decode cX5_laysMost 0 = .ok (.aload_n 0, 1) := by decide +kernel
theorem dX5_laysMost_1 : decode cX5_laysMost 1 = .ok (.bipush (-9), 2) := by decide +kernel
theorem dX5_laysMost_3 : decode cX5_laysMost 3 = .ok (.putfield 224, 3) := by decide +kernel
theorem dX5_laysMost_6 : decode cX5_laysMost 6 = .ok (.aload_n 0, 1) := by decide +kernel
theorem dX5_laysMost_7 : decode cX5_laysMost 7 = .ok (.getfield 199, 3) := by decide +kernel
theorem dX5_laysMost_10 : decode cX5_laysMost 10 = .ok (.ifCond .ne 5, 3) := by decide +kernel
theorem dX5_laysMost_13 : decode cX5_laysMost 13 = .ok (.iconst 0, 1) := by decide +kernel
theorem dX5_laysMost_14 : decode cX5_laysMost 14 = .ok (.ireturn, 1) := by decide +kernel
theorem dX5_laysMost_15 : decode cX5_laysMost 15 = .ok (.iconst 0, 1) := by decide +kernel
theorem dX5_laysMost_16 : decode cX5_laysMost 16 = .ok (.istore_n 1, 1) := by decide +kernel
theorem dX5_laysMost_17 : decode cX5_laysMost 17 = .ok (.iload_n 1, 1) := by decide +kernel
theorem dX5_laysMost_18 : decode cX5_laysMost 18 = .ok (.aload_n 0, 1) := by decide +kernel
theorem dX5_laysMost_19 : decode cX5_laysMost 19 = .ok (.getfield 150, 3) := by decide +kernel
theorem dX5_laysMost_22 : decode cX5_laysMost 22 = .ok (.if_icmp .ge 71, 3) := by decide +kernel
theorem dX5_laysMost_25 : decode cX5_laysMost 25 = .ok (.aload_n 0, 1) := by decide +kernel
theorem dX5_laysMost_26 : decode cX5_laysMost 26 = .ok (.getfield 153, 3) := by decide +kernel
theorem dX5_laysMost_29 : decode cX5_laysMost 29 = .ok (.iload_n 1, 1) := by decide +kernel
theorem dX5_laysMost_30 : decode cX5_laysMost 30 = .ok (.ishr, 1) := by decide +kernel
theorem dX5_laysMost_31 : decode cX5_laysMost 31 = .ok (.iconst 1, 1) := by decide +kernel
theorem dX5_laysMost_32 : decode cX5_laysMost 32 = .ok (.iand, 1) := by decide +kernel
theorem dX5_laysMost_33 : decode cX5_laysMost 33 = .ok (.iconst 1, 1) := by decide +kernel
theorem dX5_laysMost_34 : decode cX5_laysMost 34 = .ok (.if_icmp .ne 53, 3) := by decide +kernel
theorem dX5_laysMost_37 : decode cX5_laysMost 37 = .ok (.aload_n 0, 1) := by decide +kernel
theorem dX5_laysMost_38 : decode cX5_laysMost 38 = .ok (.getfield 224, 3) := by decide +kernel
theorem dX5_laysMost_41 : decode cX5_laysMost 41 = .ok (.bipush (-9), 2) := by decide +kernel
theorem dX5_laysMost_43 : decode cX5_laysMost 43 = .ok (.if_icmp .eq 39, 3) := by decide +kernel
theorem dX5_laysMost_46 : decode cX5_laysMost 46 = .ok (.aload_n 0, 1) := by decide +kernel
theorem dX5_laysMost_47 : decode cX5_laysMost 47 = .ok (.iload_n 1, 1) := by decide +kernel
theorem dX5_laysMost_48 : decode cX5_laysMost 48 = .ok (.invokevirtual 193, 3) := by decide +kernel
theorem dX5_laysMost_51 : decode cX5_laysMost 51 = .ok (.aload_n 0, 1) := by decide +kernel
theorem dX5_laysMost_52 : decode cX5_laysMost 52 = .ok (.getfield 45, 3) := by decide +kernel
theorem dX5_laysMost_55 : decode cX5_laysMost 55 = .ok (.aload_n 0, 1) := by decide +kernel
theorem dX5_laysMost_56 : decode cX5_laysMost 56 = .ok (.getfield 224, 3) := by decide +kernel
theorem dX5_laysMost_59 : decode cX5_laysMost 59 = .ok (.iaload, 1) := by decide +kernel
theorem dX5_laysMost_60 : decode cX5_laysMost 60 = .ok (.i2l, 1) := by decide +kernel
theorem dX5_laysMost_61 : decode cX5_laysMost 61 = .ok (.lmul, 1) := by decide +kernel
theorem dX5_laysMost_62 : decode cX5_laysMost 62 = .ok (.aload_n 0, 1) := by decide +kernel
theorem dX5_laysMost_63 : decode cX5_laysMost 63 = .ok (.aload_n 0, 1) := by decide +kernel
theorem dX5_laysMost_64 : decode cX5_laysMost 64 = .ok (.getfield 224, 3) := by decide +kernel
theorem dX5_laysMost_67 : decode cX5_laysMost 67 = .ok (.invokevirtual 193, 3) := by decide +kernel
theorem dX5_laysMost_70 : decode cX5_laysMost 70 = .ok (.aload_n 0, 1) := by decide +kernel
theorem dX5_laysMost_71 : decode cX5_laysMost 71 = .ok (.getfield 45, 3) := by decide +kernel
theorem dX5_laysMost_74 : decode cX5_laysMost 74 = .ok (.iload_n 1, 1) := by decide +kernel
theorem dX5_laysMost_75 : decode cX5_laysMost 75 = .ok (.iaload, 1) := by decide +kernel
theorem dX5_laysMost_76 : decode cX5_laysMost 76 = .ok (.i2l, 1) := by decide +kernel
theorem dX5_laysMost_77 : decode cX5_laysMost 77 = .ok (.lmul, 1) := by decide +kernel
theorem dX5_laysMost_78 : decode cX5_laysMost 78 = .ok (.lcmp, 1) := by decide +kernel
theorem dX5_laysMost_79 : decode cX5_laysMost 79 = .ok (.ifCond .le 8, 3) := by decide +kernel
theorem dX5_laysMost_82 : decode cX5_laysMost 82 = .ok (.aload_n 0, 1) := by decide +kernel
theorem dX5_laysMost_83 : decode cX5_laysMost 83 = .ok (.iload_n 1, 1) := by decide +kernel
theorem dX5_laysMost_84 : decode cX5_laysMost 84 = .ok (.putfield 224, 3) := by decide +kernel
theorem dX5_laysMost_87 : decode cX5_laysMost 87 = .ok (.iinc 1 1, 3) := by decide +kernel
theorem dX5_laysMost_90 : decode cX5_laysMost 90 = .ok (.goto (-73), 3) := by decide +kernel
theorem dX5_laysMost_93 : decode cX5_laysMost 93 = .ok (.aload_n 0, 1) := by decide +kernel
theorem dX5_laysMost_94 : decode cX5_laysMost 94 = .ok (.getfield 224, 3) := by decide +kernel
theorem dX5_laysMost_97 : decode cX5_laysMost 97 = .ok (.bipush (-9), 2) := by decide +kernel
theorem dX5_laysMost_99 : decode cX5_laysMost 99 = .ok (.if_icmp .ne 5, 3) := by decide +kernel
theorem dX5_laysMost_102 : decode cX5_laysMost 102 = .ok (.iconst 0, 1) := by decide +kernel
theorem dX5_laysMost_103 : decode cX5_laysMost 103 = .ok (.ireturn, 1) := by decide +kernel
theorem dX5_laysMost_104 : decode cX5_laysMost 104 = .ok (.aload_n 0, 1) := by decide +kernel
theorem dX5_laysMost_105 : decode cX5_laysMost 105 = .ok (.aload_n 0, 1) := by decide +kernel
theorem dX5_laysMost_106 : decode cX5_laysMost 106 = .ok (.aload_n 0, 1) := by decide +kernel
theorem dX5_laysMost_107 : decode cX5_laysMost 107 = .ok (.getfield 224, 3) := by decide +kernel
theorem dX5_laysMost_110 : decode cX5_laysMost 110 = .ok (.invokevirtual 193, 3) := by decide +kernel
theorem dX5_laysMost_113 : decode cX5_laysMost 113 = .ok (.putfield 227, 3) := by decide +kernel
theorem dX5_laysMost_116 : decode cX5_laysMost 116 = .ok (.aload_n 0, 1) := by decide +kernel
theorem dX5_laysMost_117 : decode cX5_laysMost 117 = .ok (.aload_n 0, 1) := by decide +kernel
theorem dX5_laysMost_118 : decode cX5_laysMost 118 = .ok (.getfield 174, 3) := by decide +kernel
theorem dX5_laysMost_121 : decode cX5_laysMost 121 = .ok (.aload_n 0, 1) := by decide +kernel
theorem dX5_laysMost_122 : decode cX5_laysMost 122 = .ok (.getfield 45, 3) := by decide +kernel
theorem dX5_laysMost_125 : decode cX5_laysMost 125 = .ok (.aload_n 0, 1) := by decide +kernel
theorem dX5_laysMost_126 : decode cX5_laysMost 126 = .ok (.getfield 224, 3) := by decide +kernel
theorem dX5_laysMost_129 : decode cX5_laysMost 129 = .ok (.iaload, 1) := by decide +kernel
theorem dX5_laysMost_130 : decode cX5_laysMost 130 = .ok (.i2l, 1) := by decide +kernel
theorem dX5_laysMost_131 : decode cX5_laysMost 131 = .ok (.lmul, 1) := by decide +kernel
theorem dX5_laysMost_132 : decode cX5_laysMost 132 = .ok (.putfield 230, 3) := by decide +kernel
theorem dX5_laysMost_135 : decode cX5_laysMost 135 = .ok (.iconst 1, 1) := by decide +kernel
theorem dX5_laysMost_136 : decode cX5_laysMost 136 = .ok (.ireturn, 1) := by decide +kernel
theorem dX5_tellsMost_0 : decode cX5_tellsMost 0 = .ok (.iload_n 1, 1) := by decide +kernel
theorem dX5_tellsMost_1 : decode cX5_tellsMost 1 = .ok (.iconst 2, 1) := by decide +kernel
theorem dX5_tellsMost_2 : decode cX5_tellsMost 2 = .ok (.if_icmp .ne 11, 3) := by decide +kernel
theorem dX5_tellsMost_5 : decode cX5_tellsMost 5 = .ok (.aload_n 0, 1) := by decide +kernel
theorem dX5_tellsMost_6 : decode cX5_tellsMost 6 = .ok (.getfield 224, 3) := by decide +kernel
theorem dX5_tellsMost_9 : decode cX5_tellsMost 9 = .ok (.i2l, 1) := by decide +kernel
theorem dX5_tellsMost_10 : decode cX5_tellsMost 10 = .ok (.goto 15, 3) := by decide +kernel
theorem dX5_tellsMost_13 : decode cX5_tellsMost 13 = .ok (.aload_n 0, 1) := by decide +kernel
theorem dX5_tellsMost_14 : decode cX5_tellsMost 14 = .ok (.getfield 227, 3) := by decide +kernel
theorem dX5_tellsMost_17 : decode cX5_tellsMost 17 = .ok (.aload_n 0, 1) := by decide +kernel
theorem dX5_tellsMost_18 : decode cX5_tellsMost 18 = .ok (.getfield 230, 3) := by decide +kernel
theorem dX5_tellsMost_21 : decode cX5_tellsMost 21 = .ok (.iload_n 1, 1) := by decide +kernel
theorem dX5_tellsMost_22 : decode cX5_tellsMost 22 = .ok (.invokestatic 233, 3) := by decide +kernel
theorem dX5_tellsMost_25 : decode cX5_tellsMost 25 = .ok (.lreturn, 1) := by decide +kernel
theorem dX5_pile_0 : decode cX5_pile 0 = .ok (.aload_n 0, 1) := by decide +kernel
theorem dX5_pile_1 : decode cX5_pile 1 = .ok (.iload_n 1, 1) := by decide +kernel
theorem dX5_pile_2 : decode cX5_pile 2 = .ok (.invokevirtual 133, 3) := by decide +kernel
theorem dX5_pile_5 : decode cX5_pile 5 = .ok (.ifCond .eq 12, 3) := by decide +kernel
theorem dX5_pile_8 : decode cX5_pile 8 = .ok (.iload_n 2, 1) := by decide +kernel
theorem dX5_pile_9 : decode cX5_pile 9 = .ok (.iconst 0, 1) := by decide +kernel
theorem dX5_pile_10 : decode cX5_pile 10 = .ok (.iconst 5, 1) := by decide +kernel
theorem dX5_pile_11 : decode cX5_pile 11 = .ok (.invokestatic 57, 3) := by decide +kernel
theorem dX5_pile_14 : decode cX5_pile 14 = .ok (.ifCond .ne 7, 3) := by decide +kernel
theorem dX5_pile_17 : decode cX5_pile 17 = .ok (.ldc2_w 237, 3) := by decide +kernel
theorem dX5_pile_20 : decode cX5_pile 20 = .ok (.lreturn, 1) := by decide +kernel
theorem dX5_pile_21 : decode cX5_pile 21 = .ok (.iload_n 2, 1) := by decide +kernel
theorem dX5_pile_22 : decode cX5_pile 22 = .ok (.iconst 4, 1) := by decide +kernel
theorem dX5_pile_23 : decode cX5_pile 23 = .ok (.if_icmp .ge 11, 3) := by decide +kernel
theorem dX5_pile_26 : decode cX5_pile 26 = .ok (.aload_n 0, 1) := by decide +kernel
theorem dX5_pile_27 : decode cX5_pile 27 = .ok (.iload_n 1, 1) := by decide +kernel
theorem dX5_pile_28 : decode cX5_pile 28 = .ok (.iload_n 2, 1) := by decide +kernel
theorem dX5_pile_29 : decode cX5_pile 29 = .ok (.invokevirtual 117, 3) := by decide +kernel
theorem dX5_pile_32 : decode cX5_pile 32 = .ok (.i2l, 1) := by decide +kernel
theorem dX5_pile_33 : decode cX5_pile 33 = .ok (.lreturn, 1) := by decide +kernel
theorem dX5_pile_34 : decode cX5_pile 34 = .ok (.iload_n 2, 1) := by decide +kernel
theorem dX5_pile_35 : decode cX5_pile 35 = .ok (.iconst 4, 1) := by decide +kernel
theorem dX5_pile_36 : decode cX5_pile 36 = .ok (.if_icmp .ne 13, 3) := by decide +kernel
theorem dX5_pile_39 : decode cX5_pile 39 = .ok (.iconst 1, 1) := by decide +kernel
theorem dX5_pile_40 : decode cX5_pile 40 = .ok (.aload_n 0, 1) := by decide +kernel
theorem dX5_pile_41 : decode cX5_pile 41 = .ok (.iload_n 1, 1) := by decide +kernel
theorem dX5_pile_42 : decode cX5_pile 42 = .ok (.iconst 4, 1) := by decide +kernel
theorem dX5_pile_43 : decode cX5_pile 43 = .ok (.invokevirtual 117, 3) := by decide +kernel
theorem dX5_pile_46 : decode cX5_pile 46 = .ok (.isub, 1) := by decide +kernel
theorem dX5_pile_47 : decode cX5_pile 47 = .ok (.i2l, 1) := by decide +kernel
theorem dX5_pile_48 : decode cX5_pile 48 = .ok (.lreturn, 1) := by decide +kernel
theorem dX5_pile_49 : decode cX5_pile 49 = .ok (.aload_n 0, 1) := by decide +kernel
theorem dX5_pile_50 : decode cX5_pile 50 = .ok (.invokevirtual 239, 3) := by decide +kernel
theorem dX5_pile_53 : decode cX5_pile 53 = .ok (.aload_n 0, 1) := by decide +kernel
theorem dX5_pile_54 : decode cX5_pile 54 = .ok (.getfield 199, 3) := by decide +kernel
theorem dX5_pile_57 : decode cX5_pile 57 = .ok (.ifCond .ne 9, 3) := by decide +kernel
theorem dX5_pile_60 : decode cX5_pile 60 = .ok (.ldc2_w 242, 3) := by decide +kernel
theorem dX5_pile_63 : decode cX5_pile 63 = .ok (.goto 12, 3) := by decide +kernel
theorem dX5_pile_66 : decode cX5_pile 66 = .ok (.aload_n 0, 1) := by decide +kernel
theorem dX5_pile_67 : decode cX5_pile 67 = .ok (.getfield 186, 3) := by decide +kernel
theorem dX5_pile_70 : decode cX5_pile 70 = .ok (.iload_n 1, 1) := by decide +kernel
theorem dX5_pile_71 : decode cX5_pile 71 = .ok (.ishr, 1) := by decide +kernel
theorem dX5_pile_72 : decode cX5_pile 72 = .ok (.iconst 1, 1) := by decide +kernel
theorem dX5_pile_73 : decode cX5_pile 73 = .ok (.iand, 1) := by decide +kernel
theorem dX5_pile_74 : decode cX5_pile 74 = .ok (.i2l, 1) := by decide +kernel
theorem dX5_pile_75 : decode cX5_pile 75 = .ok (.lreturn, 1) := by decide +kernel
theorem dX5_column_0 : decode cX5_column 0 = .ok (.aload_n 0, 1) := by decide +kernel
theorem dX5_column_1 : decode cX5_column 1 = .ok (.iload_n 1, 1) := by decide +kernel
theorem dX5_column_2 : decode cX5_column 2 = .ok (.invokevirtual 144, 3) := by decide +kernel
theorem dX5_column_5 : decode cX5_column 5 = .ok (.ifCond .eq 22, 3) := by decide +kernel
theorem dX5_column_8 : decode cX5_column 8 = .ok (.iload_n 2, 1) := by decide +kernel
theorem dX5_column_9 : decode cX5_column 9 = .ok (.iconst 0, 1) := by decide +kernel
theorem dX5_column_10 : decode cX5_column 10 = .ok (.iconst 2, 1) := by decide +kernel
theorem dX5_column_11 : decode cX5_column 11 = .ok (.invokestatic 57, 3) := by decide +kernel
theorem dX5_column_14 : decode cX5_column 14 = .ok (.ifCond .eq 13, 3) := by decide +kernel
theorem dX5_column_17 : decode cX5_column 17 = .ok (.aload_n 0, 1) := by decide +kernel
theorem dX5_column_18 : decode cX5_column 18 = .ok (.iload_n 1, 1) := by decide +kernel
theorem dX5_column_19 : decode cX5_column 19 = .ok (.iload_n 2, 1) := by decide +kernel
theorem dX5_column_20 : decode cX5_column 20 = .ok (.invokevirtual 147, 3) := by decide +kernel
theorem dX5_column_23 : decode cX5_column 23 = .ok (.i2l, 1) := by decide +kernel
theorem dX5_column_24 : decode cX5_column 24 = .ok (.goto 6, 3) := by decide +kernel
theorem dX5_column_27 : decode cX5_column 27 = .ok (.ldc2_w 237, 3) := by decide +kernel
theorem dX5_column_30 : decode cX5_column 30 = .ok (.lreturn, 1) := by decide +kernel
theorem dX5_sum_0 : decode cX5_sum 0 = .ok (.iload_n 1, 1) := by decide +kernel
theorem dX5_sum_1 : decode cX5_sum 1 = .ok (.iconst 0, 1) := by decide +kernel
theorem dX5_sum_2 : decode cX5_sum 2 = .ok (.iconst 4, 1) := by decide +kernel
theorem dX5_sum_3 : decode cX5_sum 3 = .ok (.invokestatic 57, 3) := by decide +kernel
theorem dX5_sum_6 : decode cX5_sum 6 = .ok (.ifCond .eq 11, 3) := by decide +kernel
theorem dX5_sum_9 : decode cX5_sum 9 = .ok (.aload_n 0, 1) := by decide +kernel
theorem dX5_sum_10 : decode cX5_sum 10 = .ok (.iload_n 1, 1) := by decide +kernel
theorem dX5_sum_11 : decode cX5_sum 11 = .ok (.invokevirtual 156, 3) := by decide +kernel
theorem dX5_sum_14 : decode cX5_sum 14 = .ok (.goto 6, 3) := by decide +kernel
theorem dX5_sum_17 : decode cX5_sum 17 = .ok (.ldc2_w 237, 3) := by decide +kernel
theorem dX5_sum_20 : decode cX5_sum 20 = .ok (.lreturn, 1) := by decide +kernel
theorem dX5_sharing_0 : decode cX5_sharing 0 = .ok (.iload_n 1, 1) := by decide +kernel
theorem dX5_sharing_1 : decode cX5_sharing 1 = .ok (.iconst 0, 1) := by decide +kernel
theorem dX5_sharing_2 : decode cX5_sharing 2 = .ok (.iconst 2, 1) := by decide +kernel
theorem dX5_sharing_3 : decode cX5_sharing 3 = .ok (.invokestatic 57, 3) := by decide +kernel
theorem dX5_sharing_6 : decode cX5_sharing 6 = .ok (.ifCond .ne 5, 3) := by decide +kernel
theorem dX5_sharing_9 : decode cX5_sharing 9 = .ok (.iconst (-1), 1) := by decide +kernel
theorem dX5_sharing_10 : decode cX5_sharing 10 = .ok (.ireturn, 1) := by decide +kernel
theorem dX5_sharing_11 : decode cX5_sharing 11 = .ok (.aload_n 0, 1) := by decide +kernel
theorem dX5_sharing_12 : decode cX5_sharing 12 = .ok (.invokevirtual 239, 3) := by decide +kernel
theorem dX5_sharing_15 : decode cX5_sharing 15 = .ok (.iload_n 1, 1) := by decide +kernel
theorem dX5_sharing_16 : decode cX5_sharing 16 = .ok (.ifCond .ne 10, 3) := by decide +kernel
theorem dX5_sharing_19 : decode cX5_sharing 19 = .ok (.aload_n 0, 1) := by decide +kernel
theorem dX5_sharing_20 : decode cX5_sharing 20 = .ok (.getfield 196, 3) := by decide +kernel
theorem dX5_sharing_23 : decode cX5_sharing 23 = .ok (.goto 46, 3) := by decide +kernel
theorem dX5_sharing_26 : decode cX5_sharing 26 = .ok (.iload_n 1, 1) := by decide +kernel
theorem dX5_sharing_27 : decode cX5_sharing 27 = .ok (.iconst 1, 1) := by decide +kernel
theorem dX5_sharing_28 : decode cX5_sharing 28 = .ok (.if_icmp .ne 18, 3) := by decide +kernel
theorem dX5_sharing_31 : decode cX5_sharing 31 = .ok (.aload_n 0, 1) := by decide +kernel
theorem dX5_sharing_32 : decode cX5_sharing 32 = .ok (.getfield 199, 3) := by decide +kernel
theorem dX5_sharing_35 : decode cX5_sharing 35 = .ok (.ifCond .eq 7, 3) := by decide +kernel
theorem dX5_sharing_38 : decode cX5_sharing 38 = .ok (.iconst 1, 1) := by decide +kernel
theorem dX5_sharing_39 : decode cX5_sharing 39 = .ok (.goto 30, 3) := by decide +kernel
theorem dX5_sharing_42 : decode cX5_sharing 42 = .ok (.iconst 0, 1) := by decide +kernel
theorem dX5_sharing_43 : decode cX5_sharing 43 = .ok (.goto 26, 3) := by decide +kernel
theorem dX5_sharing_46 : decode cX5_sharing 46 = .ok (.aload_n 0, 1) := by decide +kernel
theorem dX5_sharing_47 : decode cX5_sharing 47 = .ok (.getfield 199, 3) := by decide +kernel
theorem dX5_sharing_50 : decode cX5_sharing 50 = .ok (.ifCond .eq 17, 3) := by decide +kernel
theorem dX5_sharing_53 : decode cX5_sharing 53 = .ok (.aload_n 0, 1) := by decide +kernel
theorem dX5_sharing_54 : decode cX5_sharing 54 = .ok (.getfield 153, 3) := by decide +kernel
theorem dX5_sharing_57 : decode cX5_sharing 57 = .ok (.aload_n 0, 1) := by decide +kernel
theorem dX5_sharing_58 : decode cX5_sharing 58 = .ok (.getfield 186, 3) := by decide +kernel
theorem dX5_sharing_61 : decode cX5_sharing 61 = .ok (.iconst (-1), 1) := by decide +kernel
theorem dX5_sharing_62 : decode cX5_sharing 62 = .ok (.ixor, 1) := by decide +kernel
theorem dX5_sharing_63 : decode cX5_sharing 63 = .ok (.iand, 1) := by decide +kernel
theorem dX5_sharing_64 : decode cX5_sharing 64 = .ok (.goto 5, 3) := by decide +kernel
theorem dX5_sharing_67 : decode cX5_sharing 67 = .ok (.bipush (-9), 2) := by decide +kernel
theorem dX5_sharing_69 : decode cX5_sharing 69 = .ok (.ireturn, 1) := by decide +kernel
theorem dX5_share_0 : decode cX5_share 0 = .ok (.aload_n 0, 1) := by decide +kernel
theorem dX5_share_1 : decode cX5_share 1 = .ok (.iload_n 1, 1) := by decide +kernel
theorem dX5_share_2 : decode cX5_share 2 = .ok (.invokevirtual 133, 3) := by decide +kernel
theorem dX5_share_5 : decode cX5_share 5 = .ok (.ifCond .eq 12, 3) := by decide +kernel
theorem dX5_share_8 : decode cX5_share 8 = .ok (.iload_n 2, 1) := by decide +kernel
theorem dX5_share_9 : decode cX5_share 9 = .ok (.iconst 0, 1) := by decide +kernel
theorem dX5_share_10 : decode cX5_share 10 = .ok (.iconst 2, 1) := by decide +kernel
theorem dX5_share_11 : decode cX5_share 11 = .ok (.invokestatic 57, 3) := by decide +kernel
theorem dX5_share_14 : decode cX5_share 14 = .ok (.ifCond .ne 7, 3) := by decide +kernel
theorem dX5_share_17 : decode cX5_share 17 = .ok (.ldc2_w 237, 3) := by decide +kernel
theorem dX5_share_20 : decode cX5_share 20 = .ok (.lreturn, 1) := by decide +kernel
theorem dX5_share_21 : decode cX5_share 21 = .ok (.aload_n 0, 1) := by decide +kernel
theorem dX5_share_22 : decode cX5_share 22 = .ok (.invokevirtual 239, 3) := by decide +kernel
theorem dX5_share_25 : decode cX5_share 25 = .ok (.aload_n 0, 1) := by decide +kernel
theorem dX5_share_26 : decode cX5_share 26 = .ok (.getfield 199, 3) := by decide +kernel
theorem dX5_share_29 : decode cX5_share 29 = .ok (.ifCond .ne 9, 3) := by decide +kernel
theorem dX5_share_32 : decode cX5_share 32 = .ok (.ldc2_w 244, 3) := by decide +kernel
theorem dX5_share_35 : decode cX5_share 35 = .ok (.goto 34, 3) := by decide +kernel
theorem dX5_share_38 : decode cX5_share 38 = .ok (.iload_n 2, 1) := by decide +kernel
theorem dX5_share_39 : decode cX5_share 39 = .ok (.iconst 2, 1) := by decide +kernel
theorem dX5_share_40 : decode cX5_share 40 = .ok (.if_icmp .ne 16, 3) := by decide +kernel
theorem dX5_share_43 : decode cX5_share 43 = .ok (.aload_n 0, 1) := by decide +kernel
theorem dX5_share_44 : decode cX5_share 44 = .ok (.iload_n 1, 1) := by decide +kernel
theorem dX5_share_45 : decode cX5_share 45 = .ok (.invokevirtual 193, 3) := by decide +kernel
theorem dX5_share_48 : decode cX5_share 48 = .ok (.aload_n 0, 1) := by decide +kernel
theorem dX5_share_49 : decode cX5_share 49 = .ok (.getfield 174, 3) := by decide +kernel
theorem dX5_share_52 : decode cX5_share 52 = .ok (.ldiv, 1) := by decide +kernel
theorem dX5_share_53 : decode cX5_share 53 = .ok (.goto 16, 3) := by decide +kernel
theorem dX5_share_56 : decode cX5_share 56 = .ok (.aload_n 0, 1) := by decide +kernel
theorem dX5_share_57 : decode cX5_share 57 = .ok (.iload_n 1, 1) := by decide +kernel
theorem dX5_share_58 : decode cX5_share 58 = .ok (.invokevirtual 193, 3) := by decide +kernel
theorem dX5_share_61 : decode cX5_share 61 = .ok (.aload_n 0, 1) := by decide +kernel
theorem dX5_share_62 : decode cX5_share 62 = .ok (.getfield 174, 3) := by decide +kernel
theorem dX5_share_65 : decode cX5_share 65 = .ok (.iload_n 2, 1) := by decide +kernel
theorem dX5_share_66 : decode cX5_share 66 = .ok (.invokestatic 233, 3) := by decide +kernel
theorem dX5_share_69 : decode cX5_share 69 = .ok (.lreturn, 1) := by decide +kernel
theorem dX5_press_0 : decode cX5_press 0 = .ok (.iload_n 1, 1) := by decide +kernel
theorem dX5_press_1 : decode cX5_press 1 = .ok (.iload_n 2, 1) := by decide +kernel
theorem dX5_press_2 : decode cX5_press 2 = .ok (.invokestatic 121, 3) := by decide +kernel
theorem dX5_press_5 : decode cX5_press 5 = .ok (.ifCond .eq 12, 3) := by decide +kernel
theorem dX5_press_8 : decode cX5_press 8 = .ok (.iload_n 3, 1) := by decide +kernel
theorem dX5_press_9 : decode cX5_press 9 = .ok (.iconst 0, 1) := by decide +kernel
theorem dX5_press_10 : decode cX5_press 10 = .ok (.iconst 1, 1) := by decide +kernel
theorem dX5_press_11 : decode cX5_press 11 = .ok (.invokestatic 57, 3) := by decide +kernel
theorem dX5_press_14 : decode cX5_press 14 = .ok (.ifCond .ne 7, 3) := by decide +kernel
theorem dX5_press_17 : decode cX5_press 17 = .ok (.ldc2_w 237, 3) := by decide +kernel
theorem dX5_press_20 : decode cX5_press 20 = .ok (.lreturn, 1) := by decide +kernel
theorem dX5_press_21 : decode cX5_press 21 = .ok (.aload_n 0, 1) := by decide +kernel
theorem dX5_press_22 : decode cX5_press 22 = .ok (.invokevirtual 239, 3) := by decide +kernel
theorem dX5_press_25 : decode cX5_press 25 = .ok (.aload_n 0, 1) := by decide +kernel
theorem dX5_press_26 : decode cX5_press 26 = .ok (.getfield 199, 3) := by decide +kernel
theorem dX5_press_29 : decode cX5_press 29 = .ok (.ifCond .eq 20, 3) := by decide +kernel
theorem dX5_press_32 : decode cX5_press 32 = .ok (.aload_n 0, 1) := by decide +kernel
theorem dX5_press_33 : decode cX5_press 33 = .ok (.iload_n 1, 1) := by decide +kernel
theorem dX5_press_34 : decode cX5_press 34 = .ok (.iload_n 2, 1) := by decide +kernel
theorem dX5_press_35 : decode cX5_press 35 = .ok (.invokevirtual 189, 3) := by decide +kernel
theorem dX5_press_38 : decode cX5_press 38 = .ok (.aload_n 0, 1) := by decide +kernel
theorem dX5_press_39 : decode cX5_press 39 = .ok (.getfield 174, 3) := by decide +kernel
theorem dX5_press_42 : decode cX5_press 42 = .ok (.iload_n 3, 1) := by decide +kernel
theorem dX5_press_43 : decode cX5_press 43 = .ok (.invokestatic 233, 3) := by decide +kernel
theorem dX5_press_46 : decode cX5_press 46 = .ok (.goto 6, 3) := by decide +kernel
theorem dX5_press_49 : decode cX5_press 49 = .ok (.ldc2_w 244, 3) := by decide +kernel
theorem dX5_press_52 : decode cX5_press 52 = .ok (.lreturn, 1) := by decide +kernel
theorem dX5_most_0 : decode cX5_most 0 = .ok (.iload_n 1, 1) := by decide +kernel
theorem dX5_most_1 : decode cX5_most 1 = .ok (.iconst 0, 1) := by decide +kernel
theorem dX5_most_2 : decode cX5_most 2 = .ok (.iconst 2, 1) := by decide +kernel
theorem dX5_most_3 : decode cX5_most 3 = .ok (.invokestatic 57, 3) := by decide +kernel
theorem dX5_most_6 : decode cX5_most 6 = .ok (.ifCond .ne 7, 3) := by decide +kernel
theorem dX5_most_9 : decode cX5_most 9 = .ok (.ldc2_w 246, 3) := by decide +kernel
theorem dX5_most_12 : decode cX5_most 12 = .ok (.lreturn, 1) := by decide +kernel
theorem dX5_most_13 : decode cX5_most 13 = .ok (.aload_n 0, 1) := by decide +kernel
theorem dX5_most_14 : decode cX5_most 14 = .ok (.invokevirtual 239, 3) := by decide +kernel
theorem dX5_most_17 : decode cX5_most 17 = .ok (.aload_n 0, 1) := by decide +kernel
theorem dX5_most_18 : decode cX5_most 18 = .ok (.invokevirtual 248, 3) := by decide +kernel
theorem dX5_most_21 : decode cX5_most 21 = .ok (.ifCond .eq 11, 3) := by decide +kernel
theorem dX5_most_24 : decode cX5_most 24 = .ok (.aload_n 0, 1) := by decide +kernel
theorem dX5_most_25 : decode cX5_most 25 = .ok (.iload_n 1, 1) := by decide +kernel
theorem dX5_most_26 : decode cX5_most 26 = .ok (.invokevirtual 251, 3) := by decide +kernel
theorem dX5_most_29 : decode cX5_most 29 = .ok (.goto 6, 3) := by decide +kernel
theorem dX5_most_32 : decode cX5_most 32 = .ok (.ldc2_w 242, 3) := by decide +kernel
theorem dX5_most_35 : decode cX5_most 35 = .ok (.lreturn, 1) := by decide +kernel
theorem dX5_factor_0 : decode cX5_factor 0 = .ok (.iload_n 1, 1) := by decide +kernel
theorem dX5_factor_1 : decode cX5_factor 1 = .ok (.iconst 0, 1) := by decide +kernel
theorem dX5_factor_2 : decode cX5_factor 2 = .ok (.iconst 1, 1) := by decide +kernel
theorem dX5_factor_3 : decode cX5_factor 3 = .ok (.invokestatic 57, 3) := by decide +kernel
theorem dX5_factor_6 : decode cX5_factor 6 = .ok (.ifCond .ne 7, 3) := by decide +kernel
theorem dX5_factor_9 : decode cX5_factor 9 = .ok (.ldc2_w 246, 3) := by decide +kernel
theorem dX5_factor_12 : decode cX5_factor 12 = .ok (.lreturn, 1) := by decide +kernel
theorem dX5_factor_13 : decode cX5_factor 13 = .ok (.aload_n 0, 1) := by decide +kernel
theorem dX5_factor_14 : decode cX5_factor 14 = .ok (.invokevirtual 239, 3) := by decide +kernel
theorem dX5_factor_17 : decode cX5_factor 17 = .ok (.aload_n 0, 1) := by decide +kernel
theorem dX5_factor_18 : decode cX5_factor 18 = .ok (.invokevirtual 248, 3) := by decide +kernel
theorem dX5_factor_21 : decode cX5_factor 21 = .ok (.ifCond .eq 29, 3) := by decide +kernel
theorem dX5_factor_24 : decode cX5_factor 24 = .ok (.aload_n 0, 1) := by decide +kernel
theorem dX5_factor_25 : decode cX5_factor 25 = .ok (.getfield 227, 3) := by decide +kernel
theorem dX5_factor_28 : decode cX5_factor 28 = .ok (.lconst 0, 1) := by decide +kernel
theorem dX5_factor_29 : decode cX5_factor 29 = .ok (.lcmp, 1) := by decide +kernel
theorem dX5_factor_30 : decode cX5_factor 30 = .ok (.ifCond .eq 20, 3) := by decide +kernel
theorem dX5_factor_33 : decode cX5_factor 33 = .ok (.aload_n 0, 1) := by decide +kernel
theorem dX5_factor_34 : decode cX5_factor 34 = .ok (.getfield 227, 3) := by decide +kernel
theorem dX5_factor_37 : decode cX5_factor 37 = .ok (.aload_n 0, 1) := by decide +kernel
theorem dX5_factor_38 : decode cX5_factor 38 = .ok (.getfield 230, 3) := by decide +kernel
theorem dX5_factor_41 : decode cX5_factor 41 = .ok (.iconst 1, 1) := by decide +kernel
theorem dX5_factor_42 : decode cX5_factor 42 = .ok (.iload_n 1, 1) := by decide +kernel
theorem dX5_factor_43 : decode cX5_factor 43 = .ok (.isub, 1) := by decide +kernel
theorem dX5_factor_44 : decode cX5_factor 44 = .ok (.invokestatic 233, 3) := by decide +kernel
theorem dX5_factor_47 : decode cX5_factor 47 = .ok (.goto 6, 3) := by decide +kernel
theorem dX5_factor_50 : decode cX5_factor 50 = .ok (.ldc2_w 242, 3) := by decide +kernel
theorem dX5_factor_53 : decode cX5_factor 53 = .ok (.lreturn, 1) := by decide +kernel
theorem dX5_isKern_0 : decode cX5_isKern 0 = .ok (.aload_n 0, 1) := by decide +kernel
theorem dX5_isKern_1 : decode cX5_isKern 1 = .ok (.iconst 1, 1) := by decide +kernel
theorem dX5_isKern_2 : decode cX5_isKern 2 = .ok (.iload_n 1, 1) := by decide +kernel
theorem dX5_isKern_3 : decode cX5_isKern 3 = .ok (.iload_n 2, 1) := by decide +kernel
theorem dX5_isKern_4 : decode cX5_isKern 4 = .ok (.invokevirtual 254, 3) := by decide +kernel
theorem dX5_isKern_7 : decode cX5_isKern 7 = .ok (.aload_n 0, 1) := by decide +kernel
theorem dX5_isKern_8 : decode cX5_isKern 8 = .ok (.aload_n 0, 1) := by decide +kernel
theorem dX5_isKern_9 : decode cX5_isKern 9 = .ok (.getfield 153, 3) := by decide +kernel
theorem dX5_isKern_12 : decode cX5_isKern 12 = .ok (.putfield 186, 3) := by decide +kernel
theorem dX5_isKern_15 : decode cX5_isKern 15 = .ok (.aload_n 0, 1) := by decide +kernel
theorem dX5_isKern_16 : decode cX5_isKern 16 = .ok (.aload_n 0, 1) := by decide +kernel
theorem dX5_isKern_17 : decode cX5_isKern 17 = .ok (.getfield 153, 3) := by decide +kernel
theorem dX5_isKern_20 : decode cX5_isKern 20 = .ok (.invokevirtual 202, 3) := by decide +kernel
theorem dX5_isKern_23 : decode cX5_isKern 23 = .ok (.ifCond .ne 6, 3) := by decide +kernel
theorem dX5_isKern_26 : decode cX5_isKern 26 = .ok (.bipush (-9), 2) := by decide +kernel
theorem dX5_isKern_28 : decode cX5_isKern 28 = .ok (.ireturn, 1) := by decide +kernel
theorem dX5_isKern_29 : decode cX5_isKern 29 = .ok (.aload_n 0, 1) := by decide +kernel
theorem dX5_isKern_30 : decode cX5_isKern 30 = .ok (.invokevirtual 205, 3) := by decide +kernel
theorem dX5_isKern_33 : decode cX5_isKern 33 = .ok (.bipush (-9), 2) := by decide +kernel
theorem dX5_isKern_35 : decode cX5_isKern 35 = .ok (.if_icmp .ne 7, 3) := by decide +kernel
theorem dX5_isKern_38 : decode cX5_isKern 38 = .ok (.iconst 1, 1) := by decide +kernel
theorem dX5_isKern_39 : decode cX5_isKern 39 = .ok (.goto 4, 3) := by decide +kernel
theorem dX5_isKern_42 : decode cX5_isKern 42 = .ok (.iconst 0, 1) := by decide +kernel
theorem dX5_isKern_43 : decode cX5_isKern 43 = .ok (.ireturn, 1) := by decide +kernel
theorem dX5_kern_0 : decode cX5_kern 0 = .ok (.iload_n 1, 1) := by decide +kernel
theorem dX5_kern_1 : decode cX5_kern 1 = .ok (.iload_n 2, 1) := by decide +kernel
theorem dX5_kern_2 : decode cX5_kern 2 = .ok (.invokestatic 121, 3) := by decide +kernel
theorem dX5_kern_5 : decode cX5_kern 5 = .ok (.ifCond .ne 5, 3) := by decide +kernel
theorem dX5_kern_8 : decode cX5_kern 8 = .ok (.iconst (-1), 1) := by decide +kernel
theorem dX5_kern_9 : decode cX5_kern 9 = .ok (.ireturn, 1) := by decide +kernel
theorem dX5_kern_10 : decode cX5_kern 10 = .ok (.aload_n 0, 1) := by decide +kernel
theorem dX5_kern_11 : decode cX5_kern 11 = .ok (.invokevirtual 211, 3) := by decide +kernel
theorem dX5_kern_14 : decode cX5_kern 14 = .ok (.aload_n 0, 1) := by decide +kernel
theorem dX5_kern_15 : decode cX5_kern 15 = .ok (.iload_n 1, 1) := by decide +kernel
theorem dX5_kern_16 : decode cX5_kern 16 = .ok (.iload_n 2, 1) := by decide +kernel
theorem dX5_kern_17 : decode cX5_kern 17 = .ok (.invokevirtual 258, 3) := by decide +kernel
theorem dX5_kern_20 : decode cX5_kern 20 = .ok (.ireturn, 1) := by decide +kernel
theorem dX5_kerns_0 : decode cX5_kerns 0 = .ok (.iload_n 1, 1) := by decide +kernel
theorem dX5_kerns_1 : decode cX5_kerns 1 = .ok (.iconst 0, 1) := by decide +kernel
theorem dX5_kerns_2 : decode cX5_kerns 2 = .ok (.iconst 1, 1) := by decide +kernel
theorem dX5_kerns_3 : decode cX5_kerns 3 = .ok (.invokestatic 57, 3) := by decide +kernel
theorem dX5_kerns_6 : decode cX5_kerns 6 = .ok (.ifCond .ne 5, 3) := by decide +kernel
theorem dX5_kerns_9 : decode cX5_kerns 9 = .ok (.iconst (-1), 1) := by decide +kernel
theorem dX5_kerns_10 : decode cX5_kerns 10 = .ok (.ireturn, 1) := by decide +kernel
theorem dX5_kerns_11 : decode cX5_kerns 11 = .ok (.aload_n 0, 1) := by decide +kernel
theorem dX5_kerns_12 : decode cX5_kerns 12 = .ok (.invokevirtual 211, 3) := by decide +kernel
theorem dX5_kerns_15 : decode cX5_kerns 15 = .ok (.iconst 0, 1) := by decide +kernel
theorem dX5_kerns_16 : decode cX5_kerns 16 = .ok (.istore_n 2, 1) := by decide +kernel
theorem dX5_kerns_17 : decode cX5_kerns 17 = .ok (.bipush (-9), 2) := by decide +kernel
theorem dX5_kerns_19 : decode cX5_kerns 19 = .ok (.istore_n 3, 1) := by decide +kernel
theorem dX5_kerns_20 : decode cX5_kerns 20 = .ok (.iconst 0, 1) := by decide +kernel
theorem dX5_kerns_21 : decode cX5_kerns 21 = .ok (.istore 4, 2) := by decide +kernel
theorem dX5_kerns_23 : decode cX5_kerns 23 = .ok (.iload 4, 2) := by decide +kernel
theorem dX5_kerns_25 : decode cX5_kerns 25 = .ok (.sipush 361, 3) := by decide +kernel
theorem dX5_kerns_28 : decode cX5_kerns 28 = .ok (.if_icmp .ge 65, 3) := by decide +kernel
theorem dX5_kerns_31 : decode cX5_kerns 31 = .ok (.aload_n 0, 1) := by decide +kernel
theorem dX5_kerns_32 : decode cX5_kerns 32 = .ok (.iload 4, 2) := by decide +kernel
theorem dX5_kerns_34 : decode cX5_kerns 34 = .ok (.bipush 19, 2) := by decide +kernel
theorem dX5_kerns_36 : decode cX5_kerns 36 = .ok (.idiv, 1) := by decide +kernel
theorem dX5_kerns_37 : decode cX5_kerns 37 = .ok (.bipush 9, 2) := by decide +kernel
theorem dX5_kerns_39 : decode cX5_kerns 39 = .ok (.isub, 1) := by decide +kernel
theorem dX5_kerns_40 : decode cX5_kerns 40 = .ok (.iload 4, 2) := by decide +kernel
theorem dX5_kerns_42 : decode cX5_kerns 42 = .ok (.bipush 19, 2) := by decide +kernel
theorem dX5_kerns_44 : decode cX5_kerns 44 = .ok (.irem, 1) := by decide +kernel
theorem dX5_kerns_45 : decode cX5_kerns 45 = .ok (.bipush 9, 2) := by decide +kernel
theorem dX5_kerns_47 : decode cX5_kerns 47 = .ok (.isub, 1) := by decide +kernel
theorem dX5_kerns_48 : decode cX5_kerns 48 = .ok (.invokevirtual 258, 3) := by decide +kernel
theorem dX5_kerns_51 : decode cX5_kerns 51 = .ok (.istore 5, 2) := by decide +kernel
theorem dX5_kerns_53 : decode cX5_kerns 53 = .ok (.iload 5, 2) := by decide +kernel
theorem dX5_kerns_55 : decode cX5_kerns 55 = .ok (.bipush (-9), 2) := by decide +kernel
theorem dX5_kerns_57 : decode cX5_kerns 57 = .ok (.if_icmp .ne 6, 3) := by decide +kernel
theorem dX5_kerns_60 : decode cX5_kerns 60 = .ok (.bipush (-9), 2) := by decide +kernel
theorem dX5_kerns_62 : decode cX5_kerns 62 = .ok (.ireturn, 1) := by decide +kernel
theorem dX5_kerns_63 : decode cX5_kerns 63 = .ok (.iload_n 2, 1) := by decide +kernel
theorem dX5_kerns_64 : decode cX5_kerns 64 = .ok (.iload 5, 2) := by decide +kernel
theorem dX5_kerns_66 : decode cX5_kerns 66 = .ok (.iadd, 1) := by decide +kernel
theorem dX5_kerns_67 : decode cX5_kerns 67 = .ok (.istore_n 2, 1) := by decide +kernel
theorem dX5_kerns_68 : decode cX5_kerns 68 = .ok (.iload 5, 2) := by decide +kernel
theorem dX5_kerns_70 : decode cX5_kerns 70 = .ok (.iconst 1, 1) := by decide +kernel
theorem dX5_kerns_71 : decode cX5_kerns 71 = .ok (.if_icmp .ne 14, 3) := by decide +kernel
theorem dX5_kerns_74 : decode cX5_kerns 74 = .ok (.iload_n 3, 1) := by decide +kernel
theorem dX5_kerns_75 : decode cX5_kerns 75 = .ok (.bipush (-9), 2) := by decide +kernel
theorem dX5_kerns_77 : decode cX5_kerns 77 = .ok (.if_icmp .ne 8, 3) := by decide +kernel
theorem dX5_kerns_80 : decode cX5_kerns 80 = .ok (.iload 4, 2) := by decide +kernel
theorem dX5_kerns_82 : decode cX5_kerns 82 = .ok (.goto 4, 3) := by decide +kernel
theorem dX5_kerns_85 : decode cX5_kerns 85 = .ok (.iload_n 3, 1) := by decide +kernel
theorem dX5_kerns_86 : decode cX5_kerns 86 = .ok (.istore_n 3, 1) := by decide +kernel
theorem dX5_kerns_87 : decode cX5_kerns 87 = .ok (.iinc 4 1, 3) := by decide +kernel
theorem dX5_kerns_90 : decode cX5_kerns 90 = .ok (.goto (-67), 3) := by decide +kernel
theorem dX5_kerns_93 : decode cX5_kerns 93 = .ok (.iload_n 1, 1) := by decide +kernel
theorem dX5_kerns_94 : decode cX5_kerns 94 = .ok (.ifCond .ne 7, 3) := by decide +kernel
theorem dX5_kerns_97 : decode cX5_kerns 97 = .ok (.iload_n 2, 1) := by decide +kernel
theorem dX5_kerns_98 : decode cX5_kerns 98 = .ok (.goto 4, 3) := by decide +kernel
theorem dX5_kerns_101 : decode cX5_kerns 101 = .ok (.iload_n 3, 1) := by decide +kernel
theorem dX5_kerns_102 : decode cX5_kerns 102 = .ok (.ireturn, 1) := by decide +kernel
theorem dX5_laysWithout_0 : decode cX5_laysWithout 0 = .ok (.aload_n 0, 1) := by decide +kernel
theorem dX5_laysWithout_1 : decode cX5_laysWithout 1 = .ok (.invokevirtual 211, 3) := by decide +kernel
theorem dX5_laysWithout_4 : decode cX5_laysWithout 4 = .ok (.aload_n 0, 1) := by decide +kernel
theorem dX5_laysWithout_5 : decode cX5_laysWithout 5 = .ok (.invokevirtual 214, 3) := by decide +kernel
theorem dX5_laysWithout_8 : decode cX5_laysWithout 8 = .ok (.aload_n 0, 1) := by decide +kernel
theorem dX5_laysWithout_9 : decode cX5_laysWithout 9 = .ok (.dup, 1) := by decide +kernel
theorem dX5_laysWithout_10 : decode cX5_laysWithout 10 = .ok (.getfield 153, 3) := by decide +kernel
theorem dX5_laysWithout_13 : decode cX5_laysWithout 13 = .ok (.iconst 1, 1) := by decide +kernel
theorem dX5_laysWithout_14 : decode cX5_laysWithout 14 = .ok (.iload_n 1, 1) := by decide +kernel
theorem dX5_laysWithout_15 : decode cX5_laysWithout 15 = .ok (.ishl, 1) := by decide +kernel
theorem dX5_laysWithout_16 : decode cX5_laysWithout 16 = .ok (.iconst (-1), 1) := by decide +kernel
theorem dX5_laysWithout_17 : decode cX5_laysWithout 17 = .ok (.ixor, 1) := by decide +kernel
theorem dX5_laysWithout_18 : decode cX5_laysWithout 18 = .ok (.iand, 1) := by decide +kernel
theorem dX5_laysWithout_19 : decode cX5_laysWithout 19 = .ok (.putfield 153, 3) := by decide +kernel
theorem dX5_laysWithout_22 : decode cX5_laysWithout 22 = .ok (.aload_n 0, 1) := by decide +kernel
theorem dX5_laysWithout_23 : decode cX5_laysWithout 23 = .ok (.invokevirtual 217, 3) := by decide +kernel
theorem dX5_laysWithout_26 : decode cX5_laysWithout 26 = .ok (.aload_n 0, 1) := by decide +kernel
theorem dX5_laysWithout_27 : decode cX5_laysWithout 27 = .ok (.invokevirtual 248, 3) := by decide +kernel
theorem dX5_laysWithout_30 : decode cX5_laysWithout 30 = .ok (.ireturn, 1) := by decide +kernel
theorem dX5_without_0 : decode cX5_without 0 = .ok (.aload_n 0, 1) := by decide +kernel
theorem dX5_without_1 : decode cX5_without 1 = .ok (.iload_n 1, 1) := by decide +kernel
theorem dX5_without_2 : decode cX5_without 2 = .ok (.invokevirtual 133, 3) := by decide +kernel
theorem dX5_without_5 : decode cX5_without 5 = .ok (.ifCond .eq 12, 3) := by decide +kernel
theorem dX5_without_8 : decode cX5_without 8 = .ok (.iload_n 2, 1) := by decide +kernel
theorem dX5_without_9 : decode cX5_without 9 = .ok (.iconst 0, 1) := by decide +kernel
theorem dX5_without_10 : decode cX5_without 10 = .ok (.iconst 2, 1) := by decide +kernel
theorem dX5_without_11 : decode cX5_without 11 = .ok (.invokestatic 57, 3) := by decide +kernel
theorem dX5_without_14 : decode cX5_without 14 = .ok (.ifCond .ne 7, 3) := by decide +kernel
theorem dX5_without_17 : decode cX5_without 17 = .ok (.ldc2_w 246, 3) := by decide +kernel
theorem dX5_without_20 : decode cX5_without 20 = .ok (.lreturn, 1) := by decide +kernel
theorem dX5_without_21 : decode cX5_without 21 = .ok (.aload_n 0, 1) := by decide +kernel
theorem dX5_without_22 : decode cX5_without 22 = .ok (.iload_n 1, 1) := by decide +kernel
theorem dX5_without_23 : decode cX5_without 23 = .ok (.iconst 4, 1) := by decide +kernel
theorem dX5_without_24 : decode cX5_without 24 = .ok (.invokevirtual 117, 3) := by decide +kernel
theorem dX5_without_27 : decode cX5_without 27 = .ok (.iconst 1, 1) := by decide +kernel
theorem dX5_without_28 : decode cX5_without 28 = .ok (.if_icmp .ne 7, 3) := by decide +kernel
theorem dX5_without_31 : decode cX5_without 31 = .ok (.ldc2_w 261, 3) := by decide +kernel
theorem dX5_without_34 : decode cX5_without 34 = .ok (.lreturn, 1) := by decide +kernel
theorem dX5_without_35 : decode cX5_without 35 = .ok (.aload_n 0, 1) := by decide +kernel
theorem dX5_without_36 : decode cX5_without 36 = .ok (.iload_n 1, 1) := by decide +kernel
theorem dX5_without_37 : decode cX5_without 37 = .ok (.invokevirtual 263, 3) := by decide +kernel
theorem dX5_without_40 : decode cX5_without 40 = .ok (.ifCond .eq 11, 3) := by decide +kernel
theorem dX5_without_43 : decode cX5_without 43 = .ok (.aload_n 0, 1) := by decide +kernel
theorem dX5_without_44 : decode cX5_without 44 = .ok (.iload_n 2, 1) := by decide +kernel
theorem dX5_without_45 : decode cX5_without 45 = .ok (.invokevirtual 251, 3) := by decide +kernel
theorem dX5_without_48 : decode cX5_without 48 = .ok (.goto 6, 3) := by decide +kernel
theorem dX5_without_51 : decode cX5_without 51 = .ok (.ldc2_w 242, 3) := by decide +kernel
theorem dX5_without_54 : decode cX5_without 54 = .ok (.lreturn, 1) := by decide +kernel
theorem dX5_key_0 : decode cX5_key 0 = .ok (.bipush (-9), 2) := by decide +kernel
theorem dX5_key_2 : decode cX5_key 2 = .ok (.istore_n 1, 1) := by decide +kernel
theorem dX5_key_3 : decode cX5_key 3 = .ok (.lconst 0, 1) := by decide +kernel
theorem dX5_key_4 : decode cX5_key 4 = .ok (.lstore_n 2, 1) := by decide +kernel
theorem dX5_key_5 : decode cX5_key 5 = .ok (.lconst 0, 1) := by decide +kernel
theorem dX5_key_6 : decode cX5_key 6 = .ok (.lstore 4, 2) := by decide +kernel
theorem dX5_key_8 : decode cX5_key 8 = .ok (.iconst 0, 1) := by decide +kernel
theorem dX5_key_9 : decode cX5_key 9 = .ok (.istore 6, 2) := by decide +kernel
theorem dX5_key_11 : decode cX5_key 11 = .ok (.iload 6, 2) := by decide +kernel
theorem dX5_key_13 : decode cX5_key 13 = .ok (.aload_n 0, 1) := by decide +kernel
theorem dX5_key_14 : decode cX5_key 14 = .ok (.getfield 7, 3) := by decide +kernel
theorem dX5_key_17 : decode cX5_key 17 = .ok (.iconst 0, 1) := by decide +kernel
theorem dX5_key_18 : decode cX5_key 18 = .ok (.iaload, 1) := by decide +kernel
theorem dX5_key_19 : decode cX5_key 19 = .ok (.if_icmp .ge 68, 3) := by decide +kernel
theorem dX5_key_22 : decode cX5_key 22 = .ok (.aload_n 0, 1) := by decide +kernel
theorem dX5_key_23 : decode cX5_key 23 = .ok (.iload 6, 2) := by decide +kernel
theorem dX5_key_25 : decode cX5_key 25 = .ok (.iconst 4, 1) := by decide +kernel
theorem dX5_key_26 : decode cX5_key 26 = .ok (.invokevirtual 117, 3) := by decide +kernel
theorem dX5_key_29 : decode cX5_key 29 = .ok (.ifCond .ne 52, 3) := by decide +kernel
theorem dX5_key_32 : decode cX5_key 32 = .ok (.aload_n 0, 1) := by decide +kernel
theorem dX5_key_33 : decode cX5_key 33 = .ok (.iload 6, 2) := by decide +kernel
theorem dX5_key_35 : decode cX5_key 35 = .ok (.invokevirtual 263, 3) := by decide +kernel
theorem dX5_key_38 : decode cX5_key 38 = .ok (.ifCond .ne 6, 3) := by decide +kernel
theorem dX5_key_41 : decode cX5_key 41 = .ok (.iload 6, 2) := by decide +kernel
theorem dX5_key_43 : decode cX5_key 43 = .ok (.ireturn, 1) := by decide +kernel
theorem dX5_key_44 : decode cX5_key 44 = .ok (.iload_n 1, 1) := by decide +kernel
theorem dX5_key_45 : decode cX5_key 45 = .ok (.bipush (-9), 2) := by decide +kernel
theorem dX5_key_47 : decode cX5_key 47 = .ok (.if_icmp .eq 20, 3) := by decide +kernel
theorem dX5_key_50 : decode cX5_key 50 = .ok (.aload_n 0, 1) := by decide +kernel
theorem dX5_key_51 : decode cX5_key 51 = .ok (.getfield 227, 3) := by decide +kernel
theorem dX5_key_54 : decode cX5_key 54 = .ok (.aload_n 0, 1) := by decide +kernel
theorem dX5_key_55 : decode cX5_key 55 = .ok (.getfield 230, 3) := by decide +kernel
theorem dX5_key_58 : decode cX5_key 58 = .ok (.lload_n 2, 1) := by decide +kernel
theorem dX5_key_59 : decode cX5_key 59 = .ok (.lload 4, 2) := by decide +kernel
theorem dX5_key_61 : decode cX5_key 61 = .ok (.invokestatic 266, 3) := by decide +kernel
theorem dX5_key_64 : decode cX5_key 64 = .ok (.ifCond .le 17, 3) := by decide +kernel
theorem dX5_key_67 : decode cX5_key 67 = .ok (.iload 6, 2) := by decide +kernel
theorem dX5_key_69 : decode cX5_key 69 = .ok (.istore_n 1, 1) := by decide +kernel
theorem dX5_key_70 : decode cX5_key 70 = .ok (.aload_n 0, 1) := by decide +kernel
theorem dX5_key_71 : decode cX5_key 71 = .ok (.getfield 227, 3) := by decide +kernel
theorem dX5_key_74 : decode cX5_key 74 = .ok (.lstore_n 2, 1) := by decide +kernel
theorem dX5_key_75 : decode cX5_key 75 = .ok (.aload_n 0, 1) := by decide +kernel
theorem dX5_key_76 : decode cX5_key 76 = .ok (.getfield 230, 3) := by decide +kernel
theorem dX5_key_79 : decode cX5_key 79 = .ok (.lstore 4, 2) := by decide +kernel
theorem dX5_key_81 : decode cX5_key 81 = .ok (.iinc 6 1, 3) := by decide +kernel
theorem dX5_key_84 : decode cX5_key 84 = .ok (.goto (-73), 3) := by decide +kernel
theorem dX5_key_87 : decode cX5_key 87 = .ok (.iload_n 1, 1) := by decide +kernel
theorem dX5_key_88 : decode cX5_key 88 = .ok (.ireturn, 1) := by decide +kernel
theorem dX5_extra_0 : decode cX5_extra 0 = .ok (.iload_n 1, 1) := by decide +kernel
theorem dX5_extra_1 : decode cX5_extra 1 = .ok (.iload_n 2, 1) := by decide +kernel
theorem dX5_extra_2 : decode cX5_extra 2 = .ok (.invokestatic 124, 3) := by decide +kernel
theorem dX5_extra_5 : decode cX5_extra 5 = .ok (.ifCond .ne 5, 3) := by decide +kernel
theorem dX5_extra_8 : decode cX5_extra 8 = .ok (.iconst (-1), 1) := by decide +kernel
theorem dX5_extra_9 : decode cX5_extra 9 = .ok (.ireturn, 1) := by decide +kernel
theorem dX5_extra_10 : decode cX5_extra 10 = .ok (.bipush (-9), 2) := by decide +kernel
theorem dX5_extra_12 : decode cX5_extra 12 = .ok (.istore_n 3, 1) := by decide +kernel
theorem dX5_extra_13 : decode cX5_extra 13 = .ok (.lconst 0, 1) := by decide +kernel
theorem dX5_extra_14 : decode cX5_extra 14 = .ok (.lstore 4, 2) := by decide +kernel
theorem dX5_extra_16 : decode cX5_extra 16 = .ok (.lconst 0, 1) := by decide +kernel
theorem dX5_extra_17 : decode cX5_extra 17 = .ok (.lstore 6, 2) := by decide +kernel
theorem dX5_extra_19 : decode cX5_extra 19 = .ok (.iconst 0, 1) := by decide +kernel
theorem dX5_extra_20 : decode cX5_extra 20 = .ok (.istore 8, 2) := by decide +kernel
theorem dX5_extra_22 : decode cX5_extra 22 = .ok (.iload 8, 2) := by decide +kernel
theorem dX5_extra_24 : decode cX5_extra 24 = .ok (.sipush 361, 3) := by decide +kernel
theorem dX5_extra_27 : decode cX5_extra 27 = .ok (.if_icmp .ge 165, 3) := by decide +kernel
theorem dX5_extra_30 : decode cX5_extra 30 = .ok (.iload 8, 2) := by decide +kernel
theorem dX5_extra_32 : decode cX5_extra 32 = .ok (.bipush 19, 2) := by decide +kernel
theorem dX5_extra_34 : decode cX5_extra 34 = .ok (.idiv, 1) := by decide +kernel
theorem dX5_extra_35 : decode cX5_extra 35 = .ok (.bipush 9, 2) := by decide +kernel
theorem dX5_extra_37 : decode cX5_extra 37 = .ok (.isub, 1) := by decide +kernel
theorem dX5_extra_38 : decode cX5_extra 38 = .ok (.istore 9, 2) := by decide +kernel
theorem dX5_extra_40 : decode cX5_extra 40 = .ok (.iload 8, 2) := by decide +kernel
theorem dX5_extra_42 : decode cX5_extra 42 = .ok (.bipush 19, 2) := by decide +kernel
theorem dX5_extra_44 : decode cX5_extra 44 = .ok (.irem, 1) := by decide +kernel
theorem dX5_extra_45 : decode cX5_extra 45 = .ok (.bipush 9, 2) := by decide +kernel
theorem dX5_extra_47 : decode cX5_extra 47 = .ok (.isub, 1) := by decide +kernel
theorem dX5_extra_48 : decode cX5_extra 48 = .ok (.istore 10, 2) := by decide +kernel
theorem dX5_extra_50 : decode cX5_extra 50 = .ok (.aload_n 0, 1) := by decide +kernel
theorem dX5_extra_51 : decode cX5_extra 51 = .ok (.iload 9, 2) := by decide +kernel
theorem dX5_extra_53 : decode cX5_extra 53 = .ok (.iload 10, 2) := by decide +kernel
theorem dX5_extra_55 : decode cX5_extra 55 = .ok (.invokevirtual 127, 3) := by decide +kernel
theorem dX5_extra_58 : decode cX5_extra 58 = .ok (.ifCond .ne 128, 3) := by decide +kernel
theorem dX5_extra_61 : decode cX5_extra 61 = .ok (.aload_n 0, 1) := by decide +kernel
theorem dX5_extra_62 : decode cX5_extra 62 = .ok (.invokevirtual 211, 3) := by decide +kernel
theorem dX5_extra_65 : decode cX5_extra 65 = .ok (.aload_n 0, 1) := by decide +kernel
theorem dX5_extra_66 : decode cX5_extra 66 = .ok (.invokevirtual 214, 3) := by decide +kernel
theorem dX5_extra_69 : decode cX5_extra 69 = .ok (.aload_n 0, 1) := by decide +kernel
theorem dX5_extra_70 : decode cX5_extra 70 = .ok (.getfield 36, 3) := by decide +kernel
theorem dX5_extra_73 : decode cX5_extra 73 = .ok (.aload_n 0, 1) := by decide +kernel
theorem dX5_extra_74 : decode cX5_extra 74 = .ok (.getfield 150, 3) := by decide +kernel
theorem dX5_extra_77 : decode cX5_extra 77 = .ok (.iload 9, 2) := by decide +kernel
theorem dX5_extra_79 : decode cX5_extra 79 = .ok (.iastore, 1) := by decide +kernel
theorem dX5_extra_80 : decode cX5_extra 80 = .ok (.aload_n 0, 1) := by decide +kernel
theorem dX5_extra_81 : decode cX5_extra 81 = .ok (.getfield 39, 3) := by decide +kernel
theorem dX5_extra_84 : decode cX5_extra 84 = .ok (.aload_n 0, 1) := by decide +kernel
theorem dX5_extra_85 : decode cX5_extra 85 = .ok (.getfield 150, 3) := by decide +kernel
theorem dX5_extra_88 : decode cX5_extra 88 = .ok (.iload 10, 2) := by decide +kernel
theorem dX5_extra_90 : decode cX5_extra 90 = .ok (.iastore, 1) := by decide +kernel
theorem dX5_extra_91 : decode cX5_extra 91 = .ok (.aload_n 0, 1) := by decide +kernel
theorem dX5_extra_92 : decode cX5_extra 92 = .ok (.getfield 42, 3) := by decide +kernel
theorem dX5_extra_95 : decode cX5_extra 95 = .ok (.aload_n 0, 1) := by decide +kernel
theorem dX5_extra_96 : decode cX5_extra 96 = .ok (.getfield 150, 3) := by decide +kernel
theorem dX5_extra_99 : decode cX5_extra 99 = .ok (.iload_n 1, 1) := by decide +kernel
theorem dX5_extra_100 : decode cX5_extra 100 = .ok (.iastore, 1) := by decide +kernel
theorem dX5_extra_101 : decode cX5_extra 101 = .ok (.aload_n 0, 1) := by decide +kernel
theorem dX5_extra_102 : decode cX5_extra 102 = .ok (.getfield 45, 3) := by decide +kernel
theorem dX5_extra_105 : decode cX5_extra 105 = .ok (.aload_n 0, 1) := by decide +kernel
theorem dX5_extra_106 : decode cX5_extra 106 = .ok (.getfield 150, 3) := by decide +kernel
theorem dX5_extra_109 : decode cX5_extra 109 = .ok (.iload_n 2, 1) := by decide +kernel
theorem dX5_extra_110 : decode cX5_extra 110 = .ok (.iastore, 1) := by decide +kernel
theorem dX5_extra_111 : decode cX5_extra 111 = .ok (.aload_n 0, 1) := by decide +kernel
theorem dX5_extra_112 : decode cX5_extra 112 = .ok (.dup, 1) := by decide +kernel
theorem dX5_extra_113 : decode cX5_extra 113 = .ok (.getfield 153, 3) := by decide +kernel
theorem dX5_extra_116 : decode cX5_extra 116 = .ok (.iconst 1, 1) := by decide +kernel
theorem dX5_extra_117 : decode cX5_extra 117 = .ok (.aload_n 0, 1) := by decide +kernel
theorem dX5_extra_118 : decode cX5_extra 118 = .ok (.getfield 150, 3) := by decide +kernel
theorem dX5_extra_121 : decode cX5_extra 121 = .ok (.ishl, 1) := by decide +kernel
theorem dX5_extra_122 : decode cX5_extra 122 = .ok (.ior, 1) := by decide +kernel
theorem dX5_extra_123 : decode cX5_extra 123 = .ok (.putfield 153, 3) := by decide +kernel
theorem dX5_extra_126 : decode cX5_extra 126 = .ok (.aload_n 0, 1) := by decide +kernel
theorem dX5_extra_127 : decode cX5_extra 127 = .ok (.dup, 1) := by decide +kernel
theorem dX5_extra_128 : decode cX5_extra 128 = .ok (.getfield 150, 3) := by decide +kernel
theorem dX5_extra_131 : decode cX5_extra 131 = .ok (.iconst 1, 1) := by decide +kernel
theorem dX5_extra_132 : decode cX5_extra 132 = .ok (.iadd, 1) := by decide +kernel
theorem dX5_extra_133 : decode cX5_extra 133 = .ok (.putfield 150, 3) := by decide +kernel
theorem dX5_extra_136 : decode cX5_extra 136 = .ok (.aload_n 0, 1) := by decide +kernel
theorem dX5_extra_137 : decode cX5_extra 137 = .ok (.invokevirtual 217, 3) := by decide +kernel
theorem dX5_extra_140 : decode cX5_extra 140 = .ok (.aload_n 0, 1) := by decide +kernel
theorem dX5_extra_141 : decode cX5_extra 141 = .ok (.invokevirtual 248, 3) := by decide +kernel
theorem dX5_extra_144 : decode cX5_extra 144 = .ok (.ifCond .eq 42, 3) := by decide +kernel
theorem dX5_extra_147 : decode cX5_extra 147 = .ok (.iload_n 3, 1) := by decide +kernel
theorem dX5_extra_148 : decode cX5_extra 148 = .ok (.bipush (-9), 2) := by decide +kernel
theorem dX5_extra_150 : decode cX5_extra 150 = .ok (.if_icmp .eq 21, 3) := by decide +kernel
theorem dX5_extra_153 : decode cX5_extra 153 = .ok (.aload_n 0, 1) := by decide +kernel
theorem dX5_extra_154 : decode cX5_extra 154 = .ok (.getfield 227, 3) := by decide +kernel
theorem dX5_extra_157 : decode cX5_extra 157 = .ok (.aload_n 0, 1) := by decide +kernel
theorem dX5_extra_158 : decode cX5_extra 158 = .ok (.getfield 230, 3) := by decide +kernel
theorem dX5_extra_161 : decode cX5_extra 161 = .ok (.lload 4, 2) := by decide +kernel
theorem dX5_extra_163 : decode cX5_extra 163 = .ok (.lload 6, 2) := by decide +kernel
theorem dX5_extra_165 : decode cX5_extra 165 = .ok (.invokestatic 266, 3) := by decide +kernel
theorem dX5_extra_168 : decode cX5_extra 168 = .ok (.ifCond .ge 18, 3) := by decide +kernel
theorem dX5_extra_171 : decode cX5_extra 171 = .ok (.iload 8, 2) := by decide +kernel
theorem dX5_extra_173 : decode cX5_extra 173 = .ok (.istore_n 3, 1) := by decide +kernel
theorem dX5_extra_174 : decode cX5_extra 174 = .ok (.aload_n 0, 1) := by decide +kernel
theorem dX5_extra_175 : decode cX5_extra 175 = .ok (.getfield 227, 3) := by decide +kernel
theorem dX5_extra_178 : decode cX5_extra 178 = .ok (.lstore 4, 2) := by decide +kernel
theorem dX5_extra_180 : decode cX5_extra 180 = .ok (.aload_n 0, 1) := by decide +kernel
theorem dX5_extra_181 : decode cX5_extra 181 = .ok (.getfield 230, 3) := by decide +kernel
theorem dX5_extra_184 : decode cX5_extra 184 = .ok (.lstore 6, 2) := by decide +kernel
theorem dX5_extra_186 : decode cX5_extra 186 = .ok (.iinc 8 1, 3) := by decide +kernel
theorem dX5_extra_189 : decode cX5_extra 189 = .ok (.goto (-167), 3) := by decide +kernel
theorem dX5_extra_192 : decode cX5_extra 192 = .ok (.iload_n 3, 1) := by decide +kernel
theorem dX5_extra_193 : decode cX5_extra 193 = .ok (.ireturn, 1) := by decide +kernel
theorem dX5_odds_0 : decode cX5_odds 0 = .ok (.iload_n 1, 1) := by decide +kernel
theorem dX5_odds_1 : decode cX5_odds 1 = .ok (.iconst 0, 1) := by decide +kernel
theorem dX5_odds_2 : decode cX5_odds 2 = .ok (.bipush 10, 2) := by decide +kernel
theorem dX5_odds_4 : decode cX5_odds 4 = .ok (.invokestatic 57, 3) := by decide +kernel
theorem dX5_odds_7 : decode cX5_odds 7 = .ok (.ifCond .eq 12, 3) := by decide +kernel
theorem dX5_odds_10 : decode cX5_odds 10 = .ok (.iload_n 2, 1) := by decide +kernel
theorem dX5_odds_11 : decode cX5_odds 11 = .ok (.iconst 0, 1) := by decide +kernel
theorem dX5_odds_12 : decode cX5_odds 12 = .ok (.iconst 1, 1) := by decide +kernel
theorem dX5_odds_13 : decode cX5_odds 13 = .ok (.invokestatic 57, 3) := by decide +kernel
theorem dX5_odds_16 : decode cX5_odds 16 = .ok (.ifCond .ne 5, 3) := by decide +kernel
theorem dX5_odds_19 : decode cX5_odds 19 = .ok (.iconst (-1), 1) := by decide +kernel
theorem dX5_odds_20 : decode cX5_odds 20 = .ok (.ireturn, 1) := by decide +kernel
theorem dX5_odds_21 : decode cX5_odds 21 = .ok (.aload_n 0, 1) := by decide +kernel
theorem dX5_odds_22 : decode cX5_odds 22 = .ok (.invokevirtual 211, 3) := by decide +kernel
theorem dX5_odds_25 : decode cX5_odds 25 = .ok (.aload_n 0, 1) := by decide +kernel
theorem dX5_odds_26 : decode cX5_odds 26 = .ok (.invokevirtual 214, 3) := by decide +kernel
theorem dX5_odds_29 : decode cX5_odds 29 = .ok (.aload_n 0, 1) := by decide +kernel
theorem dX5_odds_30 : decode cX5_odds 30 = .ok (.getfield 153, 3) := by decide +kernel
theorem dX5_odds_33 : decode cX5_odds 33 = .ok (.istore_n 3, 1) := by decide +kernel
theorem dX5_odds_34 : decode cX5_odds 34 = .ok (.lconst 0, 1) := by decide +kernel
theorem dX5_odds_35 : decode cX5_odds 35 = .ok (.lstore 4, 2) := by decide +kernel
theorem dX5_odds_37 : decode cX5_odds 37 = .ok (.lconst 1, 1) := by decide +kernel
theorem dX5_odds_38 : decode cX5_odds 38 = .ok (.lstore 6, 2) := by decide +kernel
theorem dX5_odds_40 : decode cX5_odds 40 = .ok (.iconst 0, 1) := by decide +kernel
theorem dX5_odds_41 : decode cX5_odds 41 = .ok (.istore 8, 2) := by decide +kernel
theorem dX5_odds_43 : decode cX5_odds 43 = .ok (.iload 8, 2) := by decide +kernel
theorem dX5_odds_45 : decode cX5_odds 45 = .ok (.aload_n 0, 1) := by decide +kernel
theorem dX5_odds_46 : decode cX5_odds 46 = .ok (.getfield 150, 3) := by decide +kernel
theorem dX5_odds_49 : decode cX5_odds 49 = .ok (.if_icmp .ge 31, 3) := by decide +kernel
theorem dX5_odds_52 : decode cX5_odds 52 = .ok (.lload 6, 2) := by decide +kernel
theorem dX5_odds_54 : decode cX5_odds 54 = .ok (.iload_n 3, 1) := by decide +kernel
theorem dX5_odds_55 : decode cX5_odds 55 = .ok (.iload 8, 2) := by decide +kernel
theorem dX5_odds_57 : decode cX5_odds 57 = .ok (.ishr, 1) := by decide +kernel
theorem dX5_odds_58 : decode cX5_odds 58 = .ok (.iconst 1, 1) := by decide +kernel
theorem dX5_odds_59 : decode cX5_odds 59 = .ok (.iand, 1) := by decide +kernel
theorem dX5_odds_60 : decode cX5_odds 60 = .ok (.iconst 1, 1) := by decide +kernel
theorem dX5_odds_61 : decode cX5_odds 61 = .ok (.if_icmp .ne 9, 3) := by decide +kernel
theorem dX5_odds_64 : decode cX5_odds 64 = .ok (.ldc2_w 270, 3) := by decide +kernel
theorem dX5_odds_67 : decode cX5_odds 67 = .ok (.goto 4, 3) := by decide +kernel
theorem dX5_odds_70 : decode cX5_odds 70 = .ok (.lconst 1, 1) := by decide +kernel
theorem dX5_odds_71 : decode cX5_odds 71 = .ok (.lmul, 1) := by decide +kernel
theorem dX5_odds_72 : decode cX5_odds 72 = .ok (.lstore 6, 2) := by decide +kernel
theorem dX5_odds_74 : decode cX5_odds 74 = .ok (.iinc 8 1, 3) := by decide +kernel
theorem dX5_odds_77 : decode cX5_odds 77 = .ok (.goto (-34), 3) := by decide +kernel
theorem dX5_odds_80 : decode cX5_odds 80 = .ok (.iconst 0, 1) := by decide +kernel
theorem dX5_odds_81 : decode cX5_odds 81 = .ok (.istore 8, 2) := by decide +kernel
theorem dX5_odds_83 : decode cX5_odds 83 = .ok (.iload 8, 2) := by decide +kernel
theorem dX5_odds_85 : decode cX5_odds 85 = .ok (.iconst 1, 1) := by decide +kernel
theorem dX5_odds_86 : decode cX5_odds 86 = .ok (.aload_n 0, 1) := by decide +kernel
theorem dX5_odds_87 : decode cX5_odds 87 = .ok (.getfield 150, 3) := by decide +kernel
theorem dX5_odds_90 : decode cX5_odds 90 = .ok (.ishl, 1) := by decide +kernel
theorem dX5_odds_91 : decode cX5_odds 91 = .ok (.if_icmp .ge 118, 3) := by decide +kernel
theorem dX5_odds_94 : decode cX5_odds 94 = .ok (.iload 8, 2) := by decide +kernel
theorem dX5_odds_96 : decode cX5_odds 96 = .ok (.iload_n 3, 1) := by decide +kernel
theorem dX5_odds_97 : decode cX5_odds 97 = .ok (.iconst (-1), 1) := by decide +kernel
theorem dX5_odds_98 : decode cX5_odds 98 = .ok (.ixor, 1) := by decide +kernel
theorem dX5_odds_99 : decode cX5_odds 99 = .ok (.iand, 1) := by decide +kernel
theorem dX5_odds_100 : decode cX5_odds 100 = .ok (.ifCond .ne 103, 3) := by decide +kernel
theorem dX5_odds_103 : decode cX5_odds 103 = .ok (.lconst 1, 1) := by decide +kernel
theorem dX5_odds_104 : decode cX5_odds 104 = .ok (.lstore 9, 2) := by decide +kernel
theorem dX5_odds_106 : decode cX5_odds 106 = .ok (.iconst 0, 1) := by decide +kernel
theorem dX5_odds_107 : decode cX5_odds 107 = .ok (.istore 11, 2) := by decide +kernel
theorem dX5_odds_109 : decode cX5_odds 109 = .ok (.iload 11, 2) := by decide +kernel
theorem dX5_odds_111 : decode cX5_odds 111 = .ok (.aload_n 0, 1) := by decide +kernel
theorem dX5_odds_112 : decode cX5_odds 112 = .ok (.getfield 150, 3) := by decide +kernel
theorem dX5_odds_115 : decode cX5_odds 115 = .ok (.if_icmp .ge 48, 3) := by decide +kernel
theorem dX5_odds_118 : decode cX5_odds 118 = .ok (.lload 9, 2) := by decide +kernel
theorem dX5_odds_120 : decode cX5_odds 120 = .ok (.iload_n 3, 1) := by decide +kernel
theorem dX5_odds_121 : decode cX5_odds 121 = .ok (.iload 11, 2) := by decide +kernel
theorem dX5_odds_123 : decode cX5_odds 123 = .ok (.ishr, 1) := by decide +kernel
theorem dX5_odds_124 : decode cX5_odds 124 = .ok (.iconst 1, 1) := by decide +kernel
theorem dX5_odds_125 : decode cX5_odds 125 = .ok (.iand, 1) := by decide +kernel
theorem dX5_odds_126 : decode cX5_odds 126 = .ok (.ifCond .ne 7, 3) := by decide +kernel
theorem dX5_odds_129 : decode cX5_odds 129 = .ok (.lconst 1, 1) := by decide +kernel
theorem dX5_odds_130 : decode cX5_odds 130 = .ok (.goto 24, 3) := by decide +kernel
theorem dX5_odds_133 : decode cX5_odds 133 = .ok (.iload 8, 2) := by decide +kernel
theorem dX5_odds_135 : decode cX5_odds 135 = .ok (.iload 11, 2) := by decide +kernel
theorem dX5_odds_137 : decode cX5_odds 137 = .ok (.ishr, 1) := by decide +kernel
theorem dX5_odds_138 : decode cX5_odds 138 = .ok (.iconst 1, 1) := by decide +kernel
theorem dX5_odds_139 : decode cX5_odds 139 = .ok (.iand, 1) := by decide +kernel
theorem dX5_odds_140 : decode cX5_odds 140 = .ok (.iconst 1, 1) := by decide +kernel
theorem dX5_odds_141 : decode cX5_odds 141 = .ok (.if_icmp .ne 11, 3) := by decide +kernel
theorem dX5_odds_144 : decode cX5_odds 144 = .ok (.bipush 10, 2) := by decide +kernel
theorem dX5_odds_146 : decode cX5_odds 146 = .ok (.iload_n 1, 1) := by decide +kernel
theorem dX5_odds_147 : decode cX5_odds 147 = .ok (.isub, 1) := by decide +kernel
theorem dX5_odds_148 : decode cX5_odds 148 = .ok (.i2l, 1) := by decide +kernel
theorem dX5_odds_149 : decode cX5_odds 149 = .ok (.goto 5, 3) := by decide +kernel
theorem dX5_odds_152 : decode cX5_odds 152 = .ok (.iload_n 1, 1) := by decide +kernel
theorem dX5_odds_153 : decode cX5_odds 153 = .ok (.i2l, 1) := by decide +kernel
theorem dX5_odds_154 : decode cX5_odds 154 = .ok (.lmul, 1) := by decide +kernel
theorem dX5_odds_155 : decode cX5_odds 155 = .ok (.lstore 9, 2) := by decide +kernel
theorem dX5_odds_157 : decode cX5_odds 157 = .ok (.iinc 11 1, 3) := by decide +kernel
theorem dX5_odds_160 : decode cX5_odds 160 = .ok (.goto (-51), 3) := by decide +kernel
theorem dX5_odds_163 : decode cX5_odds 163 = .ok (.aload_n 0, 1) := by decide +kernel
theorem dX5_odds_164 : decode cX5_odds 164 = .ok (.iload 8, 2) := by decide +kernel
theorem dX5_odds_166 : decode cX5_odds 166 = .ok (.putfield 153, 3) := by decide +kernel
theorem dX5_odds_169 : decode cX5_odds 169 = .ok (.aload_n 0, 1) := by decide +kernel
theorem dX5_odds_170 : decode cX5_odds 170 = .ok (.invokevirtual 217, 3) := by decide +kernel
theorem dX5_odds_173 : decode cX5_odds 173 = .ok (.lload 4, 2) := by decide +kernel
theorem dX5_odds_175 : decode cX5_odds 175 = .ok (.aload_n 0, 1) := by decide +kernel
theorem dX5_odds_176 : decode cX5_odds 176 = .ok (.invokevirtual 248, 3) := by decide +kernel
theorem dX5_odds_179 : decode cX5_odds 179 = .ok (.ifCond .eq 20, 3) := by decide +kernel
theorem dX5_odds_182 : decode cX5_odds 182 = .ok (.aload_n 0, 1) := by decide +kernel
theorem dX5_odds_183 : decode cX5_odds 183 = .ok (.getfield 227, 3) := by decide +kernel
theorem dX5_odds_186 : decode cX5_odds 186 = .ok (.aload_n 0, 1) := by decide +kernel
theorem dX5_odds_187 : decode cX5_odds 187 = .ok (.getfield 230, 3) := by decide +kernel
theorem dX5_odds_190 : decode cX5_odds 190 = .ok (.lcmp, 1) := by decide +kernel
theorem dX5_odds_191 : decode cX5_odds 191 = .ok (.ifCond .gt 8, 3) := by decide +kernel
theorem dX5_odds_194 : decode cX5_odds 194 = .ok (.lload 9, 2) := by decide +kernel
theorem dX5_odds_196 : decode cX5_odds 196 = .ok (.goto 4, 3) := by decide +kernel
theorem dX5_odds_199 : decode cX5_odds 199 = .ok (.lconst 0, 1) := by decide +kernel
theorem dX5_odds_200 : decode cX5_odds 200 = .ok (.ladd, 1) := by decide +kernel
theorem dX5_odds_201 : decode cX5_odds 201 = .ok (.lstore 4, 2) := by decide +kernel
theorem dX5_odds_203 : decode cX5_odds 203 = .ok (.iinc 8 1, 3) := by decide +kernel
theorem dX5_odds_206 : decode cX5_odds 206 = .ok (.goto (-123), 3) := by decide +kernel
theorem dX5_odds_209 : decode cX5_odds 209 = .ok (.lload 4, 2) := by decide +kernel
theorem dX5_odds_211 : decode cX5_odds 211 = .ok (.lload 6, 2) := by decide +kernel
theorem dX5_odds_213 : decode cX5_odds 213 = .ok (.iload_n 2, 1) := by decide +kernel
theorem dX5_odds_214 : decode cX5_odds 214 = .ok (.invokestatic 233, 3) := by decide +kernel
theorem dX5_odds_217 : decode cX5_odds 217 = .ok (.l2i, 1) := by decide +kernel
theorem dX5_odds_218 : decode cX5_odds 218 = .ok (.ireturn, 1) := by decide +kernel
theorem dX5_hunts_0 : decode cX5_hunts 0 = .ok (.iload_n 1, 1) := by decide +kernel
theorem dX5_hunts_1 : decode cX5_hunts 1 = .ok (.iconst 1, 1) := by decide +kernel
theorem dX5_hunts_2 : decode cX5_hunts 2 = .ok (.bipush 99, 2) := by decide +kernel
theorem dX5_hunts_4 : decode cX5_hunts 4 = .ok (.invokestatic 57, 3) := by decide +kernel
theorem dX5_hunts_7 : decode cX5_hunts 7 = .ok (.ifCond .ne 5, 3) := by decide +kernel
theorem dX5_hunts_10 : decode cX5_hunts 10 = .ok (.iconst (-1), 1) := by decide +kernel
theorem dX5_hunts_11 : decode cX5_hunts 11 = .ok (.ireturn, 1) := by decide +kernel
theorem dX5_hunts_12 : decode cX5_hunts 12 = .ok (.aload_n 0, 1) := by decide +kernel
theorem dX5_hunts_13 : decode cX5_hunts 13 = .ok (.getfield 114, 3) := by decide +kernel
theorem dX5_hunts_16 : decode cX5_hunts 16 = .ok (.istore_n 2, 1) := by decide +kernel
theorem dX5_hunts_17 : decode cX5_hunts 17 = .ok (.aload_n 0, 1) := by decide +kernel
theorem dX5_hunts_18 : decode cX5_hunts 18 = .ok (.iload_n 1, 1) := by decide +kernel
theorem dX5_hunts_19 : decode cX5_hunts 19 = .ok (.putfield 23, 3) := by decide +kernel
theorem dX5_hunts_22 : decode cX5_hunts 22 = .ok (.aload_n 0, 1) := by decide +kernel
theorem dX5_hunts_23 : decode cX5_hunts 23 = .ok (.iconst 0, 1) := by decide +kernel
theorem dX5_hunts_24 : decode cX5_hunts 24 = .ok (.putfield 114, 3) := by decide +kernel
theorem dX5_hunts_27 : decode cX5_hunts 27 = .ok (.iload_n 2, 1) := by decide +kernel
theorem dX5_hunts_28 : decode cX5_hunts 28 = .ok (.ireturn, 1) := by decide +kernel
theorem dX5_sees_0 : decode cX5_sees 0 = .ok (.aload_n 0, 1) := by decide +kernel
theorem dX5_sees_1 : decode cX5_sees 1 = .ok (.iload_n 1, 1) := by decide +kernel
theorem dX5_sees_2 : decode cX5_sees 2 = .ok (.invokevirtual 133, 3) := by decide +kernel
theorem dX5_sees_5 : decode cX5_sees 5 = .ok (.ifCond .eq 14, 3) := by decide +kernel
theorem dX5_sees_8 : decode cX5_sees 8 = .ok (.iload_n 2, 1) := by decide +kernel
theorem dX5_sees_9 : decode cX5_sees 9 = .ok (.iconst 0, 1) := by decide +kernel
theorem dX5_sees_10 : decode cX5_sees 10 = .ok (.sipush 999, 3) := by decide +kernel
theorem dX5_sees_13 : decode cX5_sees 13 = .ok (.invokestatic 57, 3) := by decide +kernel
theorem dX5_sees_16 : decode cX5_sees 16 = .ok (.ifCond .ne 5, 3) := by decide +kernel
theorem dX5_sees_19 : decode cX5_sees 19 = .ok (.iconst (-1), 1) := by decide +kernel
theorem dX5_sees_20 : decode cX5_sees 20 = .ok (.ireturn, 1) := by decide +kernel
theorem dX5_sees_21 : decode cX5_sees 21 = .ok (.aload_n 0, 1) := by decide +kernel
theorem dX5_sees_22 : decode cX5_sees 22 = .ok (.getfield 114, 3) := by decide +kernel
theorem dX5_sees_25 : decode cX5_sees 25 = .ok (.bipush 6, 2) := by decide +kernel
theorem dX5_sees_27 : decode cX5_sees 27 = .ok (.if_icmp .ne 6, 3) := by decide +kernel
theorem dX5_sees_30 : decode cX5_sees 30 = .ok (.bipush (-3), 2) := by decide +kernel
theorem dX5_sees_32 : decode cX5_sees 32 = .ok (.ireturn, 1) := by decide +kernel
theorem dX5_sees_33 : decode cX5_sees 33 = .ok (.aload_n 0, 1) := by decide +kernel
theorem dX5_sees_34 : decode cX5_sees 34 = .ok (.getfield 27, 3) := by decide +kernel
theorem dX5_sees_37 : decode cX5_sees 37 = .ok (.iconst 2, 1) := by decide +kernel
theorem dX5_sees_38 : decode cX5_sees 38 = .ok (.aload_n 0, 1) := by decide +kernel
theorem dX5_sees_39 : decode cX5_sees 39 = .ok (.getfield 114, 3) := by decide +kernel
theorem dX5_sees_42 : decode cX5_sees 42 = .ok (.imul, 1) := by decide +kernel
theorem dX5_sees_43 : decode cX5_sees 43 = .ok (.iload_n 1, 1) := by decide +kernel
theorem dX5_sees_44 : decode cX5_sees 44 = .ok (.iastore, 1) := by decide +kernel
theorem dX5_sees_45 : decode cX5_sees 45 = .ok (.aload_n 0, 1) := by decide +kernel
theorem dX5_sees_46 : decode cX5_sees 46 = .ok (.getfield 27, 3) := by decide +kernel
theorem dX5_sees_49 : decode cX5_sees 49 = .ok (.iconst 2, 1) := by decide +kernel
theorem dX5_sees_50 : decode cX5_sees 50 = .ok (.aload_n 0, 1) := by decide +kernel
theorem dX5_sees_51 : decode cX5_sees 51 = .ok (.getfield 114, 3) := by decide +kernel
theorem dX5_sees_54 : decode cX5_sees 54 = .ok (.imul, 1) := by decide +kernel
theorem dX5_sees_55 : decode cX5_sees 55 = .ok (.iconst 1, 1) := by decide +kernel
theorem dX5_sees_56 : decode cX5_sees 56 = .ok (.iadd, 1) := by decide +kernel
theorem dX5_sees_57 : decode cX5_sees 57 = .ok (.iload_n 2, 1) := by decide +kernel
theorem dX5_sees_58 : decode cX5_sees 58 = .ok (.iastore, 1) := by decide +kernel
theorem dX5_sees_59 : decode cX5_sees 59 = .ok (.aload_n 0, 1) := by decide +kernel
theorem dX5_sees_60 : decode cX5_sees 60 = .ok (.dup, 1) := by decide +kernel
theorem dX5_sees_61 : decode cX5_sees 61 = .ok (.getfield 114, 3) := by decide +kernel
theorem dX5_sees_64 : decode cX5_sees 64 = .ok (.iconst 1, 1) := by decide +kernel
theorem dX5_sees_65 : decode cX5_sees 65 = .ok (.iadd, 1) := by decide +kernel
theorem dX5_sees_66 : decode cX5_sees 66 = .ok (.putfield 114, 3) := by decide +kernel
theorem dX5_sees_69 : decode cX5_sees 69 = .ok (.aload_n 0, 1) := by decide +kernel
theorem dX5_sees_70 : decode cX5_sees 70 = .ok (.getfield 114, 3) := by decide +kernel
theorem dX5_sees_73 : decode cX5_sees 73 = .ok (.ireturn, 1) := by decide +kernel
theorem dX5_forget_0 : decode cX5_forget 0 = .ok (.aload_n 0, 1) := by decide +kernel
theorem dX5_forget_1 : decode cX5_forget 1 = .ok (.getfield 114, 3) := by decide +kernel
theorem dX5_forget_4 : decode cX5_forget 4 = .ok (.istore_n 1, 1) := by decide +kernel
theorem dX5_forget_5 : decode cX5_forget 5 = .ok (.aload_n 0, 1) := by decide +kernel
theorem dX5_forget_6 : decode cX5_forget 6 = .ok (.iconst 0, 1) := by decide +kernel
theorem dX5_forget_7 : decode cX5_forget 7 = .ok (.putfield 114, 3) := by decide +kernel
theorem dX5_forget_10 : decode cX5_forget 10 = .ok (.iload_n 1, 1) := by decide +kernel
theorem dX5_forget_11 : decode cX5_forget 11 = .ok (.ireturn, 1) := by decide +kernel
theorem dX5_isSo_0 : decode cX5_isSo 0 = .ok (.aload_n 0, 1) := by decide +kernel
theorem dX5_isSo_1 : decode cX5_isSo 1 = .ok (.getfield 199, 3) := by decide +kernel
theorem dX5_isSo_4 : decode cX5_isSo 4 = .ok (.istore_n 1, 1) := by decide +kernel
theorem dX5_isSo_5 : decode cX5_isSo 5 = .ok (.iconst 0, 1) := by decide +kernel
theorem dX5_isSo_6 : decode cX5_isSo 6 = .ok (.istore_n 2, 1) := by decide +kernel
theorem dX5_isSo_7 : decode cX5_isSo 7 = .ok (.iload_n 2, 1) := by decide +kernel
theorem dX5_isSo_8 : decode cX5_isSo 8 = .ok (.aload_n 0, 1) := by decide +kernel
theorem dX5_isSo_9 : decode cX5_isSo 9 = .ok (.getfield 114, 3) := by decide +kernel
theorem dX5_isSo_12 : decode cX5_isSo 12 = .ok (.if_icmp .ge 53, 3) := by decide +kernel
theorem dX5_isSo_15 : decode cX5_isSo 15 = .ok (.iload_n 1, 1) := by decide +kernel
theorem dX5_isSo_16 : decode cX5_isSo 16 = .ok (.ifCond .eq 49, 3) := by decide +kernel
theorem dX5_isSo_19 : decode cX5_isSo 19 = .ok (.aload_n 0, 1) := by decide +kernel
theorem dX5_isSo_20 : decode cX5_isSo 20 = .ok (.getfield 27, 3) := by decide +kernel
theorem dX5_isSo_23 : decode cX5_isSo 23 = .ok (.iconst 2, 1) := by decide +kernel
theorem dX5_isSo_24 : decode cX5_isSo 24 = .ok (.iload_n 2, 1) := by decide +kernel
theorem dX5_isSo_25 : decode cX5_isSo 25 = .ok (.imul, 1) := by decide +kernel
theorem dX5_isSo_26 : decode cX5_isSo 26 = .ok (.iaload, 1) := by decide +kernel
theorem dX5_isSo_27 : decode cX5_isSo 27 = .ok (.istore_n 3, 1) := by decide +kernel
theorem dX5_isSo_28 : decode cX5_isSo 28 = .ok (.aload_n 0, 1) := by decide +kernel
theorem dX5_isSo_29 : decode cX5_isSo 29 = .ok (.iload_n 3, 1) := by decide +kernel
theorem dX5_isSo_30 : decode cX5_isSo 30 = .ok (.invokevirtual 193, 3) := by decide +kernel
theorem dX5_isSo_33 : decode cX5_isSo 33 = .ok (.aload_n 0, 1) := by decide +kernel
theorem dX5_isSo_34 : decode cX5_isSo 34 = .ok (.getfield 174, 3) := by decide +kernel
theorem dX5_isSo_37 : decode cX5_isSo 37 = .ok (.ldiv, 1) := by decide +kernel
theorem dX5_isSo_38 : decode cX5_isSo 38 = .ok (.aload_n 0, 1) := by decide +kernel
theorem dX5_isSo_39 : decode cX5_isSo 39 = .ok (.getfield 27, 3) := by decide +kernel
theorem dX5_isSo_42 : decode cX5_isSo 42 = .ok (.iconst 2, 1) := by decide +kernel
theorem dX5_isSo_43 : decode cX5_isSo 43 = .ok (.iload_n 2, 1) := by decide +kernel
theorem dX5_isSo_44 : decode cX5_isSo 44 = .ok (.imul, 1) := by decide +kernel
theorem dX5_isSo_45 : decode cX5_isSo 45 = .ok (.iconst 1, 1) := by decide +kernel
theorem dX5_isSo_46 : decode cX5_isSo 46 = .ok (.iadd, 1) := by decide +kernel
theorem dX5_isSo_47 : decode cX5_isSo 47 = .ok (.iaload, 1) := by decide +kernel
theorem dX5_isSo_48 : decode cX5_isSo 48 = .ok (.i2l, 1) := by decide +kernel
theorem dX5_isSo_49 : decode cX5_isSo 49 = .ok (.lcmp, 1) := by decide +kernel
theorem dX5_isSo_50 : decode cX5_isSo 50 = .ok (.ifCond .ne 7, 3) := by decide +kernel
theorem dX5_isSo_53 : decode cX5_isSo 53 = .ok (.iconst 1, 1) := by decide +kernel
theorem dX5_isSo_54 : decode cX5_isSo 54 = .ok (.goto 4, 3) := by decide +kernel
theorem dX5_isSo_57 : decode cX5_isSo 57 = .ok (.iconst 0, 1) := by decide +kernel
theorem dX5_isSo_58 : decode cX5_isSo 58 = .ok (.istore_n 1, 1) := by decide +kernel
theorem dX5_isSo_59 : decode cX5_isSo 59 = .ok (.iinc 2 1, 3) := by decide +kernel
theorem dX5_isSo_62 : decode cX5_isSo 62 = .ok (.goto (-55), 3) := by decide +kernel
theorem dX5_isSo_65 : decode cX5_isSo 65 = .ok (.iload_n 1, 1) := by decide +kernel
theorem dX5_isSo_66 : decode cX5_isSo 66 = .ok (.ireturn, 1) := by decide +kernel
theorem dX5_laysSpots_0 : decode cX5_laysSpots 0 = .ok (.aload_n 0, 1) := by decide +kernel
theorem dX5_laysSpots_1 : decode cX5_laysSpots 1 = .ok (.invokevirtual 211, 3) := by decide +kernel
theorem dX5_laysSpots_4 : decode cX5_laysSpots 4 = .ok (.aload_n 0, 1) := by decide +kernel
theorem dX5_laysSpots_5 : decode cX5_laysSpots 5 = .ok (.iconst 0, 1) := by decide +kernel
theorem dX5_laysSpots_6 : decode cX5_laysSpots 6 = .ok (.putfield 272, 3) := by decide +kernel
theorem dX5_laysSpots_9 : decode cX5_laysSpots 9 = .ok (.aload_n 0, 1) := by decide +kernel
theorem dX5_laysSpots_10 : decode cX5_laysSpots 10 = .ok (.bipush (-9), 2) := by decide +kernel
theorem dX5_laysSpots_12 : decode cX5_laysSpots 12 = .ok (.putfield 275, 3) := by decide +kernel
theorem dX5_laysSpots_15 : decode cX5_laysSpots 15 = .ok (.iconst 0, 1) := by decide +kernel
theorem dX5_laysSpots_16 : decode cX5_laysSpots 16 = .ok (.istore_n 1, 1) := by decide +kernel
theorem dX5_laysSpots_17 : decode cX5_laysSpots 17 = .ok (.iload_n 1, 1) := by decide +kernel
theorem dX5_laysSpots_18 : decode cX5_laysSpots 18 = .ok (.sipush 361, 3) := by decide +kernel
theorem dX5_laysSpots_21 : decode cX5_laysSpots 21 = .ok (.if_icmp .ge 123, 3) := by decide +kernel
theorem dX5_laysSpots_24 : decode cX5_laysSpots 24 = .ok (.aload_n 0, 1) := by decide +kernel
theorem dX5_laysSpots_25 : decode cX5_laysSpots 25 = .ok (.aload_n 0, 1) := by decide +kernel
theorem dX5_laysSpots_26 : decode cX5_laysSpots 26 = .ok (.getfield 23, 3) := by decide +kernel
theorem dX5_laysSpots_29 : decode cX5_laysSpots 29 = .ok (.iload_n 1, 1) := by decide +kernel
theorem dX5_laysSpots_30 : decode cX5_laysSpots 30 = .ok (.bipush 19, 2) := by decide +kernel
theorem dX5_laysSpots_32 : decode cX5_laysSpots 32 = .ok (.idiv, 1) := by decide +kernel
theorem dX5_laysSpots_33 : decode cX5_laysSpots 33 = .ok (.bipush 9, 2) := by decide +kernel
theorem dX5_laysSpots_35 : decode cX5_laysSpots 35 = .ok (.isub, 1) := by decide +kernel
theorem dX5_laysSpots_36 : decode cX5_laysSpots 36 = .ok (.iload_n 1, 1) := by decide +kernel
theorem dX5_laysSpots_37 : decode cX5_laysSpots 37 = .ok (.bipush 19, 2) := by decide +kernel
theorem dX5_laysSpots_39 : decode cX5_laysSpots 39 = .ok (.irem, 1) := by decide +kernel
theorem dX5_laysSpots_40 : decode cX5_laysSpots 40 = .ok (.bipush 9, 2) := by decide +kernel
theorem dX5_laysSpots_42 : decode cX5_laysSpots 42 = .ok (.isub, 1) := by decide +kernel
theorem dX5_laysSpots_43 : decode cX5_laysSpots 43 = .ok (.invokevirtual 254, 3) := by decide +kernel
theorem dX5_laysSpots_46 : decode cX5_laysSpots 46 = .ok (.aload_n 0, 1) := by decide +kernel
theorem dX5_laysSpots_47 : decode cX5_laysSpots 47 = .ok (.invokevirtual 217, 3) := by decide +kernel
theorem dX5_laysSpots_50 : decode cX5_laysSpots 50 = .ok (.aload_n 0, 1) := by decide +kernel
theorem dX5_laysSpots_51 : decode cX5_laysSpots 51 = .ok (.getfield 48, 3) := by decide +kernel
theorem dX5_laysSpots_54 : decode cX5_laysSpots 54 = .ok (.iload_n 1, 1) := by decide +kernel
theorem dX5_laysSpots_55 : decode cX5_laysSpots 55 = .ok (.aload_n 0, 1) := by decide +kernel
theorem dX5_laysSpots_56 : decode cX5_laysSpots 56 = .ok (.invokevirtual 278, 3) := by decide +kernel
theorem dX5_laysSpots_59 : decode cX5_laysSpots 59 = .ok (.bastore, 1) := by decide +kernel
theorem dX5_laysSpots_60 : decode cX5_laysSpots 60 = .ok (.aload_n 0, 1) := by decide +kernel
theorem dX5_laysSpots_61 : decode cX5_laysSpots 61 = .ok (.getfield 48, 3) := by decide +kernel
theorem dX5_laysSpots_64 : decode cX5_laysSpots 64 = .ok (.iload_n 1, 1) := by decide +kernel
theorem dX5_laysSpots_65 : decode cX5_laysSpots 65 = .ok (.baload, 1) := by decide +kernel
theorem dX5_laysSpots_66 : decode cX5_laysSpots 66 = .ok (.ifCond .eq 72, 3) := by decide +kernel
theorem dX5_laysSpots_69 : decode cX5_laysSpots 69 = .ok (.aload_n 0, 1) := by decide +kernel
theorem dX5_laysSpots_70 : decode cX5_laysSpots 70 = .ok (.dup, 1) := by decide +kernel
theorem dX5_laysSpots_71 : decode cX5_laysSpots 71 = .ok (.getfield 272, 3) := by decide +kernel
theorem dX5_laysSpots_74 : decode cX5_laysSpots 74 = .ok (.iconst 1, 1) := by decide +kernel
theorem dX5_laysSpots_75 : decode cX5_laysSpots 75 = .ok (.iadd, 1) := by decide +kernel
theorem dX5_laysSpots_76 : decode cX5_laysSpots 76 = .ok (.putfield 272, 3) := by decide +kernel
theorem dX5_laysSpots_79 : decode cX5_laysSpots 79 = .ok (.aload_n 0, 1) := by decide +kernel
theorem dX5_laysSpots_80 : decode cX5_laysSpots 80 = .ok (.aload_n 0, 1) := by decide +kernel
theorem dX5_laysSpots_81 : decode cX5_laysSpots 81 = .ok (.getfield 275, 3) := by decide +kernel
theorem dX5_laysSpots_84 : decode cX5_laysSpots 84 = .ok (.bipush (-9), 2) := by decide +kernel
theorem dX5_laysSpots_86 : decode cX5_laysSpots 86 = .ok (.if_icmp .ne 7, 3) := by decide +kernel
theorem dX5_laysSpots_89 : decode cX5_laysSpots 89 = .ok (.iload_n 1, 1) := by decide +kernel
theorem dX5_laysSpots_90 : decode cX5_laysSpots 90 = .ok (.goto 7, 3) := by decide +kernel
theorem dX5_laysSpots_93 : decode cX5_laysSpots 93 = .ok (.aload_n 0, 1) := by decide +kernel
theorem dX5_laysSpots_94 : decode cX5_laysSpots 94 = .ok (.getfield 275, 3) := by decide +kernel
theorem dX5_laysSpots_97 : decode cX5_laysSpots 97 = .ok (.putfield 275, 3) := by decide +kernel
theorem dX5_laysSpots_100 : decode cX5_laysSpots 100 = .ok (.iconst 0, 1) := by decide +kernel
theorem dX5_laysSpots_101 : decode cX5_laysSpots 101 = .ok (.istore_n 2, 1) := by decide +kernel
theorem dX5_laysSpots_102 : decode cX5_laysSpots 102 = .ok (.iload_n 2, 1) := by decide +kernel
theorem dX5_laysSpots_103 : decode cX5_laysSpots 103 = .ok (.aload_n 0, 1) := by decide +kernel
theorem dX5_laysSpots_104 : decode cX5_laysSpots 104 = .ok (.getfield 150, 3) := by decide +kernel
theorem dX5_laysSpots_107 : decode cX5_laysSpots 107 = .ok (.if_icmp .ge 31, 3) := by decide +kernel
theorem dX5_laysSpots_110 : decode cX5_laysSpots 110 = .ok (.aload_n 0, 1) := by decide +kernel
theorem dX5_laysSpots_111 : decode cX5_laysSpots 111 = .ok (.getfield 51, 3) := by decide +kernel
theorem dX5_laysSpots_114 : decode cX5_laysSpots 114 = .ok (.bipush 8, 2) := by decide +kernel
theorem dX5_laysSpots_116 : decode cX5_laysSpots 116 = .ok (.iload_n 1, 1) := by decide +kernel
theorem dX5_laysSpots_117 : decode cX5_laysSpots 117 = .ok (.imul, 1) := by decide +kernel
theorem dX5_laysSpots_118 : decode cX5_laysSpots 118 = .ok (.iload_n 2, 1) := by decide +kernel
theorem dX5_laysSpots_119 : decode cX5_laysSpots 119 = .ok (.iadd, 1) := by decide +kernel
theorem dX5_laysSpots_120 : decode cX5_laysSpots 120 = .ok (.aload_n 0, 1) := by decide +kernel
theorem dX5_laysSpots_121 : decode cX5_laysSpots 121 = .ok (.iload_n 2, 1) := by decide +kernel
theorem dX5_laysSpots_122 : decode cX5_laysSpots 122 = .ok (.invokevirtual 193, 3) := by decide +kernel
theorem dX5_laysSpots_125 : decode cX5_laysSpots 125 = .ok (.aload_n 0, 1) := by decide +kernel
theorem dX5_laysSpots_126 : decode cX5_laysSpots 126 = .ok (.getfield 174, 3) := by decide +kernel
theorem dX5_laysSpots_129 : decode cX5_laysSpots 129 = .ok (.ldiv, 1) := by decide +kernel
theorem dX5_laysSpots_130 : decode cX5_laysSpots 130 = .ok (.l2i, 1) := by decide +kernel
theorem dX5_laysSpots_131 : decode cX5_laysSpots 131 = .ok (.iastore, 1) := by decide +kernel
theorem dX5_laysSpots_132 : decode cX5_laysSpots 132 = .ok (.iinc 2 1, 3) := by decide +kernel
theorem dX5_laysSpots_135 : decode cX5_laysSpots 135 = .ok (.goto (-33), 3) := by decide +kernel
theorem dX5_laysSpots_138 : decode cX5_laysSpots 138 = .ok (.iinc 1 1, 3) := by decide +kernel
theorem dX5_laysSpots_141 : decode cX5_laysSpots 141 = .ok (.goto (-124), 3) := by decide +kernel
theorem dX5_laysSpots_144 : decode cX5_laysSpots 144 = .ok (.return_, 1) := by decide +kernel
theorem dX5_spots_0 : decode cX5_spots 0 = .ok (.iload_n 1, 1) := by decide +kernel
theorem dX5_spots_1 : decode cX5_spots 1 = .ok (.iconst 0, 1) := by decide +kernel
theorem dX5_spots_2 : decode cX5_spots 2 = .ok (.iconst 1, 1) := by decide +kernel
theorem dX5_spots_3 : decode cX5_spots 3 = .ok (.invokestatic 57, 3) := by decide +kernel
theorem dX5_spots_6 : decode cX5_spots 6 = .ok (.ifCond .ne 5, 3) := by decide +kernel
theorem dX5_spots_9 : decode cX5_spots 9 = .ok (.iconst (-1), 1) := by decide +kernel
theorem dX5_spots_10 : decode cX5_spots 10 = .ok (.ireturn, 1) := by decide +kernel
theorem dX5_spots_11 : decode cX5_spots 11 = .ok (.aload_n 0, 1) := by decide +kernel
theorem dX5_spots_12 : decode cX5_spots 12 = .ok (.invokevirtual 281, 3) := by decide +kernel
theorem dX5_spots_15 : decode cX5_spots 15 = .ok (.iload_n 1, 1) := by decide +kernel
theorem dX5_spots_16 : decode cX5_spots 16 = .ok (.ifCond .ne 10, 3) := by decide +kernel
theorem dX5_spots_19 : decode cX5_spots 19 = .ok (.aload_n 0, 1) := by decide +kernel
theorem dX5_spots_20 : decode cX5_spots 20 = .ok (.getfield 272, 3) := by decide +kernel
theorem dX5_spots_23 : decode cX5_spots 23 = .ok (.goto 7, 3) := by decide +kernel
theorem dX5_spots_26 : decode cX5_spots 26 = .ok (.aload_n 0, 1) := by decide +kernel
theorem dX5_spots_27 : decode cX5_spots 27 = .ok (.getfield 275, 3) := by decide +kernel
theorem dX5_spots_30 : decode cX5_spots 30 = .ok (.ireturn, 1) := by decide +kernel
theorem dX5_mostAlike_0 : decode cX5_mostAlike 0 = .ok (.iconst 0, 1) := by decide +kernel
theorem dX5_mostAlike_1 : decode cX5_mostAlike 1 = .ok (.istore_n 2, 1) := by decide +kernel
theorem dX5_mostAlike_2 : decode cX5_mostAlike 2 = .ok (.iload_n 2, 1) := by decide +kernel
theorem dX5_mostAlike_3 : decode cX5_mostAlike 3 = .ok (.bipush 100, 2) := by decide +kernel
theorem dX5_mostAlike_5 : decode cX5_mostAlike 5 = .ok (.if_icmp .ge 16, 3) := by decide +kernel
theorem dX5_mostAlike_8 : decode cX5_mostAlike 8 = .ok (.aload_n 0, 1) := by decide +kernel
theorem dX5_mostAlike_9 : decode cX5_mostAlike 9 = .ok (.getfield 54, 3) := by decide +kernel
theorem dX5_mostAlike_12 : decode cX5_mostAlike 12 = .ok (.iload_n 2, 1) := by decide +kernel
theorem dX5_mostAlike_13 : decode cX5_mostAlike 13 = .ok (.iconst 0, 1) := by decide +kernel
theorem dX5_mostAlike_14 : decode cX5_mostAlike 14 = .ok (.iastore, 1) := by decide +kernel
theorem dX5_mostAlike_15 : decode cX5_mostAlike 15 = .ok (.iinc 2 1, 3) := by decide +kernel
theorem dX5_mostAlike_18 : decode cX5_mostAlike 18 = .ok (.goto (-16), 3) := by decide +kernel
theorem dX5_mostAlike_21 : decode cX5_mostAlike 21 = .ok (.iconst 0, 1) := by decide +kernel
theorem dX5_mostAlike_22 : decode cX5_mostAlike 22 = .ok (.istore_n 2, 1) := by decide +kernel
theorem dX5_mostAlike_23 : decode cX5_mostAlike 23 = .ok (.iconst 0, 1) := by decide +kernel
theorem dX5_mostAlike_24 : decode cX5_mostAlike 24 = .ok (.istore_n 3, 1) := by decide +kernel
theorem dX5_mostAlike_25 : decode cX5_mostAlike 25 = .ok (.iload_n 3, 1) := by decide +kernel
theorem dX5_mostAlike_26 : decode cX5_mostAlike 26 = .ok (.sipush 361, 3) := by decide +kernel
theorem dX5_mostAlike_29 : decode cX5_mostAlike 29 = .ok (.if_icmp .ge 65, 3) := by decide +kernel
theorem dX5_mostAlike_32 : decode cX5_mostAlike 32 = .ok (.aload_n 0, 1) := by decide +kernel
theorem dX5_mostAlike_33 : decode cX5_mostAlike 33 = .ok (.getfield 48, 3) := by decide +kernel
theorem dX5_mostAlike_36 : decode cX5_mostAlike 36 = .ok (.iload_n 3, 1) := by decide +kernel
theorem dX5_mostAlike_37 : decode cX5_mostAlike 37 = .ok (.baload, 1) := by decide +kernel
theorem dX5_mostAlike_38 : decode cX5_mostAlike 38 = .ok (.ifCond .eq 50, 3) := by decide +kernel
theorem dX5_mostAlike_41 : decode cX5_mostAlike 41 = .ok (.aload_n 0, 1) := by decide +kernel
theorem dX5_mostAlike_42 : decode cX5_mostAlike 42 = .ok (.getfield 51, 3) := by decide +kernel
theorem dX5_mostAlike_45 : decode cX5_mostAlike 45 = .ok (.bipush 8, 2) := by decide +kernel
theorem dX5_mostAlike_47 : decode cX5_mostAlike 47 = .ok (.iload_n 3, 1) := by decide +kernel
theorem dX5_mostAlike_48 : decode cX5_mostAlike 48 = .ok (.imul, 1) := by decide +kernel
theorem dX5_mostAlike_49 : decode cX5_mostAlike 49 = .ok (.iload_n 1, 1) := by decide +kernel
theorem dX5_mostAlike_50 : decode cX5_mostAlike 50 = .ok (.iadd, 1) := by decide +kernel
theorem dX5_mostAlike_51 : decode cX5_mostAlike 51 = .ok (.iaload, 1) := by decide +kernel
theorem dX5_mostAlike_52 : decode cX5_mostAlike 52 = .ok (.istore 4, 2) := by decide +kernel
theorem dX5_mostAlike_54 : decode cX5_mostAlike 54 = .ok (.aload_n 0, 1) := by decide +kernel
theorem dX5_mostAlike_55 : decode cX5_mostAlike 55 = .ok (.getfield 54, 3) := by decide +kernel
theorem dX5_mostAlike_58 : decode cX5_mostAlike 58 = .ok (.iload 4, 2) := by decide +kernel
theorem dX5_mostAlike_60 : decode cX5_mostAlike 60 = .ok (.dup2, 1) := by decide +kernel
theorem dX5_mostAlike_61 : decode cX5_mostAlike 61 = .ok (.iaload, 1) := by decide +kernel
theorem dX5_mostAlike_62 : decode cX5_mostAlike 62 = .ok (.iconst 1, 1) := by decide +kernel
theorem dX5_mostAlike_63 : decode cX5_mostAlike 63 = .ok (.iadd, 1) := by decide +kernel
theorem dX5_mostAlike_64 : decode cX5_mostAlike 64 = .ok (.iastore, 1) := by decide +kernel
theorem dX5_mostAlike_65 : decode cX5_mostAlike 65 = .ok (.aload_n 0, 1) := by decide +kernel
theorem dX5_mostAlike_66 : decode cX5_mostAlike 66 = .ok (.getfield 54, 3) := by decide +kernel
theorem dX5_mostAlike_69 : decode cX5_mostAlike 69 = .ok (.iload 4, 2) := by decide +kernel
theorem dX5_mostAlike_71 : decode cX5_mostAlike 71 = .ok (.iaload, 1) := by decide +kernel
theorem dX5_mostAlike_72 : decode cX5_mostAlike 72 = .ok (.iload_n 2, 1) := by decide +kernel
theorem dX5_mostAlike_73 : decode cX5_mostAlike 73 = .ok (.if_icmp .le 13, 3) := by decide +kernel
theorem dX5_mostAlike_76 : decode cX5_mostAlike 76 = .ok (.aload_n 0, 1) := by decide +kernel
theorem dX5_mostAlike_77 : decode cX5_mostAlike 77 = .ok (.getfield 54, 3) := by decide +kernel
theorem dX5_mostAlike_80 : decode cX5_mostAlike 80 = .ok (.iload 4, 2) := by decide +kernel
theorem dX5_mostAlike_82 : decode cX5_mostAlike 82 = .ok (.iaload, 1) := by decide +kernel
theorem dX5_mostAlike_83 : decode cX5_mostAlike 83 = .ok (.goto 4, 3) := by decide +kernel
theorem dX5_mostAlike_86 : decode cX5_mostAlike 86 = .ok (.iload_n 2, 1) := by decide +kernel
theorem dX5_mostAlike_87 : decode cX5_mostAlike 87 = .ok (.istore_n 2, 1) := by decide +kernel
theorem dX5_mostAlike_88 : decode cX5_mostAlike 88 = .ok (.iinc 3 1, 3) := by decide +kernel
theorem dX5_mostAlike_91 : decode cX5_mostAlike 91 = .ok (.goto (-66), 3) := by decide +kernel
theorem dX5_mostAlike_94 : decode cX5_mostAlike 94 = .ok (.iload_n 2, 1) := by decide +kernel
theorem dX5_mostAlike_95 : decode cX5_mostAlike 95 = .ok (.ireturn, 1) := by decide +kernel
theorem dX5_ask_0 : decode cX5_ask 0 = .ok (.aload_n 0, 1) := by decide +kernel
theorem dX5_ask_1 : decode cX5_ask 1 = .ok (.invokevirtual 281, 3) := by decide +kernel
theorem dX5_ask_4 : decode cX5_ask 4 = .ok (.aload_n 0, 1) := by decide +kernel
theorem dX5_ask_5 : decode cX5_ask 5 = .ok (.getfield 272, 3) := by decide +kernel
theorem dX5_ask_8 : decode cX5_ask 8 = .ok (.iconst 2, 1) := by decide +kernel
theorem dX5_ask_9 : decode cX5_ask 9 = .ok (.if_icmp .ge 6, 3) := by decide +kernel
theorem dX5_ask_12 : decode cX5_ask 12 = .ok (.bipush (-9), 2) := by decide +kernel
theorem dX5_ask_14 : decode cX5_ask 14 = .ok (.ireturn, 1) := by decide +kernel
theorem dX5_ask_15 : decode cX5_ask 15 = .ok (.bipush (-9), 2) := by decide +kernel
theorem dX5_ask_17 : decode cX5_ask 17 = .ok (.istore_n 1, 1) := by decide +kernel
theorem dX5_ask_18 : decode cX5_ask 18 = .ok (.iconst 0, 1) := by decide +kernel
theorem dX5_ask_19 : decode cX5_ask 19 = .ok (.istore_n 2, 1) := by decide +kernel
theorem dX5_ask_20 : decode cX5_ask 20 = .ok (.iconst 0, 1) := by decide +kernel
theorem dX5_ask_21 : decode cX5_ask 21 = .ok (.istore_n 3, 1) := by decide +kernel
theorem dX5_ask_22 : decode cX5_ask 22 = .ok (.iload_n 3, 1) := by decide +kernel
theorem dX5_ask_23 : decode cX5_ask 23 = .ok (.aload_n 0, 1) := by decide +kernel
theorem dX5_ask_24 : decode cX5_ask 24 = .ok (.getfield 150, 3) := by decide +kernel
theorem dX5_ask_27 : decode cX5_ask 27 = .ok (.if_icmp .ge 58, 3) := by decide +kernel
theorem dX5_ask_30 : decode cX5_ask 30 = .ok (.aload_n 0, 1) := by decide +kernel
theorem dX5_ask_31 : decode cX5_ask 31 = .ok (.getfield 153, 3) := by decide +kernel
theorem dX5_ask_34 : decode cX5_ask 34 = .ok (.iload_n 3, 1) := by decide +kernel
theorem dX5_ask_35 : decode cX5_ask 35 = .ok (.ishr, 1) := by decide +kernel
theorem dX5_ask_36 : decode cX5_ask 36 = .ok (.iconst 1, 1) := by decide +kernel
theorem dX5_ask_37 : decode cX5_ask 37 = .ok (.iand, 1) := by decide +kernel
theorem dX5_ask_38 : decode cX5_ask 38 = .ok (.iconst 1, 1) := by decide +kernel
theorem dX5_ask_39 : decode cX5_ask 39 = .ok (.if_icmp .ne 40, 3) := by decide +kernel
theorem dX5_ask_42 : decode cX5_ask 42 = .ok (.aload_n 0, 1) := by decide +kernel
theorem dX5_ask_43 : decode cX5_ask 43 = .ok (.iload_n 3, 1) := by decide +kernel
theorem dX5_ask_44 : decode cX5_ask 44 = .ok (.invokevirtual 284, 3) := by decide +kernel
theorem dX5_ask_47 : decode cX5_ask 47 = .ok (.istore 4, 2) := by decide +kernel
theorem dX5_ask_49 : decode cX5_ask 49 = .ok (.iload_n 1, 1) := by decide +kernel
theorem dX5_ask_50 : decode cX5_ask 50 = .ok (.bipush (-9), 2) := by decide +kernel
theorem dX5_ask_52 : decode cX5_ask 52 = .ok (.if_icmp .eq 9, 3) := by decide +kernel
theorem dX5_ask_55 : decode cX5_ask 55 = .ok (.iload 4, 2) := by decide +kernel
theorem dX5_ask_57 : decode cX5_ask 57 = .ok (.iload_n 2, 1) := by decide +kernel
theorem dX5_ask_58 : decode cX5_ask 58 = .ok (.if_icmp .ge 7, 3) := by decide +kernel
theorem dX5_ask_61 : decode cX5_ask 61 = .ok (.iload_n 3, 1) := by decide +kernel
theorem dX5_ask_62 : decode cX5_ask 62 = .ok (.goto 4, 3) := by decide +kernel
theorem dX5_ask_65 : decode cX5_ask 65 = .ok (.iload_n 1, 1) := by decide +kernel
theorem dX5_ask_66 : decode cX5_ask 66 = .ok (.istore_n 1, 1) := by decide +kernel
theorem dX5_ask_67 : decode cX5_ask 67 = .ok (.iload_n 1, 1) := by decide +kernel
theorem dX5_ask_68 : decode cX5_ask 68 = .ok (.iload_n 3, 1) := by decide +kernel
theorem dX5_ask_69 : decode cX5_ask 69 = .ok (.if_icmp .ne 8, 3) := by decide +kernel
theorem dX5_ask_72 : decode cX5_ask 72 = .ok (.iload 4, 2) := by decide +kernel
theorem dX5_ask_74 : decode cX5_ask 74 = .ok (.goto 4, 3) := by decide +kernel
theorem dX5_ask_77 : decode cX5_ask 77 = .ok (.iload_n 2, 1) := by decide +kernel
theorem dX5_ask_78 : decode cX5_ask 78 = .ok (.istore_n 2, 1) := by decide +kernel
theorem dX5_ask_79 : decode cX5_ask 79 = .ok (.iinc 3 1, 3) := by decide +kernel
theorem dX5_ask_82 : decode cX5_ask 82 = .ok (.goto (-60), 3) := by decide +kernel
theorem dX5_ask_85 : decode cX5_ask 85 = .ok (.iload_n 1, 1) := by decide +kernel
theorem dX5_ask_86 : decode cX5_ask 86 = .ok (.ireturn, 1) := by decide +kernel
theorem dX5_keep_0 : decode cX5_keep 0 = .ok (.iload_n 1, 1) := by decide +kernel
theorem dX5_keep_1 : decode cX5_keep 1 = .ok (.iconst 0, 1) := by decide +kernel
theorem dX5_keep_2 : decode cX5_keep 2 = .ok (.iconst 1, 1) := by decide +kernel
theorem dX5_keep_3 : decode cX5_keep 3 = .ok (.invokestatic 57, 3) := by decide +kernel
theorem dX5_keep_6 : decode cX5_keep 6 = .ok (.ifCond .ne 5, 3) := by decide +kernel
theorem dX5_keep_9 : decode cX5_keep 9 = .ok (.iconst (-1), 1) := by decide +kernel
theorem dX5_keep_10 : decode cX5_keep 10 = .ok (.ireturn, 1) := by decide +kernel
theorem dX5_keep_11 : decode cX5_keep 11 = .ok (.iconst 0, 1) := by decide +kernel
theorem dX5_keep_12 : decode cX5_keep 12 = .ok (.istore_n 2, 1) := by decide +kernel
theorem dX5_keep_13 : decode cX5_keep 13 = .ok (.iload_n 2, 1) := by decide +kernel
theorem dX5_keep_14 : decode cX5_keep 14 = .ok (.bipush 59, 2) := by decide +kernel
theorem dX5_keep_16 : decode cX5_keep 16 = .ok (.if_icmp .ge 26, 3) := by decide +kernel
theorem dX5_keep_19 : decode cX5_keep 19 = .ok (.aload_n 0, 1) := by decide +kernel
theorem dX5_keep_20 : decode cX5_keep 20 = .ok (.getfield 16, 3) := by decide +kernel
theorem dX5_keep_23 : decode cX5_keep 23 = .ok (.bipush 59, 2) := by decide +kernel
theorem dX5_keep_25 : decode cX5_keep 25 = .ok (.iload_n 1, 1) := by decide +kernel
theorem dX5_keep_26 : decode cX5_keep 26 = .ok (.imul, 1) := by decide +kernel
theorem dX5_keep_27 : decode cX5_keep 27 = .ok (.iload_n 2, 1) := by decide +kernel
theorem dX5_keep_28 : decode cX5_keep 28 = .ok (.iadd, 1) := by decide +kernel
theorem dX5_keep_29 : decode cX5_keep 29 = .ok (.aload_n 0, 1) := by decide +kernel
theorem dX5_keep_30 : decode cX5_keep 30 = .ok (.getfield 7, 3) := by decide +kernel
theorem dX5_keep_33 : decode cX5_keep 33 = .ok (.iload_n 2, 1) := by decide +kernel
theorem dX5_keep_34 : decode cX5_keep 34 = .ok (.iaload, 1) := by decide +kernel
theorem dX5_keep_35 : decode cX5_keep 35 = .ok (.iastore, 1) := by decide +kernel
theorem dX5_keep_36 : decode cX5_keep 36 = .ok (.iinc 2 1, 3) := by decide +kernel
theorem dX5_keep_39 : decode cX5_keep 39 = .ok (.goto (-26), 3) := by decide +kernel
theorem dX5_keep_42 : decode cX5_keep 42 = .ok (.aload_n 0, 1) := by decide +kernel
theorem dX5_keep_43 : decode cX5_keep 43 = .ok (.getfield 19, 3) := by decide +kernel
theorem dX5_keep_46 : decode cX5_keep 46 = .ok (.iload_n 1, 1) := by decide +kernel
theorem dX5_keep_47 : decode cX5_keep 47 = .ok (.iconst 1, 1) := by decide +kernel
theorem dX5_keep_48 : decode cX5_keep 48 = .ok (.bastore, 1) := by decide +kernel
theorem dX5_keep_49 : decode cX5_keep 49 = .ok (.aload_n 0, 1) := by decide +kernel
theorem dX5_keep_50 : decode cX5_keep 50 = .ok (.getfield 7, 3) := by decide +kernel
theorem dX5_keep_53 : decode cX5_keep 53 = .ok (.iconst 0, 1) := by decide +kernel
theorem dX5_keep_54 : decode cX5_keep 54 = .ok (.iaload, 1) := by decide +kernel
theorem dX5_keep_55 : decode cX5_keep 55 = .ok (.ireturn, 1) := by decide +kernel
theorem dX5_back_0 : decode cX5_back 0 = .ok (.iload_n 1, 1) := by decide +kernel
theorem dX5_back_1 : decode cX5_back 1 = .ok (.iconst 0, 1) := by decide +kernel
theorem dX5_back_2 : decode cX5_back 2 = .ok (.iconst 1, 1) := by decide +kernel
theorem dX5_back_3 : decode cX5_back 3 = .ok (.invokestatic 57, 3) := by decide +kernel
theorem dX5_back_6 : decode cX5_back 6 = .ok (.ifCond .ne 5, 3) := by decide +kernel
theorem dX5_back_9 : decode cX5_back 9 = .ok (.iconst (-1), 1) := by decide +kernel
theorem dX5_back_10 : decode cX5_back 10 = .ok (.ireturn, 1) := by decide +kernel
theorem dX5_back_11 : decode cX5_back 11 = .ok (.aload_n 0, 1) := by decide +kernel
theorem dX5_back_12 : decode cX5_back 12 = .ok (.getfield 19, 3) := by decide +kernel
theorem dX5_back_15 : decode cX5_back 15 = .ok (.iload_n 1, 1) := by decide +kernel
theorem dX5_back_16 : decode cX5_back 16 = .ok (.baload, 1) := by decide +kernel
theorem dX5_back_17 : decode cX5_back 17 = .ok (.ifCond .ne 6, 3) := by decide +kernel
theorem dX5_back_20 : decode cX5_back 20 = .ok (.bipush (-2), 2) := by decide +kernel
theorem dX5_back_22 : decode cX5_back 22 = .ok (.ireturn, 1) := by decide +kernel
theorem dX5_back_23 : decode cX5_back 23 = .ok (.iconst 0, 1) := by decide +kernel
theorem dX5_back_24 : decode cX5_back 24 = .ok (.istore_n 2, 1) := by decide +kernel
theorem dX5_back_25 : decode cX5_back 25 = .ok (.iload_n 2, 1) := by decide +kernel
theorem dX5_back_26 : decode cX5_back 26 = .ok (.bipush 59, 2) := by decide +kernel
theorem dX5_back_28 : decode cX5_back 28 = .ok (.if_icmp .ge 26, 3) := by decide +kernel
theorem dX5_back_31 : decode cX5_back 31 = .ok (.aload_n 0, 1) := by decide +kernel
theorem dX5_back_32 : decode cX5_back 32 = .ok (.getfield 7, 3) := by decide +kernel
theorem dX5_back_35 : decode cX5_back 35 = .ok (.iload_n 2, 1) := by decide +kernel
theorem dX5_back_36 : decode cX5_back 36 = .ok (.aload_n 0, 1) := by decide +kernel
theorem dX5_back_37 : decode cX5_back 37 = .ok (.getfield 16, 3) := by decide +kernel
theorem dX5_back_40 : decode cX5_back 40 = .ok (.bipush 59, 2) := by decide +kernel
theorem dX5_back_42 : decode cX5_back 42 = .ok (.iload_n 1, 1) := by decide +kernel
theorem dX5_back_43 : decode cX5_back 43 = .ok (.imul, 1) := by decide +kernel
theorem dX5_back_44 : decode cX5_back 44 = .ok (.iload_n 2, 1) := by decide +kernel
theorem dX5_back_45 : decode cX5_back 45 = .ok (.iadd, 1) := by decide +kernel
theorem dX5_back_46 : decode cX5_back 46 = .ok (.iaload, 1) := by decide +kernel
theorem dX5_back_47 : decode cX5_back 47 = .ok (.iastore, 1) := by decide +kernel
theorem dX5_back_48 : decode cX5_back 48 = .ok (.iinc 2 1, 3) := by decide +kernel
theorem dX5_back_51 : decode cX5_back 51 = .ok (.goto (-26), 3) := by decide +kernel
theorem dX5_back_54 : decode cX5_back 54 = .ok (.aload_n 0, 1) := by decide +kernel
theorem dX5_back_55 : decode cX5_back 55 = .ok (.iconst 0, 1) := by decide +kernel
theorem dX5_back_56 : decode cX5_back 56 = .ok (.putfield 111, 3) := by decide +kernel
theorem dX5_back_59 : decode cX5_back 59 = .ok (.aload_n 0, 1) := by decide +kernel
theorem dX5_back_60 : decode cX5_back 60 = .ok (.getfield 7, 3) := by decide +kernel
theorem dX5_back_63 : decode cX5_back 63 = .ok (.iconst 0, 1) := by decide +kernel
theorem dX5_back_64 : decode cX5_back 64 = .ok (.iaload, 1) := by decide +kernel
theorem dX5_back_65 : decode cX5_back 65 = .ok (.ireturn, 1) := by decide +kernel
theorem dX5_count_0 : decode cX5_count 0 = .ok (.iload_n 1, 1) := by decide +kernel
theorem dX5_count_1 : decode cX5_count 1 = .ok (.tableswitch 83 0 6 #[43, 50, 55, 63, 68, 73, 78], 43) := by decide +kernel
theorem dX5_count_44 : decode cX5_count 44 = .ok (.aload_n 0, 1) := by decide +kernel
theorem dX5_count_45 : decode cX5_count 45 = .ok (.getfield 7, 3) := by decide +kernel
theorem dX5_count_48 : decode cX5_count 48 = .ok (.iconst 0, 1) := by decide +kernel
theorem dX5_count_49 : decode cX5_count 49 = .ok (.iaload, 1) := by decide +kernel
theorem dX5_count_50 : decode cX5_count 50 = .ok (.ireturn, 1) := by decide +kernel
theorem dX5_count_51 : decode cX5_count 51 = .ok (.aload_n 0, 1) := by decide +kernel
theorem dX5_count_52 : decode cX5_count 52 = .ok (.invokevirtual 137, 3) := by decide +kernel
theorem dX5_count_55 : decode cX5_count 55 = .ok (.ireturn, 1) := by decide +kernel
theorem dX5_count_56 : decode cX5_count 56 = .ok (.aload_n 0, 1) := by decide +kernel
theorem dX5_count_57 : decode cX5_count 57 = .ok (.getfield 7, 3) := by decide +kernel
theorem dX5_count_60 : decode cX5_count 60 = .ok (.bipush 41, 2) := by decide +kernel
theorem dX5_count_62 : decode cX5_count 62 = .ok (.iaload, 1) := by decide +kernel
theorem dX5_count_63 : decode cX5_count 63 = .ok (.ireturn, 1) := by decide +kernel
theorem dX5_count_64 : decode cX5_count 64 = .ok (.aload_n 0, 1) := by decide +kernel
theorem dX5_count_65 : decode cX5_count 65 = .ok (.getfield 23, 3) := by decide +kernel
theorem dX5_count_68 : decode cX5_count 68 = .ok (.ireturn, 1) := by decide +kernel
theorem dX5_count_69 : decode cX5_count 69 = .ok (.aload_n 0, 1) := by decide +kernel
theorem dX5_count_70 : decode cX5_count 70 = .ok (.getfield 114, 3) := by decide +kernel
theorem dX5_count_73 : decode cX5_count 73 = .ok (.ireturn, 1) := by decide +kernel
theorem dX5_count_74 : decode cX5_count 74 = .ok (.aload_n 0, 1) := by decide +kernel
theorem dX5_count_75 : decode cX5_count 75 = .ok (.getfield 61, 3) := by decide +kernel
theorem dX5_count_78 : decode cX5_count 78 = .ok (.ireturn, 1) := by decide +kernel
theorem dX5_count_79 : decode cX5_count 79 = .ok (.aload_n 0, 1) := by decide +kernel
theorem dX5_count_80 : decode cX5_count 80 = .ok (.getfield 111, 3) := by decide +kernel
theorem dX5_count_83 : decode cX5_count 83 = .ok (.ireturn, 1) := by decide +kernel
theorem dX5_count_84 : decode cX5_count 84 = .ok (.iconst (-1), 1) := by decide +kernel
theorem dX5_count_85 : decode cX5_count 85 = .ok (.ireturn, 1) := by decide +kernel
