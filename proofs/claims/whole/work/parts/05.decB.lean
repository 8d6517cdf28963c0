theorem dX4_init_0 : decode cX4_init 0 = .ok (.aload_n 0, 1) := by decide +kernel
theorem dX4_init_1 : decode cX4_init 1 = .ok (.invokespecial 3, 3) := by decide +kernel
theorem dX4_init_4 : decode cX4_init 4 = .ok (.aload_n 0, 1) := by decide +kernel
theorem dX4_init_5 : decode cX4_init 5 = .ok (.new 9, 3) := by decide +kernel
theorem dX4_init_8 : decode cX4_init 8 = .ok (.dup, 1) := by decide +kernel
theorem dX4_init_9 : decode cX4_init 9 = .ok (.invokespecial 11, 3) := by decide +kernel
theorem dX4_init_12 : decode cX4_init 12 = .ok (.putfield 12, 3) := by decide +kernel
theorem dX4_init_15 : decode cX4_init 15 = .ok (.aload_n 0, 1) := by decide +kernel
theorem dX4_init_16 : decode cX4_init 16 = .ok (.new 9, 3) := by decide +kernel
theorem dX4_init_19 : decode cX4_init 19 = .ok (.dup, 1) := by decide +kernel
theorem dX4_init_20 : decode cX4_init 20 = .ok (.invokespecial 11, 3) := by decide +kernel
theorem dX4_init_23 : decode cX4_init 23 = .ok (.putfield 16, 3) := by decide +kernel
theorem dX4_init_26 : decode cX4_init 26 = .ok (.aload_n 0, 1) := by decide +kernel
theorem dX4_init_27 : decode cX4_init 27 = .ok (.new 19, 3) := by decide +kernel
theorem dX4_init_30 : decode cX4_init 30 = .ok (.dup, 1) := by decide +kernel
theorem dX4_init_31 : decode cX4_init 31 = .ok (.invokespecial 21, 3) := by decide +kernel
theorem dX4_init_34 : decode cX4_init 34 = .ok (.putfield 22, 3) := by decide +kernel
theorem dX4_init_37 : decode cX4_init 37 = .ok (.aload_n 0, 1) := by decide +kernel
theorem dX4_init_38 : decode cX4_init 38 = .ok (.bipush 6, 2) := by decide +kernel
theorem dX4_init_40 : decode cX4_init 40 = .ok (.anewarray 9, 3) := by decide +kernel
theorem dX4_init_43 : decode cX4_init 43 = .ok (.putfield 26, 3) := by decide +kernel
theorem dX4_init_46 : decode cX4_init 46 = .ok (.aload_n 0, 1) := by decide +kernel
theorem dX4_init_47 : decode cX4_init 47 = .ok (.iconst 2, 1) := by decide +kernel
theorem dX4_init_48 : decode cX4_init 48 = .ok (.anewarray 9, 3) := by decide +kernel
theorem dX4_init_51 : decode cX4_init 51 = .ok (.putfield 30, 3) := by decide +kernel
theorem dX4_init_54 : decode cX4_init 54 = .ok (.aload_n 0, 1) := by decide +kernel
theorem dX4_init_55 : decode cX4_init 55 = .ok (.iconst 2, 1) := by decide +kernel
theorem dX4_init_56 : decode cX4_init 56 = .ok (.newarray .boolean, 2) := by decide +kernel
theorem dX4_init_58 : decode cX4_init 58 = .ok (.putfield 33, 3) := by decide +kernel
theorem dX4_init_61 : decode cX4_init 61 = .ok (.aload_n 0, 1) := by decide +kernel
theorem dX4_init_62 : decode cX4_init 62 = .ok (.bipush 10, 2) := by decide +kernel
theorem dX4_init_64 : decode cX4_init 64 = .ok (.putfield 37, 3) := by decide +kernel
theorem dX4_init_67 : decode cX4_init 67 = .ok (.aload_n 0, 1) := by decide +kernel
theorem dX4_init_68 : decode cX4_init 68 = .ok (.bipush 6, 2) := by decide +kernel
theorem dX4_init_70 : decode cX4_init 70 = .ok (.newarray .int, 2) := by decide +kernel
theorem dX4_init_72 : decode cX4_init 72 = .ok (.putfield 41, 3) := by decide +kernel
theorem dX4_init_75 : decode cX4_init 75 = .ok (.aload_n 0, 1) := by decide +kernel
theorem dX4_init_76 : decode cX4_init 76 = .ok (.bipush 6, 2) := by decide +kernel
theorem dX4_init_78 : decode cX4_init 78 = .ok (.newarray .int, 2) := by decide +kernel
theorem dX4_init_80 : decode cX4_init 80 = .ok (.putfield 45, 3) := by decide +kernel
theorem dX4_init_83 : decode cX4_init 83 = .ok (.aload_n 0, 1) := by decide +kernel
theorem dX4_init_84 : decode cX4_init 84 = .ok (.sipush 800, 3) := by decide +kernel
theorem dX4_init_87 : decode cX4_init 87 = .ok (.newarray .int, 2) := by decide +kernel
theorem dX4_init_89 : decode cX4_init 89 = .ok (.putfield 48, 3) := by decide +kernel
theorem dX4_init_92 : decode cX4_init 92 = .ok (.aload_n 0, 1) := by decide +kernel
theorem dX4_init_93 : decode cX4_init 93 = .ok (.new 51, 3) := by decide +kernel
theorem dX4_init_96 : decode cX4_init 96 = .ok (.dup, 1) := by decide +kernel
theorem dX4_init_97 : decode cX4_init 97 = .ok (.invokespecial 53, 3) := by decide +kernel
theorem dX4_init_100 : decode cX4_init 100 = .ok (.putfield 54, 3) := by decide +kernel
theorem dX4_init_103 : decode cX4_init 103 = .ok (.iconst 0, 1) := by decide +kernel
theorem dX4_init_104 : decode cX4_init 104 = .ok (.istore_n 1, 1) := by decide +kernel
theorem dX4_init_105 : decode cX4_init 105 = .ok (.iload_n 1, 1) := by decide +kernel
theorem dX4_init_106 : decode cX4_init 106 = .ok (.bipush 6, 2) := by decide +kernel
theorem dX4_init_108 : decode cX4_init 108 = .ok (.if_icmp .ge 22, 3) := by decide +kernel
theorem dX4_init_111 : decode cX4_init 111 = .ok (.aload_n 0, 1) := by decide +kernel
theorem dX4_init_112 : decode cX4_init 112 = .ok (.getfield 26, 3) := by decide +kernel
theorem dX4_init_115 : decode cX4_init 115 = .ok (.iload_n 1, 1) := by decide +kernel
theorem dX4_init_116 : decode cX4_init 116 = .ok (.new 9, 3) := by decide +kernel
theorem dX4_init_119 : decode cX4_init 119 = .ok (.dup, 1) := by decide +kernel
theorem dX4_init_120 : decode cX4_init 120 = .ok (.invokespecial 11, 3) := by decide +kernel
theorem dX4_init_123 : decode cX4_init 123 = .ok (.aastore, 1) := by decide +kernel
theorem dX4_init_124 : decode cX4_init 124 = .ok (.iinc 1 1, 3) := by decide +kernel
theorem dX4_init_127 : decode cX4_init 127 = .ok (.goto (-22), 3) := by decide +kernel
theorem dX4_init_130 : decode cX4_init 130 = .ok (.iconst 0, 1) := by decide +kernel
theorem dX4_init_131 : decode cX4_init 131 = .ok (.istore_n 1, 1) := by decide +kernel
theorem dX4_init_132 : decode cX4_init 132 = .ok (.iload_n 1, 1) := by decide +kernel
theorem dX4_init_133 : decode cX4_init 133 = .ok (.iconst 2, 1) := by decide +kernel
theorem dX4_init_134 : decode cX4_init 134 = .ok (.if_icmp .ge 22, 3) := by decide +kernel
theorem dX4_init_137 : decode cX4_init 137 = .ok (.aload_n 0, 1) := by decide +kernel
theorem dX4_init_138 : decode cX4_init 138 = .ok (.getfield 30, 3) := by decide +kernel
theorem dX4_init_141 : decode cX4_init 141 = .ok (.iload_n 1, 1) := by decide +kernel
theorem dX4_init_142 : decode cX4_init 142 = .ok (.new 9, 3) := by decide +kernel
theorem dX4_init_145 : decode cX4_init 145 = .ok (.dup, 1) := by decide +kernel
theorem dX4_init_146 : decode cX4_init 146 = .ok (.invokespecial 11, 3) := by decide +kernel
theorem dX4_init_149 : decode cX4_init 149 = .ok (.aastore, 1) := by decide +kernel
theorem dX4_init_150 : decode cX4_init 150 = .ok (.iinc 1 1, 3) := by decide +kernel
theorem dX4_init_153 : decode cX4_init 153 = .ok (.goto (-21), 3) := by decide +kernel
theorem dX4_init_156 : decode cX4_init 156 = .ok (.return_, 1) := by decide +kernel
theorem dX4_type_0 : decode cX4_type 0 = .ok (.iload_n 1, 1) := by decide +kernel
theorem dX4_type_1 : decode cX4_type 1 = .ok (.ifCond .lt 10, 3) := by decide +kernel
theorem dX4_type_4 : decode cX4_type 4 = .ok (.iload_n 1, 1) := by decide +kernel
theorem dX4_type_5 : decode cX4_type 5 = .ok (.sipush 255, 3) := by decide +kernel
theorem dX4_type_8 : decode cX4_type 8 = .ok (.if_icmp .le 5, 3) := by decide +kernel
theorem dX4_type_11 : decode cX4_type 11 = .ok (.iconst (-1), 1) := by decide +kernel
theorem dX4_type_12 : decode cX4_type 12 = .ok (.ireturn, 1) := by decide +kernel
theorem dX4_type_13 : decode cX4_type 13 = .ok (.aload_n 0, 1) := by decide +kernel
theorem dX4_type_14 : decode cX4_type 14 = .ok (.getfield 22, 3) := by decide +kernel
theorem dX4_type_17 : decode cX4_type 17 = .ok (.iload_n 1, 1) := by decide +kernel
theorem dX4_type_18 : decode cX4_type 18 = .ok (.invokevirtual 58, 3) := by decide +kernel
theorem dX4_type_21 : decode cX4_type 21 = .ok (.ifCond .eq 13, 3) := by decide +kernel
theorem dX4_type_24 : decode cX4_type 24 = .ok (.aload_n 0, 1) := by decide +kernel
theorem dX4_type_25 : decode cX4_type 25 = .ok (.getfield 22, 3) := by decide +kernel
theorem dX4_type_28 : decode cX4_type 28 = .ok (.getfield 62, 3) := by decide +kernel
theorem dX4_type_31 : decode cX4_type 31 = .ok (.goto 5, 3) := by decide +kernel
theorem dX4_type_34 : decode cX4_type 34 = .ok (.bipush (-3), 2) := by decide +kernel
theorem dX4_type_36 : decode cX4_type 36 = .ok (.ireturn, 1) := by decide +kernel
theorem dX4_clear_0 : decode cX4_clear 0 = .ok (.aload_n 0, 1) := by decide +kernel
theorem dX4_clear_1 : decode cX4_clear 1 = .ok (.getfield 22, 3) := by decide +kernel
theorem dX4_clear_4 : decode cX4_clear 4 = .ok (.getfield 62, 3) := by decide +kernel
theorem dX4_clear_7 : decode cX4_clear 7 = .ok (.istore_n 1, 1) := by decide +kernel
theorem dX4_clear_8 : decode cX4_clear 8 = .ok (.aload_n 0, 1) := by decide +kernel
theorem dX4_clear_9 : decode cX4_clear 9 = .ok (.getfield 22, 3) := by decide +kernel
theorem dX4_clear_12 : decode cX4_clear 12 = .ok (.iconst 0, 1) := by decide +kernel
theorem dX4_clear_13 : decode cX4_clear 13 = .ok (.putfield 62, 3) := by decide +kernel
theorem dX4_clear_16 : decode cX4_clear 16 = .ok (.iload_n 1, 1) := by decide +kernel
theorem dX4_clear_17 : decode cX4_clear 17 = .ok (.ireturn, 1) := by decide +kernel
theorem dX4_tells_0 : decode cX4_tells 0 = .ok (.aload_n 0, 1) := by decide +kernel
theorem dX4_tells_1 : decode cX4_tells 1 = .ok (.getfield 22, 3) := by decide +kernel
theorem dX4_tells_4 : decode cX4_tells 4 = .ok (.aload_n 0, 1) := by decide +kernel
theorem dX4_tells_5 : decode cX4_tells 5 = .ok (.getfield 16, 3) := by decide +kernel
theorem dX4_tells_8 : decode cX4_tells 8 = .ok (.invokevirtual 65, 3) := by decide +kernel
theorem dX4_tells_11 : decode cX4_tells 11 = .ok (.istore_n 1, 1) := by decide +kernel
theorem dX4_tells_12 : decode cX4_tells 12 = .ok (.iload_n 1, 1) := by decide +kernel
theorem dX4_tells_13 : decode cX4_tells 13 = .ok (.ifCond .ge 5, 3) := by decide +kernel
theorem dX4_tells_16 : decode cX4_tells 16 = .ok (.iload_n 1, 1) := by decide +kernel
theorem dX4_tells_17 : decode cX4_tells 17 = .ok (.ireturn, 1) := by decide +kernel
theorem dX4_tells_18 : decode cX4_tells 18 = .ok (.aload_n 0, 1) := by decide +kernel
theorem dX4_tells_19 : decode cX4_tells 19 = .ok (.getfield 16, 3) := by decide +kernel
theorem dX4_tells_22 : decode cX4_tells 22 = .ok (.aload_n 0, 1) := by decide +kernel
theorem dX4_tells_23 : decode cX4_tells 23 = .ok (.getfield 12, 3) := by decide +kernel
theorem dX4_tells_26 : decode cX4_tells 26 = .ok (.invokestatic 69, 3) := by decide +kernel
theorem dX4_tells_29 : decode cX4_tells 29 = .ok (.aload_n 0, 1) := by decide +kernel
theorem dX4_tells_30 : decode cX4_tells 30 = .ok (.getfield 22, 3) := by decide +kernel
theorem dX4_tells_33 : decode cX4_tells 33 = .ok (.iconst 0, 1) := by decide +kernel
theorem dX4_tells_34 : decode cX4_tells 34 = .ok (.putfield 62, 3) := by decide +kernel
theorem dX4_tells_37 : decode cX4_tells 37 = .ok (.aload_n 0, 1) := by decide +kernel
theorem dX4_tells_38 : decode cX4_tells 38 = .ok (.iconst 0, 1) := by decide +kernel
theorem dX4_tells_39 : decode cX4_tells 39 = .ok (.putfield 73, 3) := by decide +kernel
theorem dX4_tells_42 : decode cX4_tells 42 = .ok (.aload_n 0, 1) := by decide +kernel
theorem dX4_tells_43 : decode cX4_tells 43 = .ok (.bipush 10, 2) := by decide +kernel
theorem dX4_tells_45 : decode cX4_tells 45 = .ok (.putfield 37, 3) := by decide +kernel
theorem dX4_tells_48 : decode cX4_tells 48 = .ok (.aload_n 0, 1) := by decide +kernel
theorem dX4_tells_49 : decode cX4_tells 49 = .ok (.iconst 0, 1) := by decide +kernel
theorem dX4_tells_50 : decode cX4_tells 50 = .ok (.putfield 76, 3) := by decide +kernel
theorem dX4_tells_53 : decode cX4_tells 53 = .ok (.iconst 0, 1) := by decide +kernel
theorem dX4_tells_54 : decode cX4_tells 54 = .ok (.istore_n 2, 1) := by decide +kernel
theorem dX4_tells_55 : decode cX4_tells 55 = .ok (.iload_n 2, 1) := by decide +kernel
theorem dX4_tells_56 : decode cX4_tells 56 = .ok (.iconst 2, 1) := by decide +kernel
theorem dX4_tells_57 : decode cX4_tells 57 = .ok (.if_icmp .ge 16, 3) := by decide +kernel
theorem dX4_tells_60 : decode cX4_tells 60 = .ok (.aload_n 0, 1) := by decide +kernel
theorem dX4_tells_61 : decode cX4_tells 61 = .ok (.getfield 33, 3) := by decide +kernel
theorem dX4_tells_64 : decode cX4_tells 64 = .ok (.iload_n 2, 1) := by decide +kernel
theorem dX4_tells_65 : decode cX4_tells 65 = .ok (.iconst 0, 1) := by decide +kernel
theorem dX4_tells_66 : decode cX4_tells 66 = .ok (.bastore, 1) := by decide +kernel
theorem dX4_tells_67 : decode cX4_tells 67 = .ok (.iinc 2 1, 3) := by decide +kernel
theorem dX4_tells_70 : decode cX4_tells 70 = .ok (.goto (-15), 3) := by decide +kernel
theorem dX4_tells_73 : decode cX4_tells 73 = .ok (.iload_n 1, 1) := by decide +kernel
theorem dX4_tells_74 : decode cX4_tells 74 = .ok (.ireturn, 1) := by decide +kernel
theorem dX4_drives_0 : decode cX4_drives 0 = .ok (.iload_n 1, 1) := by decide +kernel
theorem dX4_drives_1 : decode cX4_drives 1 = .ok (.iload_n 2, 1) := by decide +kernel
theorem dX4_drives_2 : decode cX4_drives 2 = .ok (.invokestatic 79, 3) := by decide +kernel
theorem dX4_drives_5 : decode cX4_drives 5 = .ok (.ifCond .eq 12, 3) := by decide +kernel
theorem dX4_drives_8 : decode cX4_drives 8 = .ok (.iload_n 3, 1) := by decide +kernel
theorem dX4_drives_9 : decode cX4_drives 9 = .ok (.iload 4, 2) := by decide +kernel
theorem dX4_drives_11 : decode cX4_drives 11 = .ok (.invokestatic 83, 3) := by decide +kernel
theorem dX4_drives_14 : decode cX4_drives 14 = .ok (.ifCond .ne 5, 3) := by decide +kernel
theorem dX4_drives_17 : decode cX4_drives 17 = .ok (.iconst (-1), 1) := by decide +kernel
theorem dX4_drives_18 : decode cX4_drives 18 = .ok (.ireturn, 1) := by decide +kernel
theorem dX4_drives_19 : decode cX4_drives 19 = .ok (.aload_n 0, 1) := by decide +kernel
theorem dX4_drives_20 : decode cX4_drives 20 = .ok (.getfield 12, 3) := by decide +kernel
theorem dX4_drives_23 : decode cX4_drives 23 = .ok (.iload_n 1, 1) := by decide +kernel
theorem dX4_drives_24 : decode cX4_drives 24 = .ok (.iload_n 2, 1) := by decide +kernel
theorem dX4_drives_25 : decode cX4_drives 25 = .ok (.invokevirtual 86, 3) := by decide +kernel
theorem dX4_drives_28 : decode cX4_drives 28 = .ok (.ifCond .eq 6, 3) := by decide +kernel
theorem dX4_drives_31 : decode cX4_drives 31 = .ok (.bipush (-2), 2) := by decide +kernel
theorem dX4_drives_33 : decode cX4_drives 33 = .ok (.ireturn, 1) := by decide +kernel
theorem dX4_drives_34 : decode cX4_drives 34 = .ok (.aload_n 0, 1) := by decide +kernel
theorem dX4_drives_35 : decode cX4_drives 35 = .ok (.getfield 12, 3) := by decide +kernel
theorem dX4_drives_38 : decode cX4_drives 38 = .ok (.getfield 89, 3) := by decide +kernel
theorem dX4_drives_41 : decode cX4_drives 41 = .ok (.bipush 8, 2) := by decide +kernel
theorem dX4_drives_43 : decode cX4_drives 43 = .ok (.if_icmp .lt 6, 3) := by decide +kernel
theorem dX4_drives_46 : decode cX4_drives 46 = .ok (.bipush (-3), 2) := by decide +kernel
theorem dX4_drives_48 : decode cX4_drives 48 = .ok (.ireturn, 1) := by decide +kernel
theorem dX4_drives_49 : decode cX4_drives 49 = .ok (.aload_n 0, 1) := by decide +kernel
theorem dX4_drives_50 : decode cX4_drives 50 = .ok (.invokevirtual 92, 3) := by decide +kernel
theorem dX4_drives_53 : decode cX4_drives 53 = .ok (.aload_n 0, 1) := by decide +kernel
theorem dX4_drives_54 : decode cX4_drives 54 = .ok (.getfield 12, 3) := by decide +kernel
theorem dX4_drives_57 : decode cX4_drives 57 = .ok (.iload_n 1, 1) := by decide +kernel
theorem dX4_drives_58 : decode cX4_drives 58 = .ok (.iload_n 2, 1) := by decide +kernel
theorem dX4_drives_59 : decode cX4_drives 59 = .ok (.iload_n 3, 1) := by decide +kernel
theorem dX4_drives_60 : decode cX4_drives 60 = .ok (.iload 4, 2) := by decide +kernel
theorem dX4_drives_62 : decode cX4_drives 62 = .ok (.invokevirtual 95, 3) := by decide +kernel
theorem dX4_drives_65 : decode cX4_drives 65 = .ok (.aload_n 0, 1) := by decide +kernel
theorem dX4_drives_66 : decode cX4_drives 66 = .ok (.getfield 12, 3) := by decide +kernel
theorem dX4_drives_69 : decode cX4_drives 69 = .ok (.getfield 89, 3) := by decide +kernel
theorem dX4_drives_72 : decode cX4_drives 72 = .ok (.iconst 1, 1) := by decide +kernel
theorem dX4_drives_73 : decode cX4_drives 73 = .ok (.isub, 1) := by decide +kernel
theorem dX4_drives_74 : decode cX4_drives 74 = .ok (.ireturn, 1) := by decide +kernel
theorem dX4_loses_0 : decode cX4_loses 0 = .ok (.aload_n 0, 1) := by decide +kernel
theorem dX4_loses_1 : decode cX4_loses 1 = .ok (.iload_n 1, 1) := by decide +kernel
theorem dX4_loses_2 : decode cX4_loses 2 = .ok (.invokevirtual 99, 3) := by decide +kernel
theorem dX4_loses_5 : decode cX4_loses 5 = .ok (.ifCond .ne 5, 3) := by decide +kernel
theorem dX4_loses_8 : decode cX4_loses 8 = .ok (.iconst (-1), 1) := by decide +kernel
theorem dX4_loses_9 : decode cX4_loses 9 = .ok (.ireturn, 1) := by decide +kernel
theorem dX4_loses_10 : decode cX4_loses 10 = .ok (.aload_n 0, 1) := by decide +kernel
theorem dX4_loses_11 : decode cX4_loses 11 = .ok (.getfield 12, 3) := by decide +kernel
theorem dX4_loses_14 : decode cX4_loses 14 = .ok (.iload_n 1, 1) := by decide +kernel
theorem dX4_loses_15 : decode cX4_loses 15 = .ok (.invokevirtual 102, 3) := by decide +kernel
theorem dX4_loses_18 : decode cX4_loses 18 = .ok (.ifCond .ne 6, 3) := by decide +kernel
theorem dX4_loses_21 : decode cX4_loses 21 = .ok (.bipush (-2), 2) := by decide +kernel
theorem dX4_loses_23 : decode cX4_loses 23 = .ok (.ireturn, 1) := by decide +kernel
theorem dX4_loses_24 : decode cX4_loses 24 = .ok (.aload_n 0, 1) := by decide +kernel
theorem dX4_loses_25 : decode cX4_loses 25 = .ok (.invokevirtual 92, 3) := by decide +kernel
theorem dX4_loses_28 : decode cX4_loses 28 = .ok (.aload_n 0, 1) := by decide +kernel
theorem dX4_loses_29 : decode cX4_loses 29 = .ok (.getfield 12, 3) := by decide +kernel
theorem dX4_loses_32 : decode cX4_loses 32 = .ok (.dup, 1) := by decide +kernel
theorem dX4_loses_33 : decode cX4_loses 33 = .ok (.getfield 105, 3) := by decide +kernel
theorem dX4_loses_36 : decode cX4_loses 36 = .ok (.iconst 1, 1) := by decide +kernel
theorem dX4_loses_37 : decode cX4_loses 37 = .ok (.iload_n 1, 1) := by decide +kernel
theorem dX4_loses_38 : decode cX4_loses 38 = .ok (.ishl, 1) := by decide +kernel
theorem dX4_loses_39 : decode cX4_loses 39 = .ok (.iconst (-1), 1) := by decide +kernel
theorem dX4_loses_40 : decode cX4_loses 40 = .ok (.ixor, 1) := by decide +kernel
theorem dX4_loses_41 : decode cX4_loses 41 = .ok (.iand, 1) := by decide +kernel
theorem dX4_loses_42 : decode cX4_loses 42 = .ok (.putfield 105, 3) := by decide +kernel
theorem dX4_loses_45 : decode cX4_loses 45 = .ok (.aload_n 0, 1) := by decide +kernel
theorem dX4_loses_46 : decode cX4_loses 46 = .ok (.getfield 12, 3) := by decide +kernel
theorem dX4_loses_49 : decode cX4_loses 49 = .ok (.getfield 105, 3) := by decide +kernel
theorem dX4_loses_52 : decode cX4_loses 52 = .ok (.invokestatic 108, 3) := by decide +kernel
theorem dX4_loses_55 : decode cX4_loses 55 = .ok (.ireturn, 1) := by decide +kernel
theorem dX4_mends_0 : decode cX4_mends 0 = .ok (.aload_n 0, 1) := by decide +kernel
theorem dX4_mends_1 : decode cX4_mends 1 = .ok (.iload_n 1, 1) := by decide +kernel
theorem dX4_mends_2 : decode cX4_mends 2 = .ok (.invokevirtual 99, 3) := by decide +kernel
theorem dX4_mends_5 : decode cX4_mends 5 = .ok (.ifCond .ne 5, 3) := by decide +kernel
theorem dX4_mends_8 : decode cX4_mends 8 = .ok (.iconst (-1), 1) := by decide +kernel
theorem dX4_mends_9 : decode cX4_mends 9 = .ok (.ireturn, 1) := by decide +kernel
theorem dX4_mends_10 : decode cX4_mends 10 = .ok (.aload_n 0, 1) := by decide +kernel
theorem dX4_mends_11 : decode cX4_mends 11 = .ok (.getfield 12, 3) := by decide +kernel
theorem dX4_mends_14 : decode cX4_mends 14 = .ok (.iload_n 1, 1) := by decide +kernel
theorem dX4_mends_15 : decode cX4_mends 15 = .ok (.invokevirtual 102, 3) := by decide +kernel
theorem dX4_mends_18 : decode cX4_mends 18 = .ok (.ifCond .eq 6, 3) := by decide +kernel
theorem dX4_mends_21 : decode cX4_mends 21 = .ok (.bipush (-2), 2) := by decide +kernel
theorem dX4_mends_23 : decode cX4_mends 23 = .ok (.ireturn, 1) := by decide +kernel
theorem dX4_mends_24 : decode cX4_mends 24 = .ok (.aload_n 0, 1) := by decide +kernel
theorem dX4_mends_25 : decode cX4_mends 25 = .ok (.invokevirtual 92, 3) := by decide +kernel
theorem dX4_mends_28 : decode cX4_mends 28 = .ok (.aload_n 0, 1) := by decide +kernel
theorem dX4_mends_29 : decode cX4_mends 29 = .ok (.getfield 12, 3) := by decide +kernel
theorem dX4_mends_32 : decode cX4_mends 32 = .ok (.dup, 1) := by decide +kernel
theorem dX4_mends_33 : decode cX4_mends 33 = .ok (.getfield 105, 3) := by decide +kernel
theorem dX4_mends_36 : decode cX4_mends 36 = .ok (.iconst 1, 1) := by decide +kernel
theorem dX4_mends_37 : decode cX4_mends 37 = .ok (.iload_n 1, 1) := by decide +kernel
theorem dX4_mends_38 : decode cX4_mends 38 = .ok (.ishl, 1) := by decide +kernel
theorem dX4_mends_39 : decode cX4_mends 39 = .ok (.ior, 1) := by decide +kernel
theorem dX4_mends_40 : decode cX4_mends 40 = .ok (.putfield 105, 3) := by decide +kernel
theorem dX4_mends_43 : decode cX4_mends 43 = .ok (.aload_n 0, 1) := by decide +kernel
theorem dX4_mends_44 : decode cX4_mends 44 = .ok (.getfield 12, 3) := by decide +kernel
theorem dX4_mends_47 : decode cX4_mends 47 = .ok (.getfield 105, 3) := by decide +kernel
theorem dX4_mends_50 : decode cX4_mends 50 = .ok (.invokestatic 108, 3) := by decide +kernel
theorem dX4_mends_53 : decode cX4_mends 53 = .ok (.ireturn, 1) := by decide +kernel
theorem dX4_loads_0 : decode cX4_loads 0 = .ok (.aload_n 0, 1) := by decide +kernel
theorem dX4_loads_1 : decode cX4_loads 1 = .ok (.iload_n 1, 1) := by decide +kernel
theorem dX4_loads_2 : decode cX4_loads 2 = .ok (.invokevirtual 114, 3) := by decide +kernel
theorem dX4_loads_5 : decode cX4_loads 5 = .ok (.ifCond .eq 13, 3) := by decide +kernel
theorem dX4_loads_8 : decode cX4_loads 8 = .ok (.iload_n 2, 1) := by decide +kernel
theorem dX4_loads_9 : decode cX4_loads 9 = .ok (.ifCond .lt 9, 3) := by decide +kernel
theorem dX4_loads_12 : decode cX4_loads 12 = .ok (.iload_n 2, 1) := by decide +kernel
theorem dX4_loads_13 : decode cX4_loads 13 = .ok (.bipush 99, 2) := by decide +kernel
theorem dX4_loads_15 : decode cX4_loads 15 = .ok (.if_icmp .le 5, 3) := by decide +kernel
theorem dX4_loads_18 : decode cX4_loads 18 = .ok (.iconst (-1), 1) := by decide +kernel
theorem dX4_loads_19 : decode cX4_loads 19 = .ok (.ireturn, 1) := by decide +kernel
theorem dX4_loads_20 : decode cX4_loads 20 = .ok (.aload_n 0, 1) := by decide +kernel
theorem dX4_loads_21 : decode cX4_loads 21 = .ok (.getfield 12, 3) := by decide +kernel
theorem dX4_loads_24 : decode cX4_loads 24 = .ok (.getfield 117, 3) := by decide +kernel
theorem dX4_loads_27 : decode cX4_loads 27 = .ok (.iload_n 1, 1) := by decide +kernel
theorem dX4_loads_28 : decode cX4_loads 28 = .ok (.iaload, 1) := by decide +kernel
theorem dX4_loads_29 : decode cX4_loads 29 = .ok (.istore_n 3, 1) := by decide +kernel
theorem dX4_loads_30 : decode cX4_loads 30 = .ok (.iload_n 3, 1) := by decide +kernel
theorem dX4_loads_31 : decode cX4_loads 31 = .ok (.iload_n 2, 1) := by decide +kernel
theorem dX4_loads_32 : decode cX4_loads 32 = .ok (.if_icmp .ne 6, 3) := by decide +kernel
theorem dX4_loads_35 : decode cX4_loads 35 = .ok (.bipush (-2), 2) := by decide +kernel
theorem dX4_loads_37 : decode cX4_loads 37 = .ok (.ireturn, 1) := by decide +kernel
theorem dX4_loads_38 : decode cX4_loads 38 = .ok (.aload_n 0, 1) := by decide +kernel
theorem dX4_loads_39 : decode cX4_loads 39 = .ok (.invokevirtual 92, 3) := by decide +kernel
theorem dX4_loads_42 : decode cX4_loads 42 = .ok (.aload_n 0, 1) := by decide +kernel
theorem dX4_loads_43 : decode cX4_loads 43 = .ok (.getfield 12, 3) := by decide +kernel
theorem dX4_loads_46 : decode cX4_loads 46 = .ok (.getfield 117, 3) := by decide +kernel
theorem dX4_loads_49 : decode cX4_loads 49 = .ok (.iload_n 1, 1) := by decide +kernel
theorem dX4_loads_50 : decode cX4_loads 50 = .ok (.iload_n 2, 1) := by decide +kernel
theorem dX4_loads_51 : decode cX4_loads 51 = .ok (.iastore, 1) := by decide +kernel
theorem dX4_loads_52 : decode cX4_loads 52 = .ok (.iload_n 3, 1) := by decide +kernel
theorem dX4_loads_53 : decode cX4_loads 53 = .ok (.ireturn, 1) := by decide +kernel
theorem dX4_moves_0 : decode cX4_moves 0 = .ok (.aload_n 0, 1) := by decide +kernel
theorem dX4_moves_1 : decode cX4_moves 1 = .ok (.iload_n 1, 1) := by decide +kernel
theorem dX4_moves_2 : decode cX4_moves 2 = .ok (.invokevirtual 114, 3) := by decide +kernel
theorem dX4_moves_5 : decode cX4_moves 5 = .ok (.ifCond .eq 11, 3) := by decide +kernel
theorem dX4_moves_8 : decode cX4_moves 8 = .ok (.iload_n 2, 1) := by decide +kernel
theorem dX4_moves_9 : decode cX4_moves 9 = .ok (.iload_n 3, 1) := by decide +kernel
theorem dX4_moves_10 : decode cX4_moves 10 = .ok (.invokestatic 79, 3) := by decide +kernel
theorem dX4_moves_13 : decode cX4_moves 13 = .ok (.ifCond .ne 5, 3) := by decide +kernel
theorem dX4_moves_16 : decode cX4_moves 16 = .ok (.iconst (-1), 1) := by decide +kernel
theorem dX4_moves_17 : decode cX4_moves 17 = .ok (.ireturn, 1) := by decide +kernel
theorem dX4_moves_18 : decode cX4_moves 18 = .ok (.aload_n 0, 1) := by decide +kernel
theorem dX4_moves_19 : decode cX4_moves 19 = .ok (.getfield 12, 3) := by decide +kernel
theorem dX4_moves_22 : decode cX4_moves 22 = .ok (.getfield 120, 3) := by decide +kernel
theorem dX4_moves_25 : decode cX4_moves 25 = .ok (.iload_n 1, 1) := by decide +kernel
theorem dX4_moves_26 : decode cX4_moves 26 = .ok (.iaload, 1) := by decide +kernel
theorem dX4_moves_27 : decode cX4_moves 27 = .ok (.iload_n 2, 1) := by decide +kernel
theorem dX4_moves_28 : decode cX4_moves 28 = .ok (.if_icmp .ne 19, 3) := by decide +kernel
theorem dX4_moves_31 : decode cX4_moves 31 = .ok (.aload_n 0, 1) := by decide +kernel
theorem dX4_moves_32 : decode cX4_moves 32 = .ok (.getfield 12, 3) := by decide +kernel
theorem dX4_moves_35 : decode cX4_moves 35 = .ok (.getfield 123, 3) := by decide +kernel
theorem dX4_moves_38 : decode cX4_moves 38 = .ok (.iload_n 1, 1) := by decide +kernel
theorem dX4_moves_39 : decode cX4_moves 39 = .ok (.iaload, 1) := by decide +kernel
theorem dX4_moves_40 : decode cX4_moves 40 = .ok (.iload_n 3, 1) := by decide +kernel
theorem dX4_moves_41 : decode cX4_moves 41 = .ok (.if_icmp .ne 6, 3) := by decide +kernel
theorem dX4_moves_44 : decode cX4_moves 44 = .ok (.bipush (-2), 2) := by decide +kernel
theorem dX4_moves_46 : decode cX4_moves 46 = .ok (.ireturn, 1) := by decide +kernel
theorem dX4_moves_47 : decode cX4_moves 47 = .ok (.aload_n 0, 1) := by decide +kernel
theorem dX4_moves_48 : decode cX4_moves 48 = .ok (.invokevirtual 92, 3) := by decide +kernel
theorem dX4_moves_51 : decode cX4_moves 51 = .ok (.aload_n 0, 1) := by decide +kernel
theorem dX4_moves_52 : decode cX4_moves 52 = .ok (.getfield 12, 3) := by decide +kernel
theorem dX4_moves_55 : decode cX4_moves 55 = .ok (.getfield 120, 3) := by decide +kernel
theorem dX4_moves_58 : decode cX4_moves 58 = .ok (.iload_n 1, 1) := by decide +kernel
theorem dX4_moves_59 : decode cX4_moves 59 = .ok (.iload_n 2, 1) := by decide +kernel
theorem dX4_moves_60 : decode cX4_moves 60 = .ok (.iastore, 1) := by decide +kernel
theorem dX4_moves_61 : decode cX4_moves 61 = .ok (.aload_n 0, 1) := by decide +kernel
theorem dX4_moves_62 : decode cX4_moves 62 = .ok (.getfield 12, 3) := by decide +kernel
theorem dX4_moves_65 : decode cX4_moves 65 = .ok (.getfield 123, 3) := by decide +kernel
theorem dX4_moves_68 : decode cX4_moves 68 = .ok (.iload_n 1, 1) := by decide +kernel
theorem dX4_moves_69 : decode cX4_moves 69 = .ok (.iload_n 3, 1) := by decide +kernel
theorem dX4_moves_70 : decode cX4_moves 70 = .ok (.iastore, 1) := by decide +kernel
theorem dX4_moves_71 : decode cX4_moves 71 = .ok (.iconst 1, 1) := by decide +kernel
theorem dX4_moves_72 : decode cX4_moves 72 = .ok (.ireturn, 1) := by decide +kernel
theorem dX4_winds_0 : decode cX4_winds 0 = .ok (.iload_n 1, 1) := by decide +kernel
theorem dX4_winds_1 : decode cX4_winds 1 = .ok (.bipush (-99), 2) := by decide +kernel
theorem dX4_winds_3 : decode cX4_winds 3 = .ok (.if_icmp .lt 21, 3) := by decide +kernel
theorem dX4_winds_6 : decode cX4_winds 6 = .ok (.iload_n 1, 1) := by decide +kernel
theorem dX4_winds_7 : decode cX4_winds 7 = .ok (.bipush 99, 2) := by decide +kernel
theorem dX4_winds_9 : decode cX4_winds 9 = .ok (.if_icmp .gt 15, 3) := by decide +kernel
theorem dX4_winds_12 : decode cX4_winds 12 = .ok (.iload_n 2, 1) := by decide +kernel
theorem dX4_winds_13 : decode cX4_winds 13 = .ok (.bipush (-99), 2) := by decide +kernel
theorem dX4_winds_15 : decode cX4_winds 15 = .ok (.if_icmp .lt 9, 3) := by decide +kernel
theorem dX4_winds_18 : decode cX4_winds 18 = .ok (.iload_n 2, 1) := by decide +kernel
theorem dX4_winds_19 : decode cX4_winds 19 = .ok (.bipush 99, 2) := by decide +kernel
theorem dX4_winds_21 : decode cX4_winds 21 = .ok (.if_icmp .le 5, 3) := by decide +kernel
theorem dX4_winds_24 : decode cX4_winds 24 = .ok (.iconst (-1), 1) := by decide +kernel
theorem dX4_winds_25 : decode cX4_winds 25 = .ok (.ireturn, 1) := by decide +kernel
theorem dX4_winds_26 : decode cX4_winds 26 = .ok (.aload_n 0, 1) := by decide +kernel
theorem dX4_winds_27 : decode cX4_winds 27 = .ok (.getfield 12, 3) := by decide +kernel
theorem dX4_winds_30 : decode cX4_winds 30 = .ok (.getfield 126, 3) := by decide +kernel
theorem dX4_winds_33 : decode cX4_winds 33 = .ok (.iload_n 1, 1) := by decide +kernel
theorem dX4_winds_34 : decode cX4_winds 34 = .ok (.if_icmp .ne 17, 3) := by decide +kernel
theorem dX4_winds_37 : decode cX4_winds 37 = .ok (.aload_n 0, 1) := by decide +kernel
theorem dX4_winds_38 : decode cX4_winds 38 = .ok (.getfield 12, 3) := by decide +kernel
theorem dX4_winds_41 : decode cX4_winds 41 = .ok (.getfield 129, 3) := by decide +kernel
theorem dX4_winds_44 : decode cX4_winds 44 = .ok (.iload_n 2, 1) := by decide +kernel
theorem dX4_winds_45 : decode cX4_winds 45 = .ok (.if_icmp .ne 6, 3) := by decide +kernel
theorem dX4_winds_48 : decode cX4_winds 48 = .ok (.bipush (-2), 2) := by decide +kernel
theorem dX4_winds_50 : decode cX4_winds 50 = .ok (.ireturn, 1) := by decide +kernel
theorem dX4_winds_51 : decode cX4_winds 51 = .ok (.aload_n 0, 1) := by decide +kernel
theorem dX4_winds_52 : decode cX4_winds 52 = .ok (.invokevirtual 92, 3) := by decide +kernel
theorem dX4_winds_55 : decode cX4_winds 55 = .ok (.aload_n 0, 1) := by decide +kernel
theorem dX4_winds_56 : decode cX4_winds 56 = .ok (.getfield 12, 3) := by decide +kernel
theorem dX4_winds_59 : decode cX4_winds 59 = .ok (.iload_n 1, 1) := by decide +kernel
theorem dX4_winds_60 : decode cX4_winds 60 = .ok (.putfield 126, 3) := by decide +kernel
theorem dX4_winds_63 : decode cX4_winds 63 = .ok (.aload_n 0, 1) := by decide +kernel
theorem dX4_winds_64 : decode cX4_winds 64 = .ok (.getfield 12, 3) := by decide +kernel
theorem dX4_winds_67 : decode cX4_winds 67 = .ok (.iload_n 2, 1) := by decide +kernel
theorem dX4_winds_68 : decode cX4_winds 68 = .ok (.putfield 129, 3) := by decide +kernel
theorem dX4_winds_71 : decode cX4_winds 71 = .ok (.iconst 1, 1) := by decide +kernel
theorem dX4_winds_72 : decode cX4_winds 72 = .ok (.ireturn, 1) := by decide +kernel
theorem dX4_undo_0 : decode cX4_undo 0 = .ok (.aload_n 0, 1) := by decide +kernel
theorem dX4_undo_1 : decode cX4_undo 1 = .ok (.getfield 73, 3) := by decide +kernel
theorem dX4_undo_4 : decode cX4_undo 4 = .ok (.iconst 1, 1) := by decide +kernel
theorem dX4_undo_5 : decode cX4_undo 5 = .ok (.if_icmp .lt 12, 3) := by decide +kernel
theorem dX4_undo_8 : decode cX4_undo 8 = .ok (.aload_n 0, 1) := by decide +kernel
theorem dX4_undo_9 : decode cX4_undo 9 = .ok (.getfield 73, 3) := by decide +kernel
theorem dX4_undo_12 : decode cX4_undo 12 = .ok (.bipush 6, 2) := by decide +kernel
theorem dX4_undo_14 : decode cX4_undo 14 = .ok (.if_icmp .le 6, 3) := by decide +kernel
theorem dX4_undo_17 : decode cX4_undo 17 = .ok (.bipush (-2), 2) := by decide +kernel
theorem dX4_undo_19 : decode cX4_undo 19 = .ok (.ireturn, 1) := by decide +kernel
theorem dX4_undo_20 : decode cX4_undo 20 = .ok (.aload_n 0, 1) := by decide +kernel
theorem dX4_undo_21 : decode cX4_undo 21 = .ok (.dup, 1) := by decide +kernel
theorem dX4_undo_22 : decode cX4_undo 22 = .ok (.getfield 73, 3) := by decide +kernel
theorem dX4_undo_25 : decode cX4_undo 25 = .ok (.iconst 1, 1) := by decide +kernel
theorem dX4_undo_26 : decode cX4_undo 26 = .ok (.isub, 1) := by decide +kernel
theorem dX4_undo_27 : decode cX4_undo 27 = .ok (.putfield 73, 3) := by decide +kernel
theorem dX4_undo_30 : decode cX4_undo 30 = .ok (.aload_n 0, 1) := by decide +kernel
theorem dX4_undo_31 : decode cX4_undo 31 = .ok (.getfield 26, 3) := by decide +kernel
theorem dX4_undo_34 : decode cX4_undo 34 = .ok (.aload_n 0, 1) := by decide +kernel
theorem dX4_undo_35 : decode cX4_undo 35 = .ok (.getfield 73, 3) := by decide +kernel
theorem dX4_undo_38 : decode cX4_undo 38 = .ok (.aaload, 1) := by decide +kernel
theorem dX4_undo_39 : decode cX4_undo 39 = .ok (.aload_n 0, 1) := by decide +kernel
theorem dX4_undo_40 : decode cX4_undo 40 = .ok (.getfield 12, 3) := by decide +kernel
theorem dX4_undo_43 : decode cX4_undo 43 = .ok (.invokestatic 69, 3) := by decide +kernel
theorem dX4_undo_46 : decode cX4_undo 46 = .ok (.aload_n 0, 1) := by decide +kernel
theorem dX4_undo_47 : decode cX4_undo 47 = .ok (.getfield 73, 3) := by decide +kernel
theorem dX4_undo_50 : decode cX4_undo 50 = .ok (.ireturn, 1) := by decide +kernel
theorem dX4_pile_0 : decode cX4_pile 0 = .ok (.aload_n 0, 1) := by decide +kernel
theorem dX4_pile_1 : decode cX4_pile 1 = .ok (.iload_n 1, 1) := by decide +kernel
theorem dX4_pile_2 : decode cX4_pile 2 = .ok (.invokevirtual 99, 3) := by decide +kernel
theorem dX4_pile_5 : decode cX4_pile 5 = .ok (.ifCond .eq 12, 3) := by decide +kernel
theorem dX4_pile_8 : decode cX4_pile 8 = .ok (.iload_n 2, 1) := by decide +kernel
theorem dX4_pile_9 : decode cX4_pile 9 = .ok (.ifCond .lt 8, 3) := by decide +kernel
theorem dX4_pile_12 : decode cX4_pile 12 = .ok (.iload_n 2, 1) := by decide +kernel
theorem dX4_pile_13 : decode cX4_pile 13 = .ok (.iconst 5, 1) := by decide +kernel
theorem dX4_pile_14 : decode cX4_pile 14 = .ok (.if_icmp .le 7, 3) := by decide +kernel
theorem dX4_pile_17 : decode cX4_pile 17 = .ok (.ldc2_w 132, 3) := by decide +kernel
theorem dX4_pile_20 : decode cX4_pile 20 = .ok (.lreturn, 1) := by decide +kernel
theorem dX4_pile_21 : decode cX4_pile 21 = .ok (.iload_n 2, 1) := by decide +kernel
theorem dX4_pile_22 : decode cX4_pile 22 = .ok (.tableswitch 95 0 4 #[34, 45, 56, 67, 78], 34) := by decide +kernel
theorem dX4_pile_56 : decode cX4_pile 56 = .ok (.aload_n 0, 1) := by decide +kernel
theorem dX4_pile_57 : decode cX4_pile 57 = .ok (.getfield 12, 3) := by decide +kernel
theorem dX4_pile_60 : decode cX4_pile 60 = .ok (.getfield 134, 3) := by decide +kernel
theorem dX4_pile_63 : decode cX4_pile 63 = .ok (.iload_n 1, 1) := by decide +kernel
theorem dX4_pile_64 : decode cX4_pile 64 = .ok (.iaload, 1) := by decide +kernel
theorem dX4_pile_65 : decode cX4_pile 65 = .ok (.i2l, 1) := by decide +kernel
theorem dX4_pile_66 : decode cX4_pile 66 = .ok (.lreturn, 1) := by decide +kernel
theorem dX4_pile_67 : decode cX4_pile 67 = .ok (.aload_n 0, 1) := by decide +kernel
theorem dX4_pile_68 : decode cX4_pile 68 = .ok (.getfield 12, 3) := by decide +kernel
theorem dX4_pile_71 : decode cX4_pile 71 = .ok (.getfield 137, 3) := by decide +kernel
theorem dX4_pile_74 : decode cX4_pile 74 = .ok (.iload_n 1, 1) := by decide +kernel
theorem dX4_pile_75 : decode cX4_pile 75 = .ok (.iaload, 1) := by decide +kernel
theorem dX4_pile_76 : decode cX4_pile 76 = .ok (.i2l, 1) := by decide +kernel
theorem dX4_pile_77 : decode cX4_pile 77 = .ok (.lreturn, 1) := by decide +kernel
theorem dX4_pile_78 : decode cX4_pile 78 = .ok (.aload_n 0, 1) := by decide +kernel
theorem dX4_pile_79 : decode cX4_pile 79 = .ok (.getfield 12, 3) := by decide +kernel
theorem dX4_pile_82 : decode cX4_pile 82 = .ok (.getfield 140, 3) := by decide +kernel
theorem dX4_pile_85 : decode cX4_pile 85 = .ok (.iload_n 1, 1) := by decide +kernel
theorem dX4_pile_86 : decode cX4_pile 86 = .ok (.iaload, 1) := by decide +kernel
theorem dX4_pile_87 : decode cX4_pile 87 = .ok (.i2l, 1) := by decide +kernel
theorem dX4_pile_88 : decode cX4_pile 88 = .ok (.lreturn, 1) := by decide +kernel
theorem dX4_pile_89 : decode cX4_pile 89 = .ok (.aload_n 0, 1) := by decide +kernel
theorem dX4_pile_90 : decode cX4_pile 90 = .ok (.getfield 12, 3) := by decide +kernel
theorem dX4_pile_93 : decode cX4_pile 93 = .ok (.getfield 143, 3) := by decide +kernel
theorem dX4_pile_96 : decode cX4_pile 96 = .ok (.iload_n 1, 1) := by decide +kernel
theorem dX4_pile_97 : decode cX4_pile 97 = .ok (.iaload, 1) := by decide +kernel
theorem dX4_pile_98 : decode cX4_pile 98 = .ok (.i2l, 1) := by decide +kernel
theorem dX4_pile_99 : decode cX4_pile 99 = .ok (.lreturn, 1) := by decide +kernel
theorem dX4_pile_100 : decode cX4_pile 100 = .ok (.aload_n 0, 1) := by decide +kernel
theorem dX4_pile_101 : decode cX4_pile 101 = .ok (.getfield 12, 3) := by decide +kernel
theorem dX4_pile_104 : decode cX4_pile 104 = .ok (.iload_n 1, 1) := by decide +kernel
theorem dX4_pile_105 : decode cX4_pile 105 = .ok (.invokevirtual 102, 3) := by decide +kernel
theorem dX4_pile_108 : decode cX4_pile 108 = .ok (.ifCond .eq 7, 3) := by decide +kernel
theorem dX4_pile_111 : decode cX4_pile 111 = .ok (.lconst 1, 1) := by decide +kernel
theorem dX4_pile_112 : decode cX4_pile 112 = .ok (.goto 4, 3) := by decide +kernel
theorem dX4_pile_115 : decode cX4_pile 115 = .ok (.lconst 0, 1) := by decide +kernel
theorem dX4_pile_116 : decode cX4_pile 116 = .ok (.lreturn, 1) := by decide +kernel
theorem dX4_pile_117 : decode cX4_pile 117 = .ok (.aload_n 0, 1) := by decide +kernel
theorem dX4_pile_118 : decode cX4_pile 118 = .ok (.invokevirtual 146, 3) := by decide +kernel
theorem dX4_pile_121 : decode cX4_pile 121 = .ok (.aload_n 0, 1) := by decide +kernel
theorem dX4_pile_122 : decode cX4_pile 122 = .ok (.getfield 54, 3) := by decide +kernel
theorem dX4_pile_125 : decode cX4_pile 125 = .ok (.getfield 149, 3) := by decide +kernel
theorem dX4_pile_128 : decode cX4_pile 128 = .ok (.ifCond .eq 23, 3) := by decide +kernel
theorem dX4_pile_131 : decode cX4_pile 131 = .ok (.aload_n 0, 1) := by decide +kernel
theorem dX4_pile_132 : decode cX4_pile 132 = .ok (.getfield 54, 3) := by decide +kernel
theorem dX4_pile_135 : decode cX4_pile 135 = .ok (.iload_n 1, 1) := by decide +kernel
theorem dX4_pile_136 : decode cX4_pile 136 = .ok (.invokevirtual 153, 3) := by decide +kernel
theorem dX4_pile_139 : decode cX4_pile 139 = .ok (.ifCond .eq 7, 3) := by decide +kernel
theorem dX4_pile_142 : decode cX4_pile 142 = .ok (.iconst 1, 1) := by decide +kernel
theorem dX4_pile_143 : decode cX4_pile 143 = .ok (.goto 4, 3) := by decide +kernel
theorem dX4_pile_146 : decode cX4_pile 146 = .ok (.iconst 0, 1) := by decide +kernel
theorem dX4_pile_147 : decode cX4_pile 147 = .ok (.i2l, 1) := by decide +kernel
theorem dX4_pile_148 : decode cX4_pile 148 = .ok (.goto 6, 3) := by decide +kernel
theorem dX4_pile_151 : decode cX4_pile 151 = .ok (.ldc2_w 156, 3) := by decide +kernel
theorem dX4_pile_154 : decode cX4_pile 154 = .ok (.lreturn, 1) := by decide +kernel
theorem dX4_column_0 : decode cX4_column 0 = .ok (.aload_n 0, 1) := by decide +kernel
theorem dX4_column_1 : decode cX4_column 1 = .ok (.iload_n 1, 1) := by decide +kernel
theorem dX4_column_2 : decode cX4_column 2 = .ok (.invokevirtual 114, 3) := by decide +kernel
theorem dX4_column_5 : decode cX4_column 5 = .ok (.ifCond .eq 12, 3) := by decide +kernel
theorem dX4_column_8 : decode cX4_column 8 = .ok (.iload_n 2, 1) := by decide +kernel
theorem dX4_column_9 : decode cX4_column 9 = .ok (.ifCond .lt 8, 3) := by decide +kernel
theorem dX4_column_12 : decode cX4_column 12 = .ok (.iload_n 2, 1) := by decide +kernel
theorem dX4_column_13 : decode cX4_column 13 = .ok (.iconst 2, 1) := by decide +kernel
theorem dX4_column_14 : decode cX4_column 14 = .ok (.if_icmp .le 7, 3) := by decide +kernel
theorem dX4_column_17 : decode cX4_column 17 = .ok (.ldc2_w 132, 3) := by decide +kernel
theorem dX4_column_20 : decode cX4_column 20 = .ok (.lreturn, 1) := by decide +kernel
theorem dX4_column_21 : decode cX4_column 21 = .ok (.iload_n 2, 1) := by decide +kernel
theorem dX4_column_22 : decode cX4_column 22 = .ok (.lookupswitch 48 #[(0, 26), (1, 37)], 26) := by decide +kernel
theorem dX4_column_48 : decode cX4_column 48 = .ok (.aload_n 0, 1) := by decide +kernel
theorem dX4_column_49 : decode cX4_column 49 = .ok (.getfield 12, 3) := by decide +kernel
theorem dX4_column_52 : decode cX4_column 52 = .ok (.getfield 120, 3) := by decide +kernel
theorem dX4_column_55 : decode cX4_column 55 = .ok (.iload_n 1, 1) := by decide +kernel
theorem dX4_column_56 : decode cX4_column 56 = .ok (.iaload, 1) := by decide +kernel
theorem dX4_column_57 : decode cX4_column 57 = .ok (.i2l, 1) := by decide +kernel
theorem dX4_column_58 : decode cX4_column 58 = .ok (.lreturn, 1) := by decide +kernel
theorem dX4_column_59 : decode cX4_column 59 = .ok (.aload_n 0, 1) := by decide +kernel
theorem dX4_column_60 : decode cX4_column 60 = .ok (.getfield 12, 3) := by decide +kernel
theorem dX4_column_63 : decode cX4_column 63 = .ok (.getfield 123, 3) := by decide +kernel
theorem dX4_column_66 : decode cX4_column 66 = .ok (.iload_n 1, 1) := by decide +kernel
theorem dX4_column_67 : decode cX4_column 67 = .ok (.iaload, 1) := by decide +kernel
theorem dX4_column_68 : decode cX4_column 68 = .ok (.i2l, 1) := by decide +kernel
theorem dX4_column_69 : decode cX4_column 69 = .ok (.lreturn, 1) := by decide +kernel
theorem dX4_column_70 : decode cX4_column 70 = .ok (.aload_n 0, 1) := by decide +kernel
theorem dX4_column_71 : decode cX4_column 71 = .ok (.getfield 12, 3) := by decide +kernel
theorem dX4_column_74 : decode cX4_column 74 = .ok (.getfield 117, 3) := by decide +kernel
theorem dX4_column_77 : decode cX4_column 77 = .ok (.iload_n 1, 1) := by decide +kernel
theorem dX4_column_78 : decode cX4_column 78 = .ok (.iaload, 1) := by decide +kernel
theorem dX4_column_79 : decode cX4_column 79 = .ok (.i2l, 1) := by decide +kernel
theorem dX4_column_80 : decode cX4_column 80 = .ok (.lreturn, 1) := by decide +kernel
theorem dX4_sum_0 : decode cX4_sum 0 = .ok (.iload_n 1, 1) := by decide +kernel
theorem dX4_sum_1 : decode cX4_sum 1 = .ok (.tableswitch 80 0 4 #[35, 44, 53, 62, 71], 35) := by decide +kernel
theorem dX4_sum_36 : decode cX4_sum 36 = .ok (.aload_n 0, 1) := by decide +kernel
theorem dX4_sum_37 : decode cX4_sum 37 = .ok (.getfield 12, 3) := by decide +kernel
theorem dX4_sum_40 : decode cX4_sum 40 = .ok (.invokevirtual 158, 3) := by decide +kernel
theorem dX4_sum_43 : decode cX4_sum 43 = .ok (.i2l, 1) := by decide +kernel
theorem dX4_sum_44 : decode cX4_sum 44 = .ok (.lreturn, 1) := by decide +kernel
theorem dX4_sum_45 : decode cX4_sum 45 = .ok (.aload_n 0, 1) := by decide +kernel
theorem dX4_sum_46 : decode cX4_sum 46 = .ok (.getfield 12, 3) := by decide +kernel
theorem dX4_sum_49 : decode cX4_sum 49 = .ok (.invokevirtual 162, 3) := by decide +kernel
theorem dX4_sum_52 : decode cX4_sum 52 = .ok (.i2l, 1) := by decide +kernel
theorem dX4_sum_53 : decode cX4_sum 53 = .ok (.lreturn, 1) := by decide +kernel
theorem dX4_sum_54 : decode cX4_sum 54 = .ok (.aload_n 0, 1) := by decide +kernel
theorem dX4_sum_55 : decode cX4_sum 55 = .ok (.getfield 12, 3) := by decide +kernel
theorem dX4_sum_58 : decode cX4_sum 58 = .ok (.invokevirtual 165, 3) := by decide +kernel
theorem dX4_sum_61 : decode cX4_sum 61 = .ok (.i2l, 1) := by decide +kernel
theorem dX4_sum_62 : decode cX4_sum 62 = .ok (.lreturn, 1) := by decide +kernel
theorem dX4_sum_63 : decode cX4_sum 63 = .ok (.aload_n 0, 1) := by decide +kernel
theorem dX4_sum_64 : decode cX4_sum 64 = .ok (.getfield 12, 3) := by decide +kernel
theorem dX4_sum_67 : decode cX4_sum 67 = .ok (.getfield 126, 3) := by decide +kernel
theorem dX4_sum_70 : decode cX4_sum 70 = .ok (.i2l, 1) := by decide +kernel
theorem dX4_sum_71 : decode cX4_sum 71 = .ok (.lreturn, 1) := by decide +kernel
theorem dX4_sum_72 : decode cX4_sum 72 = .ok (.aload_n 0, 1) := by decide +kernel
theorem dX4_sum_73 : decode cX4_sum 73 = .ok (.getfield 12, 3) := by decide +kernel
theorem dX4_sum_76 : decode cX4_sum 76 = .ok (.getfield 129, 3) := by decide +kernel
theorem dX4_sum_79 : decode cX4_sum 79 = .ok (.i2l, 1) := by decide +kernel
theorem dX4_sum_80 : decode cX4_sum 80 = .ok (.lreturn, 1) := by decide +kernel
theorem dX4_sum_81 : decode cX4_sum 81 = .ok (.ldc2_w 132, 3) := by decide +kernel
theorem dX4_sum_84 : decode cX4_sum 84 = .ok (.lreturn, 1) := by decide +kernel
theorem dX4_sharing_0 : decode cX4_sharing 0 = .ok (.iload_n 1, 1) := by decide +kernel
theorem dX4_sharing_1 : decode cX4_sharing 1 = .ok (.ifCond .lt 8, 3) := by decide +kernel
theorem dX4_sharing_4 : decode cX4_sharing 4 = .ok (.iload_n 1, 1) := by decide +kernel
theorem dX4_sharing_5 : decode cX4_sharing 5 = .ok (.iconst 2, 1) := by decide +kernel
theorem dX4_sharing_6 : decode cX4_sharing 6 = .ok (.if_icmp .le 5, 3) := by decide +kernel
theorem dX4_sharing_9 : decode cX4_sharing 9 = .ok (.iconst (-1), 1) := by decide +kernel
theorem dX4_sharing_10 : decode cX4_sharing 10 = .ok (.ireturn, 1) := by decide +kernel
theorem dX4_sharing_11 : decode cX4_sharing 11 = .ok (.aload_n 0, 1) := by decide +kernel
theorem dX4_sharing_12 : decode cX4_sharing 12 = .ok (.invokevirtual 146, 3) := by decide +kernel
theorem dX4_sharing_15 : decode cX4_sharing 15 = .ok (.iload_n 1, 1) := by decide +kernel
theorem dX4_sharing_16 : decode cX4_sharing 16 = .ok (.lookupswitch 52 #[(0, 28), (1, 36)], 28) := by decide +kernel
theorem dX4_sharing_44 : decode cX4_sharing 44 = .ok (.aload_n 0, 1) := by decide +kernel
theorem dX4_sharing_45 : decode cX4_sharing 45 = .ok (.getfield 54, 3) := by decide +kernel
theorem dX4_sharing_48 : decode cX4_sharing 48 = .ok (.getfield 168, 3) := by decide +kernel
theorem dX4_sharing_51 : decode cX4_sharing 51 = .ok (.ireturn, 1) := by decide +kernel
theorem dX4_sharing_52 : decode cX4_sharing 52 = .ok (.aload_n 0, 1) := by decide +kernel
theorem dX4_sharing_53 : decode cX4_sharing 53 = .ok (.getfield 54, 3) := by decide +kernel
theorem dX4_sharing_56 : decode cX4_sharing 56 = .ok (.getfield 149, 3) := by decide +kernel
theorem dX4_sharing_59 : decode cX4_sharing 59 = .ok (.ifCond .eq 7, 3) := by decide +kernel
theorem dX4_sharing_62 : decode cX4_sharing 62 = .ok (.iconst 1, 1) := by decide +kernel
theorem dX4_sharing_63 : decode cX4_sharing 63 = .ok (.goto 4, 3) := by decide +kernel
theorem dX4_sharing_66 : decode cX4_sharing 66 = .ok (.iconst 0, 1) := by decide +kernel
theorem dX4_sharing_67 : decode cX4_sharing 67 = .ok (.ireturn, 1) := by decide +kernel
theorem dX4_sharing_68 : decode cX4_sharing 68 = .ok (.aload_n 0, 1) := by decide +kernel
theorem dX4_sharing_69 : decode cX4_sharing 69 = .ok (.getfield 54, 3) := by decide +kernel
theorem dX4_sharing_72 : decode cX4_sharing 72 = .ok (.getfield 149, 3) := by decide +kernel
theorem dX4_sharing_75 : decode cX4_sharing 75 = .ok (.ifCond .eq 23, 3) := by decide +kernel
theorem dX4_sharing_78 : decode cX4_sharing 78 = .ok (.aload_n 0, 1) := by decide +kernel
theorem dX4_sharing_79 : decode cX4_sharing 79 = .ok (.getfield 54, 3) := by decide +kernel
theorem dX4_sharing_82 : decode cX4_sharing 82 = .ok (.getfield 171, 3) := by decide +kernel
theorem dX4_sharing_85 : decode cX4_sharing 85 = .ok (.aload_n 0, 1) := by decide +kernel
theorem dX4_sharing_86 : decode cX4_sharing 86 = .ok (.getfield 54, 3) := by decide +kernel
theorem dX4_sharing_89 : decode cX4_sharing 89 = .ok (.getfield 174, 3) := by decide +kernel
theorem dX4_sharing_92 : decode cX4_sharing 92 = .ok (.iconst (-1), 1) := by decide +kernel
theorem dX4_sharing_93 : decode cX4_sharing 93 = .ok (.ixor, 1) := by decide +kernel
theorem dX4_sharing_94 : decode cX4_sharing 94 = .ok (.iand, 1) := by decide +kernel
theorem dX4_sharing_95 : decode cX4_sharing 95 = .ok (.goto 5, 3) := by decide +kernel
theorem dX4_sharing_98 : decode cX4_sharing 98 = .ok (.bipush (-9), 2) := by decide +kernel
theorem dX4_sharing_100 : decode cX4_sharing 100 = .ok (.ireturn, 1) := by decide +kernel
theorem dX4_share_0 : decode cX4_share 0 = .ok (.aload_n 0, 1) := by decide +kernel
theorem dX4_share_1 : decode cX4_share 1 = .ok (.iload_n 1, 1) := by decide +kernel
theorem dX4_share_2 : decode cX4_share 2 = .ok (.invokevirtual 99, 3) := by decide +kernel
theorem dX4_share_5 : decode cX4_share 5 = .ok (.ifCond .eq 12, 3) := by decide +kernel
theorem dX4_share_8 : decode cX4_share 8 = .ok (.iload_n 2, 1) := by decide +kernel
theorem dX4_share_9 : decode cX4_share 9 = .ok (.ifCond .lt 8, 3) := by decide +kernel
theorem dX4_share_12 : decode cX4_share 12 = .ok (.iload_n 2, 1) := by decide +kernel
theorem dX4_share_13 : decode cX4_share 13 = .ok (.iconst 2, 1) := by decide +kernel
theorem dX4_share_14 : decode cX4_share 14 = .ok (.if_icmp .le 7, 3) := by decide +kernel
theorem dX4_share_17 : decode cX4_share 17 = .ok (.ldc2_w 132, 3) := by decide +kernel
theorem dX4_share_20 : decode cX4_share 20 = .ok (.lreturn, 1) := by decide +kernel
theorem dX4_share_21 : decode cX4_share 21 = .ok (.aload_n 0, 1) := by decide +kernel
theorem dX4_share_22 : decode cX4_share 22 = .ok (.invokevirtual 146, 3) := by decide +kernel
theorem dX4_share_25 : decode cX4_share 25 = .ok (.aload_n 0, 1) := by decide +kernel
theorem dX4_share_26 : decode cX4_share 26 = .ok (.getfield 54, 3) := by decide +kernel
theorem dX4_share_29 : decode cX4_share 29 = .ok (.getfield 149, 3) := by decide +kernel
theorem dX4_share_32 : decode cX4_share 32 = .ok (.ifCond .ne 7, 3) := by decide +kernel
theorem dX4_share_35 : decode cX4_share 35 = .ok (.ldc2_w 177, 3) := by decide +kernel
theorem dX4_share_38 : decode cX4_share 38 = .ok (.lreturn, 1) := by decide +kernel
theorem dX4_share_39 : decode cX4_share 39 = .ok (.iload_n 2, 1) := by decide +kernel
theorem dX4_share_40 : decode cX4_share 40 = .ok (.iconst 2, 1) := by decide +kernel
theorem dX4_share_41 : decode cX4_share 41 = .ok (.if_icmp .ne 12, 3) := by decide +kernel
theorem dX4_share_44 : decode cX4_share 44 = .ok (.aload_n 0, 1) := by decide +kernel
theorem dX4_share_45 : decode cX4_share 45 = .ok (.getfield 54, 3) := by decide +kernel
theorem dX4_share_48 : decode cX4_share 48 = .ok (.iload_n 1, 1) := by decide +kernel
theorem dX4_share_49 : decode cX4_share 49 = .ok (.invokevirtual 179, 3) := by decide +kernel
theorem dX4_share_52 : decode cX4_share 52 = .ok (.lreturn, 1) := by decide +kernel
theorem dX4_share_53 : decode cX4_share 53 = .ok (.aload_n 0, 1) := by decide +kernel
theorem dX4_share_54 : decode cX4_share 54 = .ok (.getfield 54, 3) := by decide +kernel
theorem dX4_share_57 : decode cX4_share 57 = .ok (.iload_n 1, 1) := by decide +kernel
theorem dX4_share_58 : decode cX4_share 58 = .ok (.invokevirtual 183, 3) := by decide +kernel
theorem dX4_share_61 : decode cX4_share 61 = .ok (.aload_n 0, 1) := by decide +kernel
theorem dX4_share_62 : decode cX4_share 62 = .ok (.getfield 54, 3) := by decide +kernel
theorem dX4_share_65 : decode cX4_share 65 = .ok (.invokevirtual 186, 3) := by decide +kernel
theorem dX4_share_68 : decode cX4_share 68 = .ok (.iload_n 2, 1) := by decide +kernel
theorem dX4_share_69 : decode cX4_share 69 = .ok (.invokestatic 190, 3) := by decide +kernel
theorem dX4_share_72 : decode cX4_share 72 = .ok (.lreturn, 1) := by decide +kernel
theorem dX4_press_0 : decode cX4_press 0 = .ok (.iload_n 1, 1) := by decide +kernel
theorem dX4_press_1 : decode cX4_press 1 = .ok (.iload_n 2, 1) := by decide +kernel
theorem dX4_press_2 : decode cX4_press 2 = .ok (.invokestatic 79, 3) := by decide +kernel
theorem dX4_press_5 : decode cX4_press 5 = .ok (.ifCond .eq 12, 3) := by decide +kernel
theorem dX4_press_8 : decode cX4_press 8 = .ok (.iload_n 3, 1) := by decide +kernel
theorem dX4_press_9 : decode cX4_press 9 = .ok (.ifCond .lt 8, 3) := by decide +kernel
theorem dX4_press_12 : decode cX4_press 12 = .ok (.iload_n 3, 1) := by decide +kernel
theorem dX4_press_13 : decode cX4_press 13 = .ok (.iconst 1, 1) := by decide +kernel
theorem dX4_press_14 : decode cX4_press 14 = .ok (.if_icmp .le 7, 3) := by decide +kernel
theorem dX4_press_17 : decode cX4_press 17 = .ok (.ldc2_w 132, 3) := by decide +kernel
theorem dX4_press_20 : decode cX4_press 20 = .ok (.lreturn, 1) := by decide +kernel
theorem dX4_press_21 : decode cX4_press 21 = .ok (.aload_n 0, 1) := by decide +kernel
theorem dX4_press_22 : decode cX4_press 22 = .ok (.invokevirtual 146, 3) := by decide +kernel
theorem dX4_press_25 : decode cX4_press 25 = .ok (.aload_n 0, 1) := by decide +kernel
theorem dX4_press_26 : decode cX4_press 26 = .ok (.getfield 54, 3) := by decide +kernel
theorem dX4_press_29 : decode cX4_press 29 = .ok (.getfield 149, 3) := by decide +kernel
theorem dX4_press_32 : decode cX4_press 32 = .ok (.ifCond .ne 7, 3) := by decide +kernel
theorem dX4_press_35 : decode cX4_press 35 = .ok (.ldc2_w 177, 3) := by decide +kernel
theorem dX4_press_38 : decode cX4_press 38 = .ok (.lreturn, 1) := by decide +kernel
theorem dX4_press_39 : decode cX4_press 39 = .ok (.aload_n 0, 1) := by decide +kernel
theorem dX4_press_40 : decode cX4_press 40 = .ok (.getfield 54, 3) := by decide +kernel
theorem dX4_press_43 : decode cX4_press 43 = .ok (.getfield 194, 3) := by decide +kernel
theorem dX4_press_46 : decode cX4_press 46 = .ok (.iload_n 1, 1) := by decide +kernel
theorem dX4_press_47 : decode cX4_press 47 = .ok (.iload_n 2, 1) := by decide +kernel
theorem dX4_press_48 : decode cX4_press 48 = .ok (.invokevirtual 198, 3) := by decide +kernel
theorem dX4_press_51 : decode cX4_press 51 = .ok (.aload_n 0, 1) := by decide +kernel
theorem dX4_press_52 : decode cX4_press 52 = .ok (.getfield 54, 3) := by decide +kernel
theorem dX4_press_55 : decode cX4_press 55 = .ok (.invokevirtual 186, 3) := by decide +kernel
theorem dX4_press_58 : decode cX4_press 58 = .ok (.iload_n 3, 1) := by decide +kernel
theorem dX4_press_59 : decode cX4_press 59 = .ok (.invokestatic 190, 3) := by decide +kernel
theorem dX4_press_62 : decode cX4_press 62 = .ok (.lreturn, 1) := by decide +kernel
theorem dX4_most_0 : decode cX4_most 0 = .ok (.iload_n 1, 1) := by decide +kernel
theorem dX4_most_1 : decode cX4_most 1 = .ok (.ifCond .lt 8, 3) := by decide +kernel
theorem dX4_most_4 : decode cX4_most 4 = .ok (.iload_n 1, 1) := by decide +kernel
theorem dX4_most_5 : decode cX4_most 5 = .ok (.iconst 2, 1) := by decide +kernel
theorem dX4_most_6 : decode cX4_most 6 = .ok (.if_icmp .le 7, 3) := by decide +kernel
theorem dX4_most_9 : decode cX4_most 9 = .ok (.ldc2_w 204, 3) := by decide +kernel
theorem dX4_most_12 : decode cX4_most 12 = .ok (.lreturn, 1) := by decide +kernel
theorem dX4_most_13 : decode cX4_most 13 = .ok (.aload_n 0, 1) := by decide +kernel
theorem dX4_most_14 : decode cX4_most 14 = .ok (.invokevirtual 146, 3) := by decide +kernel
theorem dX4_most_17 : decode cX4_most 17 = .ok (.aload_n 0, 1) := by decide +kernel
theorem dX4_most_18 : decode cX4_most 18 = .ok (.iload_n 1, 1) := by decide +kernel
theorem dX4_most_19 : decode cX4_most 19 = .ok (.invokevirtual 206, 3) := by decide +kernel
theorem dX4_most_22 : decode cX4_most 22 = .ok (.lreturn, 1) := by decide +kernel
theorem dX4_factor_0 : decode cX4_factor 0 = .ok (.iload_n 1, 1) := by decide +kernel
theorem dX4_factor_1 : decode cX4_factor 1 = .ok (.ifCond .lt 8, 3) := by decide +kernel
theorem dX4_factor_4 : decode cX4_factor 4 = .ok (.iload_n 1, 1) := by decide +kernel
theorem dX4_factor_5 : decode cX4_factor 5 = .ok (.iconst 1, 1) := by decide +kernel
theorem dX4_factor_6 : decode cX4_factor 6 = .ok (.if_icmp .le 7, 3) := by decide +kernel
theorem dX4_factor_9 : decode cX4_factor 9 = .ok (.ldc2_w 204, 3) := by decide +kernel
theorem dX4_factor_12 : decode cX4_factor 12 = .ok (.lreturn, 1) := by decide +kernel
theorem dX4_factor_13 : decode cX4_factor 13 = .ok (.aload_n 0, 1) := by decide +kernel
theorem dX4_factor_14 : decode cX4_factor 14 = .ok (.invokevirtual 146, 3) := by decide +kernel
theorem dX4_factor_17 : decode cX4_factor 17 = .ok (.aload_n 0, 1) := by decide +kernel
theorem dX4_factor_18 : decode cX4_factor 18 = .ok (.getfield 54, 3) := by decide +kernel
theorem dX4_factor_21 : decode cX4_factor 21 = .ok (.getfield 149, 3) := by decide +kernel
theorem dX4_factor_24 : decode cX4_factor 24 = .ok (.ifCond .eq 15, 3) := by decide +kernel
theorem dX4_factor_27 : decode cX4_factor 27 = .ok (.aload_n 0, 1) := by decide +kernel
theorem dX4_factor_28 : decode cX4_factor 28 = .ok (.getfield 54, 3) := by decide +kernel
theorem dX4_factor_31 : decode cX4_factor 31 = .ok (.invokevirtual 209, 3) := by decide +kernel
theorem dX4_factor_34 : decode cX4_factor 34 = .ok (.lconst 0, 1) := by decide +kernel
theorem dX4_factor_35 : decode cX4_factor 35 = .ok (.lcmp, 1) := by decide +kernel
theorem dX4_factor_36 : decode cX4_factor 36 = .ok (.ifCond .ne 7, 3) := by decide +kernel
theorem dX4_factor_39 : decode cX4_factor 39 = .ok (.ldc2_w 156, 3) := by decide +kernel
theorem dX4_factor_42 : decode cX4_factor 42 = .ok (.lreturn, 1) := by decide +kernel
theorem dX4_factor_43 : decode cX4_factor 43 = .ok (.aload_n 0, 1) := by decide +kernel
theorem dX4_factor_44 : decode cX4_factor 44 = .ok (.getfield 54, 3) := by decide +kernel
theorem dX4_factor_47 : decode cX4_factor 47 = .ok (.invokevirtual 212, 3) := by decide +kernel
theorem dX4_factor_50 : decode cX4_factor 50 = .ok (.aload_n 0, 1) := by decide +kernel
theorem dX4_factor_51 : decode cX4_factor 51 = .ok (.getfield 54, 3) := by decide +kernel
theorem dX4_factor_54 : decode cX4_factor 54 = .ok (.invokevirtual 209, 3) := by decide +kernel
theorem dX4_factor_57 : decode cX4_factor 57 = .ok (.iload_n 1, 1) := by decide +kernel
theorem dX4_factor_58 : decode cX4_factor 58 = .ok (.invokestatic 190, 3) := by decide +kernel
theorem dX4_factor_61 : decode cX4_factor 61 = .ok (.lreturn, 1) := by decide +kernel
theorem dX4_kern_0 : decode cX4_kern 0 = .ok (.iload_n 1, 1) := by decide +kernel
theorem dX4_kern_1 : decode cX4_kern 1 = .ok (.iload_n 2, 1) := by decide +kernel
theorem dX4_kern_2 : decode cX4_kern 2 = .ok (.invokestatic 79, 3) := by decide +kernel
theorem dX4_kern_5 : decode cX4_kern 5 = .ok (.ifCond .ne 5, 3) := by decide +kernel
theorem dX4_kern_8 : decode cX4_kern 8 = .ok (.iconst (-1), 1) := by decide +kernel
theorem dX4_kern_9 : decode cX4_kern 9 = .ok (.ireturn, 1) := by decide +kernel
theorem dX4_kern_10 : decode cX4_kern 10 = .ok (.aload_n 0, 1) := by decide +kernel
theorem dX4_kern_11 : decode cX4_kern 11 = .ok (.invokevirtual 215, 3) := by decide +kernel
theorem dX4_kern_14 : decode cX4_kern 14 = .ok (.ifCond .ne 6, 3) := by decide +kernel
theorem dX4_kern_17 : decode cX4_kern 17 = .ok (.bipush (-9), 2) := by decide +kernel
theorem dX4_kern_19 : decode cX4_kern 19 = .ok (.ireturn, 1) := by decide +kernel
theorem dX4_kern_20 : decode cX4_kern 20 = .ok (.aload_n 0, 1) := by decide +kernel
theorem dX4_kern_21 : decode cX4_kern 21 = .ok (.getfield 54, 3) := by decide +kernel
theorem dX4_kern_24 : decode cX4_kern 24 = .ok (.iload_n 1, 1) := by decide +kernel
theorem dX4_kern_25 : decode cX4_kern 25 = .ok (.iload_n 2, 1) := by decide +kernel
theorem dX4_kern_26 : decode cX4_kern 26 = .ok (.invokevirtual 219, 3) := by decide +kernel
theorem dX4_kern_29 : decode cX4_kern 29 = .ok (.ifCond .eq 7, 3) := by decide +kernel
theorem dX4_kern_32 : decode cX4_kern 32 = .ok (.iconst 1, 1) := by decide +kernel
theorem dX4_kern_33 : decode cX4_kern 33 = .ok (.goto 4, 3) := by decide +kernel
theorem dX4_kern_36 : decode cX4_kern 36 = .ok (.iconst 0, 1) := by decide +kernel
theorem dX4_kern_37 : decode cX4_kern 37 = .ok (.ireturn, 1) := by decide +kernel
theorem dX4_kerns_0 : decode cX4_kerns 0 = .ok (.iload_n 1, 1) := by decide +kernel
theorem dX4_kerns_1 : decode cX4_kerns 1 = .ok (.ifCond .lt 8, 3) := by decide +kernel
theorem dX4_kerns_4 : decode cX4_kerns 4 = .ok (.iload_n 1, 1) := by decide +kernel
theorem dX4_kerns_5 : decode cX4_kerns 5 = .ok (.iconst 1, 1) := by decide +kernel
theorem dX4_kerns_6 : decode cX4_kerns 6 = .ok (.if_icmp .le 5, 3) := by decide +kernel
theorem dX4_kerns_9 : decode cX4_kerns 9 = .ok (.iconst (-1), 1) := by decide +kernel
theorem dX4_kerns_10 : decode cX4_kerns 10 = .ok (.ireturn, 1) := by decide +kernel
theorem dX4_kerns_11 : decode cX4_kerns 11 = .ok (.aload_n 0, 1) := by decide +kernel
theorem dX4_kerns_12 : decode cX4_kerns 12 = .ok (.invokevirtual 215, 3) := by decide +kernel
theorem dX4_kerns_15 : decode cX4_kerns 15 = .ok (.ifCond .ne 6, 3) := by decide +kernel
theorem dX4_kerns_18 : decode cX4_kerns 18 = .ok (.bipush (-9), 2) := by decide +kernel
theorem dX4_kerns_20 : decode cX4_kerns 20 = .ok (.ireturn, 1) := by decide +kernel
theorem dX4_kerns_21 : decode cX4_kerns 21 = .ok (.iconst 0, 1) := by decide +kernel
theorem dX4_kerns_22 : decode cX4_kerns 22 = .ok (.istore_n 2, 1) := by decide +kernel
theorem dX4_kerns_23 : decode cX4_kerns 23 = .ok (.bipush (-9), 2) := by decide +kernel
theorem dX4_kerns_25 : decode cX4_kerns 25 = .ok (.istore_n 3, 1) := by decide +kernel
theorem dX4_kerns_26 : decode cX4_kerns 26 = .ok (.iconst 0, 1) := by decide +kernel
theorem dX4_kerns_27 : decode cX4_kerns 27 = .ok (.istore 4, 2) := by decide +kernel
theorem dX4_kerns_29 : decode cX4_kerns 29 = .ok (.iload 4, 2) := by decide +kernel
theorem dX4_kerns_31 : decode cX4_kerns 31 = .ok (.sipush 361, 3) := by decide +kernel
theorem dX4_kerns_34 : decode cX4_kerns 34 = .ok (.if_icmp .ge 41, 3) := by decide +kernel
theorem dX4_kerns_37 : decode cX4_kerns 37 = .ok (.aload_n 0, 1) := by decide +kernel
theorem dX4_kerns_38 : decode cX4_kerns 38 = .ok (.getfield 54, 3) := by decide +kernel
theorem dX4_kerns_41 : decode cX4_kerns 41 = .ok (.iload 4, 2) := by decide +kernel
theorem dX4_kerns_43 : decode cX4_kerns 43 = .ok (.invokestatic 222, 3) := by decide +kernel
theorem dX4_kerns_46 : decode cX4_kerns 46 = .ok (.iload 4, 2) := by decide +kernel
theorem dX4_kerns_48 : decode cX4_kerns 48 = .ok (.invokestatic 225, 3) := by decide +kernel
theorem dX4_kerns_51 : decode cX4_kerns 51 = .ok (.invokevirtual 219, 3) := by decide +kernel
theorem dX4_kerns_54 : decode cX4_kerns 54 = .ok (.ifCond .eq 15, 3) := by decide +kernel
theorem dX4_kerns_57 : decode cX4_kerns 57 = .ok (.iinc 2 1, 3) := by decide +kernel
theorem dX4_kerns_60 : decode cX4_kerns 60 = .ok (.iload_n 3, 1) := by decide +kernel
theorem dX4_kerns_61 : decode cX4_kerns 61 = .ok (.bipush (-9), 2) := by decide +kernel
theorem dX4_kerns_63 : decode cX4_kerns 63 = .ok (.if_icmp .ne 6, 3) := by decide +kernel
theorem dX4_kerns_66 : decode cX4_kerns 66 = .ok (.iload 4, 2) := by decide +kernel
theorem dX4_kerns_68 : decode cX4_kerns 68 = .ok (.istore_n 3, 1) := by decide +kernel
theorem dX4_kerns_69 : decode cX4_kerns 69 = .ok (.iinc 4 1, 3) := by decide +kernel
theorem dX4_kerns_72 : decode cX4_kerns 72 = .ok (.goto (-43), 3) := by decide +kernel
theorem dX4_kerns_75 : decode cX4_kerns 75 = .ok (.iload_n 1, 1) := by decide +kernel
theorem dX4_kerns_76 : decode cX4_kerns 76 = .ok (.ifCond .ne 7, 3) := by decide +kernel
theorem dX4_kerns_79 : decode cX4_kerns 79 = .ok (.iload_n 2, 1) := by decide +kernel
theorem dX4_kerns_80 : decode cX4_kerns 80 = .ok (.goto 4, 3) := by decide +kernel
theorem dX4_kerns_83 : decode cX4_kerns 83 = .ok (.iload_n 3, 1) := by decide +kernel
theorem dX4_kerns_84 : decode cX4_kerns 84 = .ok (.ireturn, 1) := by decide +kernel
theorem dX4_without_0 : decode cX4_without 0 = .ok (.aload_n 0, 1) := by decide +kernel
theorem dX4_without_1 : decode cX4_without 1 = .ok (.iload_n 1, 1) := by decide +kernel
theorem dX4_without_2 : decode cX4_without 2 = .ok (.invokevirtual 99, 3) := by decide +kernel
theorem dX4_without_5 : decode cX4_without 5 = .ok (.ifCond .eq 12, 3) := by decide +kernel
theorem dX4_without_8 : decode cX4_without 8 = .ok (.iload_n 2, 1) := by decide +kernel
theorem dX4_without_9 : decode cX4_without 9 = .ok (.ifCond .lt 8, 3) := by decide +kernel
theorem dX4_without_12 : decode cX4_without 12 = .ok (.iload_n 2, 1) := by decide +kernel
theorem dX4_without_13 : decode cX4_without 13 = .ok (.iconst 2, 1) := by decide +kernel
theorem dX4_without_14 : decode cX4_without 14 = .ok (.if_icmp .le 7, 3) := by decide +kernel
theorem dX4_without_17 : decode cX4_without 17 = .ok (.ldc2_w 204, 3) := by decide +kernel
theorem dX4_without_20 : decode cX4_without 20 = .ok (.lreturn, 1) := by decide +kernel
theorem dX4_without_21 : decode cX4_without 21 = .ok (.aload_n 0, 1) := by decide +kernel
theorem dX4_without_22 : decode cX4_without 22 = .ok (.getfield 12, 3) := by decide +kernel
theorem dX4_without_25 : decode cX4_without 25 = .ok (.iload_n 1, 1) := by decide +kernel
theorem dX4_without_26 : decode cX4_without 26 = .ok (.invokevirtual 102, 3) := by decide +kernel
theorem dX4_without_29 : decode cX4_without 29 = .ok (.ifCond .ne 7, 3) := by decide +kernel
theorem dX4_without_32 : decode cX4_without 32 = .ok (.ldc2_w 228, 3) := by decide +kernel
theorem dX4_without_35 : decode cX4_without 35 = .ok (.lreturn, 1) := by decide +kernel
theorem dX4_without_36 : decode cX4_without 36 = .ok (.aload_n 0, 1) := by decide +kernel
theorem dX4_without_37 : decode cX4_without 37 = .ok (.invokevirtual 230, 3) := by decide +kernel
theorem dX4_without_40 : decode cX4_without 40 = .ok (.aload_n 0, 1) := by decide +kernel
theorem dX4_without_41 : decode cX4_without 41 = .ok (.getfield 54, 3) := by decide +kernel
theorem dX4_without_44 : decode cX4_without 44 = .ok (.aload_n 0, 1) := by decide +kernel
theorem dX4_without_45 : decode cX4_without 45 = .ok (.getfield 12, 3) := by decide +kernel
theorem dX4_without_48 : decode cX4_without 48 = .ok (.getfield 105, 3) := by decide +kernel
theorem dX4_without_51 : decode cX4_without 51 = .ok (.iconst 1, 1) := by decide +kernel
theorem dX4_without_52 : decode cX4_without 52 = .ok (.iload_n 1, 1) := by decide +kernel
theorem dX4_without_53 : decode cX4_without 53 = .ok (.ishl, 1) := by decide +kernel
theorem dX4_without_54 : decode cX4_without 54 = .ok (.iconst (-1), 1) := by decide +kernel
theorem dX4_without_55 : decode cX4_without 55 = .ok (.ixor, 1) := by decide +kernel
theorem dX4_without_56 : decode cX4_without 56 = .ok (.iand, 1) := by decide +kernel
theorem dX4_without_57 : decode cX4_without 57 = .ok (.invokevirtual 233, 3) := by decide +kernel
theorem dX4_without_60 : decode cX4_without 60 = .ok (.aload_n 0, 1) := by decide +kernel
theorem dX4_without_61 : decode cX4_without 61 = .ok (.iload_n 2, 1) := by decide +kernel
theorem dX4_without_62 : decode cX4_without 62 = .ok (.invokevirtual 206, 3) := by decide +kernel
theorem dX4_without_65 : decode cX4_without 65 = .ok (.lreturn, 1) := by decide +kernel
theorem dX4_key_0 : decode cX4_key 0 = .ok (.aload_n 0, 1) := by decide +kernel
theorem dX4_key_1 : decode cX4_key 1 = .ok (.invokevirtual 230, 3) := by decide +kernel
theorem dX4_key_4 : decode cX4_key 4 = .ok (.bipush (-9), 2) := by decide +kernel
theorem dX4_key_6 : decode cX4_key 6 = .ok (.istore_n 1, 1) := by decide +kernel
theorem dX4_key_7 : decode cX4_key 7 = .ok (.lconst 0, 1) := by decide +kernel
theorem dX4_key_8 : decode cX4_key 8 = .ok (.lstore_n 2, 1) := by decide +kernel
theorem dX4_key_9 : decode cX4_key 9 = .ok (.lconst 1, 1) := by decide +kernel
theorem dX4_key_10 : decode cX4_key 10 = .ok (.lstore 4, 2) := by decide +kernel
theorem dX4_key_12 : decode cX4_key 12 = .ok (.iconst 0, 1) := by decide +kernel
theorem dX4_key_13 : decode cX4_key 13 = .ok (.istore 6, 2) := by decide +kernel
theorem dX4_key_15 : decode cX4_key 15 = .ok (.iload 6, 2) := by decide +kernel
theorem dX4_key_17 : decode cX4_key 17 = .ok (.aload_n 0, 1) := by decide +kernel
theorem dX4_key_18 : decode cX4_key 18 = .ok (.getfield 12, 3) := by decide +kernel
theorem dX4_key_21 : decode cX4_key 21 = .ok (.getfield 89, 3) := by decide +kernel
theorem dX4_key_24 : decode cX4_key 24 = .ok (.if_icmp .ge 107, 3) := by decide +kernel
theorem dX4_key_27 : decode cX4_key 27 = .ok (.aload_n 0, 1) := by decide +kernel
theorem dX4_key_28 : decode cX4_key 28 = .ok (.getfield 12, 3) := by decide +kernel
theorem dX4_key_31 : decode cX4_key 31 = .ok (.iload 6, 2) := by decide +kernel
theorem dX4_key_33 : decode cX4_key 33 = .ok (.invokevirtual 102, 3) := by decide +kernel
theorem dX4_key_36 : decode cX4_key 36 = .ok (.ifCond .ne 6, 3) := by decide +kernel
theorem dX4_key_39 : decode cX4_key 39 = .ok (.goto 86, 3) := by decide +kernel
theorem dX4_key_42 : decode cX4_key 42 = .ok (.aload_n 0, 1) := by decide +kernel
theorem dX4_key_43 : decode cX4_key 43 = .ok (.getfield 54, 3) := by decide +kernel
theorem dX4_key_46 : decode cX4_key 46 = .ok (.aload_n 0, 1) := by decide +kernel
theorem dX4_key_47 : decode cX4_key 47 = .ok (.getfield 12, 3) := by decide +kernel
theorem dX4_key_50 : decode cX4_key 50 = .ok (.getfield 105, 3) := by decide +kernel
theorem dX4_key_53 : decode cX4_key 53 = .ok (.iconst 1, 1) := by decide +kernel
theorem dX4_key_54 : decode cX4_key 54 = .ok (.iload 6, 2) := by decide +kernel
theorem dX4_key_56 : decode cX4_key 56 = .ok (.ishl, 1) := by decide +kernel
theorem dX4_key_57 : decode cX4_key 57 = .ok (.iconst (-1), 1) := by decide +kernel
theorem dX4_key_58 : decode cX4_key 58 = .ok (.ixor, 1) := by decide +kernel
theorem dX4_key_59 : decode cX4_key 59 = .ok (.iand, 1) := by decide +kernel
theorem dX4_key_60 : decode cX4_key 60 = .ok (.invokevirtual 233, 3) := by decide +kernel
theorem dX4_key_63 : decode cX4_key 63 = .ok (.aload_n 0, 1) := by decide +kernel
theorem dX4_key_64 : decode cX4_key 64 = .ok (.getfield 54, 3) := by decide +kernel
theorem dX4_key_67 : decode cX4_key 67 = .ok (.getfield 149, 3) := by decide +kernel
theorem dX4_key_70 : decode cX4_key 70 = .ok (.ifCond .ne 6, 3) := by decide +kernel
theorem dX4_key_73 : decode cX4_key 73 = .ok (.iload 6, 2) := by decide +kernel
theorem dX4_key_75 : decode cX4_key 75 = .ok (.ireturn, 1) := by decide +kernel
theorem dX4_key_76 : decode cX4_key 76 = .ok (.iload_n 1, 1) := by decide +kernel
theorem dX4_key_77 : decode cX4_key 77 = .ok (.bipush (-9), 2) := by decide +kernel
theorem dX4_key_79 : decode cX4_key 79 = .ok (.if_icmp .eq 26, 3) := by decide +kernel
theorem dX4_key_82 : decode cX4_key 82 = .ok (.aload_n 0, 1) := by decide +kernel
theorem dX4_key_83 : decode cX4_key 83 = .ok (.getfield 54, 3) := by decide +kernel
theorem dX4_key_86 : decode cX4_key 86 = .ok (.invokevirtual 209, 3) := by decide +kernel
theorem dX4_key_89 : decode cX4_key 89 = .ok (.aload_n 0, 1) := by decide +kernel
theorem dX4_key_90 : decode cX4_key 90 = .ok (.getfield 54, 3) := by decide +kernel
theorem dX4_key_93 : decode cX4_key 93 = .ok (.invokevirtual 212, 3) := by decide +kernel
theorem dX4_key_96 : decode cX4_key 96 = .ok (.lload_n 2, 1) := by decide +kernel
theorem dX4_key_97 : decode cX4_key 97 = .ok (.lload 4, 2) := by decide +kernel
theorem dX4_key_99 : decode cX4_key 99 = .ok (.invokestatic 237, 3) := by decide +kernel
theorem dX4_key_102 : decode cX4_key 102 = .ok (.ifCond .le 23, 3) := by decide +kernel
theorem dX4_key_105 : decode cX4_key 105 = .ok (.iload 6, 2) := by decide +kernel
theorem dX4_key_107 : decode cX4_key 107 = .ok (.istore_n 1, 1) := by decide +kernel
theorem dX4_key_108 : decode cX4_key 108 = .ok (.aload_n 0, 1) := by decide +kernel
theorem dX4_key_109 : decode cX4_key 109 = .ok (.getfield 54, 3) := by decide +kernel
theorem dX4_key_112 : decode cX4_key 112 = .ok (.invokevirtual 209, 3) := by decide +kernel
theorem dX4_key_115 : decode cX4_key 115 = .ok (.lstore_n 2, 1) := by decide +kernel
theorem dX4_key_116 : decode cX4_key 116 = .ok (.aload_n 0, 1) := by decide +kernel
theorem dX4_key_117 : decode cX4_key 117 = .ok (.getfield 54, 3) := by decide +kernel
theorem dX4_key_120 : decode cX4_key 120 = .ok (.invokevirtual 212, 3) := by decide +kernel
theorem dX4_key_123 : decode cX4_key 123 = .ok (.lstore 4, 2) := by decide +kernel
theorem dX4_key_125 : decode cX4_key 125 = .ok (.iinc 6 1, 3) := by decide +kernel
theorem dX4_key_128 : decode cX4_key 128 = .ok (.goto (-113), 3) := by decide +kernel
theorem dX4_key_131 : decode cX4_key 131 = .ok (.iload_n 1, 1) := by decide +kernel
theorem dX4_key_132 : decode cX4_key 132 = .ok (.ireturn, 1) := by decide +kernel
theorem dX4_extra_0 : decode cX4_extra 0 = .ok (.iload_n 1, 1) := by decide +kernel
theorem dX4_extra_1 : decode cX4_extra 1 = .ok (.iload_n 2, 1) := by decide +kernel
theorem dX4_extra_2 : decode cX4_extra 2 = .ok (.invokestatic 83, 3) := by decide +kernel
theorem dX4_extra_5 : decode cX4_extra 5 = .ok (.ifCond .ne 5, 3) := by decide +kernel
theorem dX4_extra_8 : decode cX4_extra 8 = .ok (.iconst (-1), 1) := by decide +kernel
theorem dX4_extra_9 : decode cX4_extra 9 = .ok (.ireturn, 1) := by decide +kernel
theorem dX4_extra_10 : decode cX4_extra 10 = .ok (.aload_n 0, 1) := by decide +kernel
theorem dX4_extra_11 : decode cX4_extra 11 = .ok (.invokevirtual 230, 3) := by decide +kernel
theorem dX4_extra_14 : decode cX4_extra 14 = .ok (.aload_n 0, 1) := by decide +kernel
theorem dX4_extra_15 : decode cX4_extra 15 = .ok (.getfield 54, 3) := by decide +kernel
theorem dX4_extra_18 : decode cX4_extra 18 = .ok (.aload_n 0, 1) := by decide +kernel
theorem dX4_extra_19 : decode cX4_extra 19 = .ok (.getfield 12, 3) := by decide +kernel
theorem dX4_extra_22 : decode cX4_extra 22 = .ok (.getfield 105, 3) := by decide +kernel
theorem dX4_extra_25 : decode cX4_extra 25 = .ok (.invokevirtual 241, 3) := by decide +kernel
theorem dX4_extra_28 : decode cX4_extra 28 = .ok (.bipush (-9), 2) := by decide +kernel
theorem dX4_extra_30 : decode cX4_extra 30 = .ok (.istore_n 3, 1) := by decide +kernel
theorem dX4_extra_31 : decode cX4_extra 31 = .ok (.lconst 0, 1) := by decide +kernel
theorem dX4_extra_32 : decode cX4_extra 32 = .ok (.lstore 4, 2) := by decide +kernel
theorem dX4_extra_34 : decode cX4_extra 34 = .ok (.lconst 1, 1) := by decide +kernel
theorem dX4_extra_35 : decode cX4_extra 35 = .ok (.lstore 6, 2) := by decide +kernel
theorem dX4_extra_37 : decode cX4_extra 37 = .ok (.iconst 0, 1) := by decide +kernel
theorem dX4_extra_38 : decode cX4_extra 38 = .ok (.istore 8, 2) := by decide +kernel
theorem dX4_extra_40 : decode cX4_extra 40 = .ok (.iload 8, 2) := by decide +kernel
theorem dX4_extra_42 : decode cX4_extra 42 = .ok (.sipush 361, 3) := by decide +kernel
theorem dX4_extra_45 : decode cX4_extra 45 = .ok (.if_icmp .ge 131, 3) := by decide +kernel
theorem dX4_extra_48 : decode cX4_extra 48 = .ok (.iload 8, 2) := by decide +kernel
theorem dX4_extra_50 : decode cX4_extra 50 = .ok (.invokestatic 222, 3) := by decide +kernel
theorem dX4_extra_53 : decode cX4_extra 53 = .ok (.istore 9, 2) := by decide +kernel
theorem dX4_extra_55 : decode cX4_extra 55 = .ok (.iload 8, 2) := by decide +kernel
theorem dX4_extra_57 : decode cX4_extra 57 = .ok (.invokestatic 225, 3) := by decide +kernel
theorem dX4_extra_60 : decode cX4_extra 60 = .ok (.istore 10, 2) := by decide +kernel
theorem dX4_extra_62 : decode cX4_extra 62 = .ok (.aload_n 0, 1) := by decide +kernel
theorem dX4_extra_63 : decode cX4_extra 63 = .ok (.getfield 12, 3) := by decide +kernel
theorem dX4_extra_66 : decode cX4_extra 66 = .ok (.iload 9, 2) := by decide +kernel
theorem dX4_extra_68 : decode cX4_extra 68 = .ok (.iload 10, 2) := by decide +kernel
theorem dX4_extra_70 : decode cX4_extra 70 = .ok (.invokevirtual 86, 3) := by decide +kernel
theorem dX4_extra_73 : decode cX4_extra 73 = .ok (.ifCond .eq 6, 3) := by decide +kernel
theorem dX4_extra_76 : decode cX4_extra 76 = .ok (.goto 94, 3) := by decide +kernel
theorem dX4_extra_79 : decode cX4_extra 79 = .ok (.aload_n 0, 1) := by decide +kernel
theorem dX4_extra_80 : decode cX4_extra 80 = .ok (.getfield 54, 3) := by decide +kernel
theorem dX4_extra_83 : decode cX4_extra 83 = .ok (.iload 9, 2) := by decide +kernel
theorem dX4_extra_85 : decode cX4_extra 85 = .ok (.iload 10, 2) := by decide +kernel
theorem dX4_extra_87 : decode cX4_extra 87 = .ok (.iload_n 1, 1) := by decide +kernel
theorem dX4_extra_88 : decode cX4_extra 88 = .ok (.iload_n 2, 1) := by decide +kernel
theorem dX4_extra_89 : decode cX4_extra 89 = .ok (.invokevirtual 244, 3) := by decide +kernel
theorem dX4_extra_92 : decode cX4_extra 92 = .ok (.aload_n 0, 1) := by decide +kernel
theorem dX4_extra_93 : decode cX4_extra 93 = .ok (.getfield 54, 3) := by decide +kernel
theorem dX4_extra_96 : decode cX4_extra 96 = .ok (.invokevirtual 247, 3) := by decide +kernel
theorem dX4_extra_99 : decode cX4_extra 99 = .ok (.aload_n 0, 1) := by decide +kernel
theorem dX4_extra_100 : decode cX4_extra 100 = .ok (.getfield 54, 3) := by decide +kernel
theorem dX4_extra_103 : decode cX4_extra 103 = .ok (.invokevirtual 250, 3) := by decide +kernel
theorem dX4_extra_106 : decode cX4_extra 106 = .ok (.aload_n 0, 1) := by decide +kernel
theorem dX4_extra_107 : decode cX4_extra 107 = .ok (.getfield 54, 3) := by decide +kernel
theorem dX4_extra_110 : decode cX4_extra 110 = .ok (.getfield 149, 3) := by decide +kernel
theorem dX4_extra_113 : decode cX4_extra 113 = .ok (.ifCond .ne 6, 3) := by decide +kernel
theorem dX4_extra_116 : decode cX4_extra 116 = .ok (.goto 54, 3) := by decide +kernel
theorem dX4_extra_119 : decode cX4_extra 119 = .ok (.iload_n 3, 1) := by decide +kernel
theorem dX4_extra_120 : decode cX4_extra 120 = .ok (.bipush (-9), 2) := by decide +kernel
theorem dX4_extra_122 : decode cX4_extra 122 = .ok (.if_icmp .eq 27, 3) := by decide +kernel
theorem dX4_extra_125 : decode cX4_extra 125 = .ok (.aload_n 0, 1) := by decide +kernel
theorem dX4_extra_126 : decode cX4_extra 126 = .ok (.getfield 54, 3) := by decide +kernel
theorem dX4_extra_129 : decode cX4_extra 129 = .ok (.invokevirtual 209, 3) := by decide +kernel
theorem dX4_extra_132 : decode cX4_extra 132 = .ok (.aload_n 0, 1) := by decide +kernel
theorem dX4_extra_133 : decode cX4_extra 133 = .ok (.getfield 54, 3) := by decide +kernel
theorem dX4_extra_136 : decode cX4_extra 136 = .ok (.invokevirtual 212, 3) := by decide +kernel
theorem dX4_extra_139 : decode cX4_extra 139 = .ok (.lload 4, 2) := by decide +kernel
theorem dX4_extra_141 : decode cX4_extra 141 = .ok (.lload 6, 2) := by decide +kernel
theorem dX4_extra_143 : decode cX4_extra 143 = .ok (.invokestatic 237, 3) := by decide +kernel
theorem dX4_extra_146 : decode cX4_extra 146 = .ok (.ifCond .ge 24, 3) := by decide +kernel
theorem dX4_extra_149 : decode cX4_extra 149 = .ok (.iload 8, 2) := by decide +kernel
theorem dX4_extra_151 : decode cX4_extra 151 = .ok (.istore_n 3, 1) := by decide +kernel
theorem dX4_extra_152 : decode cX4_extra 152 = .ok (.aload_n 0, 1) := by decide +kernel
theorem dX4_extra_153 : decode cX4_extra 153 = .ok (.getfield 54, 3) := by decide +kernel
theorem dX4_extra_156 : decode cX4_extra 156 = .ok (.invokevirtual 209, 3) := by decide +kernel
theorem dX4_extra_159 : decode cX4_extra 159 = .ok (.lstore 4, 2) := by decide +kernel
theorem dX4_extra_161 : decode cX4_extra 161 = .ok (.aload_n 0, 1) := by decide +kernel
theorem dX4_extra_162 : decode cX4_extra 162 = .ok (.getfield 54, 3) := by decide +kernel
theorem dX4_extra_165 : decode cX4_extra 165 = .ok (.invokevirtual 212, 3) := by decide +kernel
theorem dX4_extra_168 : decode cX4_extra 168 = .ok (.lstore 6, 2) := by decide +kernel
theorem dX4_extra_170 : decode cX4_extra 170 = .ok (.iinc 8 1, 3) := by decide +kernel
theorem dX4_extra_173 : decode cX4_extra 173 = .ok (.goto (-133), 3) := by decide +kernel
theorem dX4_extra_176 : decode cX4_extra 176 = .ok (.iload_n 3, 1) := by decide +kernel
theorem dX4_extra_177 : decode cX4_extra 177 = .ok (.ireturn, 1) := by decide +kernel
theorem dX4_odds_0 : decode cX4_odds 0 = .ok (.iload_n 1, 1) := by decide +kernel
theorem dX4_odds_1 : decode cX4_odds 1 = .ok (.ifCond .lt 18, 3) := by decide +kernel
theorem dX4_odds_4 : decode cX4_odds 4 = .ok (.iload_n 1, 1) := by decide +kernel
theorem dX4_odds_5 : decode cX4_odds 5 = .ok (.bipush 10, 2) := by decide +kernel
theorem dX4_odds_7 : decode cX4_odds 7 = .ok (.if_icmp .gt 12, 3) := by decide +kernel
theorem dX4_odds_10 : decode cX4_odds 10 = .ok (.iload_n 2, 1) := by decide +kernel
theorem dX4_odds_11 : decode cX4_odds 11 = .ok (.ifCond .lt 8, 3) := by decide +kernel
theorem dX4_odds_14 : decode cX4_odds 14 = .ok (.iload_n 2, 1) := by decide +kernel
theorem dX4_odds_15 : decode cX4_odds 15 = .ok (.iconst 1, 1) := by decide +kernel
theorem dX4_odds_16 : decode cX4_odds 16 = .ok (.if_icmp .le 5, 3) := by decide +kernel
theorem dX4_odds_19 : decode cX4_odds 19 = .ok (.iconst (-1), 1) := by decide +kernel
theorem dX4_odds_20 : decode cX4_odds 20 = .ok (.ireturn, 1) := by decide +kernel
theorem dX4_odds_21 : decode cX4_odds 21 = .ok (.aload_n 0, 1) := by decide +kernel
theorem dX4_odds_22 : decode cX4_odds 22 = .ok (.invokevirtual 230, 3) := by decide +kernel
theorem dX4_odds_25 : decode cX4_odds 25 = .ok (.aload_n 0, 1) := by decide +kernel
theorem dX4_odds_26 : decode cX4_odds 26 = .ok (.getfield 12, 3) := by decide +kernel
theorem dX4_odds_29 : decode cX4_odds 29 = .ok (.getfield 105, 3) := by decide +kernel
theorem dX4_odds_32 : decode cX4_odds 32 = .ok (.invokestatic 108, 3) := by decide +kernel
theorem dX4_odds_35 : decode cX4_odds 35 = .ok (.istore_n 3, 1) := by decide +kernel
theorem dX4_odds_36 : decode cX4_odds 36 = .ok (.iconst 0, 1) := by decide +kernel
theorem dX4_odds_37 : decode cX4_odds 37 = .ok (.istore 4, 2) := by decide +kernel
theorem dX4_odds_39 : decode cX4_odds 39 = .ok (.iconst 0, 1) := by decide +kernel
theorem dX4_odds_40 : decode cX4_odds 40 = .ok (.istore 5, 2) := by decide +kernel
theorem dX4_odds_42 : decode cX4_odds 42 = .ok (.iload 5, 2) := by decide +kernel
theorem dX4_odds_44 : decode cX4_odds 44 = .ok (.sipush 256, 3) := by decide +kernel
theorem dX4_odds_47 : decode cX4_odds 47 = .ok (.if_icmp .ge 75, 3) := by decide +kernel
theorem dX4_odds_50 : decode cX4_odds 50 = .ok (.iload 5, 2) := by decide +kernel
theorem dX4_odds_52 : decode cX4_odds 52 = .ok (.aload_n 0, 1) := by decide +kernel
theorem dX4_odds_53 : decode cX4_odds 53 = .ok (.getfield 12, 3) := by decide +kernel
theorem dX4_odds_56 : decode cX4_odds 56 = .ok (.getfield 105, 3) := by decide +kernel
theorem dX4_odds_59 : decode cX4_odds 59 = .ok (.iconst (-1), 1) := by decide +kernel
theorem dX4_odds_60 : decode cX4_odds 60 = .ok (.ixor, 1) := by decide +kernel
theorem dX4_odds_61 : decode cX4_odds 61 = .ok (.iand, 1) := by decide +kernel
theorem dX4_odds_62 : decode cX4_odds 62 = .ok (.ifCond .eq 6, 3) := by decide +kernel
theorem dX4_odds_65 : decode cX4_odds 65 = .ok (.goto 51, 3) := by decide +kernel
theorem dX4_odds_68 : decode cX4_odds 68 = .ok (.iload 5, 2) := by decide +kernel
theorem dX4_odds_70 : decode cX4_odds 70 = .ok (.invokestatic 108, 3) := by decide +kernel
theorem dX4_odds_73 : decode cX4_odds 73 = .ok (.istore 6, 2) := by decide +kernel
theorem dX4_odds_75 : decode cX4_odds 75 = .ok (.bipush 10, 2) := by decide +kernel
theorem dX4_odds_77 : decode cX4_odds 77 = .ok (.iload_n 1, 1) := by decide +kernel
theorem dX4_odds_78 : decode cX4_odds 78 = .ok (.isub, 1) := by decide +kernel
theorem dX4_odds_79 : decode cX4_odds 79 = .ok (.iload 6, 2) := by decide +kernel
theorem dX4_odds_81 : decode cX4_odds 81 = .ok (.invokestatic 253, 3) := by decide +kernel
theorem dX4_odds_84 : decode cX4_odds 84 = .ok (.iload_n 1, 1) := by decide +kernel
theorem dX4_odds_85 : decode cX4_odds 85 = .ok (.iload_n 3, 1) := by decide +kernel
theorem dX4_odds_86 : decode cX4_odds 86 = .ok (.iload 6, 2) := by decide +kernel
theorem dX4_odds_88 : decode cX4_odds 88 = .ok (.isub, 1) := by decide +kernel
theorem dX4_odds_89 : decode cX4_odds 89 = .ok (.invokestatic 253, 3) := by decide +kernel
theorem dX4_odds_92 : decode cX4_odds 92 = .ok (.imul, 1) := by decide +kernel
theorem dX4_odds_93 : decode cX4_odds 93 = .ok (.istore 7, 2) := by decide +kernel
theorem dX4_odds_95 : decode cX4_odds 95 = .ok (.iload 7, 2) := by decide +kernel
theorem dX4_odds_97 : decode cX4_odds 97 = .ok (.ifCond .le 19, 3) := by decide +kernel
theorem dX4_odds_100 : decode cX4_odds 100 = .ok (.aload_n 0, 1) := by decide +kernel
theorem dX4_odds_101 : decode cX4_odds 101 = .ok (.iload 5, 2) := by decide +kernel
theorem dX4_odds_103 : decode cX4_odds 103 = .ok (.invokevirtual 257, 3) := by decide +kernel
theorem dX4_odds_106 : decode cX4_odds 106 = .ok (.ifCond .eq 10, 3) := by decide +kernel
theorem dX4_odds_109 : decode cX4_odds 109 = .ok (.iload 4, 2) := by decide +kernel
theorem dX4_odds_111 : decode cX4_odds 111 = .ok (.iload 7, 2) := by decide +kernel
theorem dX4_odds_113 : decode cX4_odds 113 = .ok (.iadd, 1) := by decide +kernel
theorem dX4_odds_114 : decode cX4_odds 114 = .ok (.istore 4, 2) := by decide +kernel
theorem dX4_odds_116 : decode cX4_odds 116 = .ok (.iinc 5 1, 3) := by decide +kernel
theorem dX4_odds_119 : decode cX4_odds 119 = .ok (.goto (-77), 3) := by decide +kernel
theorem dX4_odds_122 : decode cX4_odds 122 = .ok (.iload 4, 2) := by decide +kernel
theorem dX4_odds_124 : decode cX4_odds 124 = .ok (.i2l, 1) := by decide +kernel
theorem dX4_odds_125 : decode cX4_odds 125 = .ok (.bipush 10, 2) := by decide +kernel
theorem dX4_odds_127 : decode cX4_odds 127 = .ok (.iload_n 3, 1) := by decide +kernel
theorem dX4_odds_128 : decode cX4_odds 128 = .ok (.invokestatic 253, 3) := by decide +kernel
theorem dX4_odds_131 : decode cX4_odds 131 = .ok (.i2l, 1) := by decide +kernel
theorem dX4_odds_132 : decode cX4_odds 132 = .ok (.iload_n 2, 1) := by decide +kernel
theorem dX4_odds_133 : decode cX4_odds 133 = .ok (.invokestatic 190, 3) := by decide +kernel
theorem dX4_odds_136 : decode cX4_odds 136 = .ok (.l2i, 1) := by decide +kernel
theorem dX4_odds_137 : decode cX4_odds 137 = .ok (.ireturn, 1) := by decide +kernel
theorem dX4_hunts_0 : decode cX4_hunts 0 = .ok (.iload_n 1, 1) := by decide +kernel
theorem dX4_hunts_1 : decode cX4_hunts 1 = .ok (.iconst 1, 1) := by decide +kernel
theorem dX4_hunts_2 : decode cX4_hunts 2 = .ok (.if_icmp .lt 9, 3) := by decide +kernel
theorem dX4_hunts_5 : decode cX4_hunts 5 = .ok (.iload_n 1, 1) := by decide +kernel
theorem dX4_hunts_6 : decode cX4_hunts 6 = .ok (.bipush 99, 2) := by decide +kernel
theorem dX4_hunts_8 : decode cX4_hunts 8 = .ok (.if_icmp .le 5, 3) := by decide +kernel
theorem dX4_hunts_11 : decode cX4_hunts 11 = .ok (.iconst (-1), 1) := by decide +kernel
theorem dX4_hunts_12 : decode cX4_hunts 12 = .ok (.ireturn, 1) := by decide +kernel
theorem dX4_hunts_13 : decode cX4_hunts 13 = .ok (.aload_n 0, 1) := by decide +kernel
theorem dX4_hunts_14 : decode cX4_hunts 14 = .ok (.iload_n 1, 1) := by decide +kernel
theorem dX4_hunts_15 : decode cX4_hunts 15 = .ok (.putfield 37, 3) := by decide +kernel
theorem dX4_hunts_18 : decode cX4_hunts 18 = .ok (.aload_n 0, 1) := by decide +kernel
theorem dX4_hunts_19 : decode cX4_hunts 19 = .ok (.invokevirtual 260, 3) := by decide +kernel
theorem dX4_hunts_22 : decode cX4_hunts 22 = .ok (.ireturn, 1) := by decide +kernel
theorem dX4_sees_0 : decode cX4_sees 0 = .ok (.aload_n 0, 1) := by decide +kernel
theorem dX4_sees_1 : decode cX4_sees 1 = .ok (.iload_n 1, 1) := by decide +kernel
theorem dX4_sees_2 : decode cX4_sees 2 = .ok (.invokevirtual 99, 3) := by decide +kernel
theorem dX4_sees_5 : decode cX4_sees 5 = .ok (.ifCond .eq 14, 3) := by decide +kernel
theorem dX4_sees_8 : decode cX4_sees 8 = .ok (.iload_n 2, 1) := by decide +kernel
theorem dX4_sees_9 : decode cX4_sees 9 = .ok (.ifCond .lt 10, 3) := by decide +kernel
theorem dX4_sees_12 : decode cX4_sees 12 = .ok (.iload_n 2, 1) := by decide +kernel
theorem dX4_sees_13 : decode cX4_sees 13 = .ok (.sipush 999, 3) := by decide +kernel
theorem dX4_sees_16 : decode cX4_sees 16 = .ok (.if_icmp .le 5, 3) := by decide +kernel
theorem dX4_sees_19 : decode cX4_sees 19 = .ok (.iconst (-1), 1) := by decide +kernel
theorem dX4_sees_20 : decode cX4_sees 20 = .ok (.ireturn, 1) := by decide +kernel
theorem dX4_sees_21 : decode cX4_sees 21 = .ok (.aload_n 0, 1) := by decide +kernel
theorem dX4_sees_22 : decode cX4_sees 22 = .ok (.getfield 76, 3) := by decide +kernel
theorem dX4_sees_25 : decode cX4_sees 25 = .ok (.ifCond .lt 12, 3) := by decide +kernel
theorem dX4_sees_28 : decode cX4_sees 28 = .ok (.aload_n 0, 1) := by decide +kernel
theorem dX4_sees_29 : decode cX4_sees 29 = .ok (.getfield 76, 3) := by decide +kernel
theorem dX4_sees_32 : decode cX4_sees 32 = .ok (.bipush 6, 2) := by decide +kernel
theorem dX4_sees_34 : decode cX4_sees 34 = .ok (.if_icmp .lt 6, 3) := by decide +kernel
theorem dX4_sees_37 : decode cX4_sees 37 = .ok (.bipush (-3), 2) := by decide +kernel
theorem dX4_sees_39 : decode cX4_sees 39 = .ok (.ireturn, 1) := by decide +kernel
theorem dX4_sees_40 : decode cX4_sees 40 = .ok (.aload_n 0, 1) := by decide +kernel
theorem dX4_sees_41 : decode cX4_sees 41 = .ok (.getfield 41, 3) := by decide +kernel
theorem dX4_sees_44 : decode cX4_sees 44 = .ok (.aload_n 0, 1) := by decide +kernel
theorem dX4_sees_45 : decode cX4_sees 45 = .ok (.getfield 76, 3) := by decide +kernel
theorem dX4_sees_48 : decode cX4_sees 48 = .ok (.iload_n 1, 1) := by decide +kernel
theorem dX4_sees_49 : decode cX4_sees 49 = .ok (.iastore, 1) := by decide +kernel
theorem dX4_sees_50 : decode cX4_sees 50 = .ok (.aload_n 0, 1) := by decide +kernel
theorem dX4_sees_51 : decode cX4_sees 51 = .ok (.getfield 45, 3) := by decide +kernel
theorem dX4_sees_54 : decode cX4_sees 54 = .ok (.aload_n 0, 1) := by decide +kernel
theorem dX4_sees_55 : decode cX4_sees 55 = .ok (.getfield 76, 3) := by decide +kernel
theorem dX4_sees_58 : decode cX4_sees 58 = .ok (.iload_n 2, 1) := by decide +kernel
theorem dX4_sees_59 : decode cX4_sees 59 = .ok (.iastore, 1) := by decide +kernel
theorem dX4_sees_60 : decode cX4_sees 60 = .ok (.aload_n 0, 1) := by decide +kernel
theorem dX4_sees_61 : decode cX4_sees 61 = .ok (.dup, 1) := by decide +kernel
theorem dX4_sees_62 : decode cX4_sees 62 = .ok (.getfield 76, 3) := by decide +kernel
theorem dX4_sees_65 : decode cX4_sees 65 = .ok (.iconst 1, 1) := by decide +kernel
theorem dX4_sees_66 : decode cX4_sees 66 = .ok (.iadd, 1) := by decide +kernel
theorem dX4_sees_67 : decode cX4_sees 67 = .ok (.putfield 76, 3) := by decide +kernel
theorem dX4_sees_70 : decode cX4_sees 70 = .ok (.aload_n 0, 1) := by decide +kernel
theorem dX4_sees_71 : decode cX4_sees 71 = .ok (.getfield 76, 3) := by decide +kernel
theorem dX4_sees_74 : decode cX4_sees 74 = .ok (.ireturn, 1) := by decide +kernel
theorem dX4_forget_0 : decode cX4_forget 0 = .ok (.aload_n 0, 1) := by decide +kernel
theorem dX4_forget_1 : decode cX4_forget 1 = .ok (.invokevirtual 260, 3) := by decide +kernel
theorem dX4_forget_4 : decode cX4_forget 4 = .ok (.ireturn, 1) := by decide +kernel
theorem dX4_spots_0 : decode cX4_spots 0 = .ok (.iload_n 1, 1) := by decide +kernel
theorem dX4_spots_1 : decode cX4_spots 1 = .ok (.ifCond .lt 8, 3) := by decide +kernel
theorem dX4_spots_4 : decode cX4_spots 4 = .ok (.iload_n 1, 1) := by decide +kernel
theorem dX4_spots_5 : decode cX4_spots 5 = .ok (.iconst 1, 1) := by decide +kernel
theorem dX4_spots_6 : decode cX4_spots 6 = .ok (.if_icmp .le 5, 3) := by decide +kernel
theorem dX4_spots_9 : decode cX4_spots 9 = .ok (.iconst (-1), 1) := by decide +kernel
theorem dX4_spots_10 : decode cX4_spots 10 = .ok (.ireturn, 1) := by decide +kernel
theorem dX4_spots_11 : decode cX4_spots 11 = .ok (.aload_n 0, 1) := by decide +kernel
theorem dX4_spots_12 : decode cX4_spots 12 = .ok (.getfield 54, 3) := by decide +kernel
theorem dX4_spots_15 : decode cX4_spots 15 = .ok (.aload_n 0, 1) := by decide +kernel
theorem dX4_spots_16 : decode cX4_spots 16 = .ok (.getfield 12, 3) := by decide +kernel
theorem dX4_spots_19 : decode cX4_spots 19 = .ok (.invokevirtual 263, 3) := by decide +kernel
theorem dX4_spots_22 : decode cX4_spots 22 = .ok (.aload_n 0, 1) := by decide +kernel
theorem dX4_spots_23 : decode cX4_spots 23 = .ok (.getfield 54, 3) := by decide +kernel
theorem dX4_spots_26 : decode cX4_spots 26 = .ok (.aload_n 0, 1) := by decide +kernel
theorem dX4_spots_27 : decode cX4_spots 27 = .ok (.getfield 12, 3) := by decide +kernel
theorem dX4_spots_30 : decode cX4_spots 30 = .ok (.getfield 105, 3) := by decide +kernel
theorem dX4_spots_33 : decode cX4_spots 33 = .ok (.invokevirtual 241, 3) := by decide +kernel
theorem dX4_spots_36 : decode cX4_spots 36 = .ok (.iconst 0, 1) := by decide +kernel
theorem dX4_spots_37 : decode cX4_spots 37 = .ok (.istore_n 2, 1) := by decide +kernel
theorem dX4_spots_38 : decode cX4_spots 38 = .ok (.bipush (-9), 2) := by decide +kernel
theorem dX4_spots_40 : decode cX4_spots 40 = .ok (.istore_n 3, 1) := by decide +kernel
theorem dX4_spots_41 : decode cX4_spots 41 = .ok (.iconst 0, 1) := by decide +kernel
theorem dX4_spots_42 : decode cX4_spots 42 = .ok (.istore 4, 2) := by decide +kernel
theorem dX4_spots_44 : decode cX4_spots 44 = .ok (.iload 4, 2) := by decide +kernel
theorem dX4_spots_46 : decode cX4_spots 46 = .ok (.sipush 361, 3) := by decide +kernel
theorem dX4_spots_49 : decode cX4_spots 49 = .ok (.if_icmp .ge 30, 3) := by decide +kernel
theorem dX4_spots_52 : decode cX4_spots 52 = .ok (.aload_n 0, 1) := by decide +kernel
theorem dX4_spots_53 : decode cX4_spots 53 = .ok (.iload 4, 2) := by decide +kernel
theorem dX4_spots_55 : decode cX4_spots 55 = .ok (.invokevirtual 267, 3) := by decide +kernel
theorem dX4_spots_58 : decode cX4_spots 58 = .ok (.ifCond .eq 15, 3) := by decide +kernel
theorem dX4_spots_61 : decode cX4_spots 61 = .ok (.iinc 2 1, 3) := by decide +kernel
theorem dX4_spots_64 : decode cX4_spots 64 = .ok (.iload_n 3, 1) := by decide +kernel
theorem dX4_spots_65 : decode cX4_spots 65 = .ok (.bipush (-9), 2) := by decide +kernel
theorem dX4_spots_67 : decode cX4_spots 67 = .ok (.if_icmp .ne 6, 3) := by decide +kernel
theorem dX4_spots_70 : decode cX4_spots 70 = .ok (.iload 4, 2) := by decide +kernel
theorem dX4_spots_72 : decode cX4_spots 72 = .ok (.istore_n 3, 1) := by decide +kernel
theorem dX4_spots_73 : decode cX4_spots 73 = .ok (.iinc 4 1, 3) := by decide +kernel
theorem dX4_spots_76 : decode cX4_spots 76 = .ok (.goto (-32), 3) := by decide +kernel
theorem dX4_spots_79 : decode cX4_spots 79 = .ok (.iload_n 1, 1) := by decide +kernel
theorem dX4_spots_80 : decode cX4_spots 80 = .ok (.ifCond .ne 7, 3) := by decide +kernel
theorem dX4_spots_83 : decode cX4_spots 83 = .ok (.iload_n 2, 1) := by decide +kernel
theorem dX4_spots_84 : decode cX4_spots 84 = .ok (.goto 4, 3) := by decide +kernel
theorem dX4_spots_87 : decode cX4_spots 87 = .ok (.iload_n 3, 1) := by decide +kernel
theorem dX4_spots_88 : decode cX4_spots 88 = .ok (.ireturn, 1) := by decide +kernel
theorem dX4_ask_0 : decode cX4_ask 0 = .ok (.aload_n 0, 1) := by decide +kernel
theorem dX4_ask_1 : decode cX4_ask 1 = .ok (.getfield 54, 3) := by decide +kernel
theorem dX4_ask_4 : decode cX4_ask 4 = .ok (.aload_n 0, 1) := by decide +kernel
theorem dX4_ask_5 : decode cX4_ask 5 = .ok (.getfield 12, 3) := by decide +kernel
theorem dX4_ask_8 : decode cX4_ask 8 = .ok (.invokevirtual 263, 3) := by decide +kernel
theorem dX4_ask_11 : decode cX4_ask 11 = .ok (.aload_n 0, 1) := by decide +kernel
theorem dX4_ask_12 : decode cX4_ask 12 = .ok (.getfield 54, 3) := by decide +kernel
theorem dX4_ask_15 : decode cX4_ask 15 = .ok (.aload_n 0, 1) := by decide +kernel
theorem dX4_ask_16 : decode cX4_ask 16 = .ok (.getfield 12, 3) := by decide +kernel
theorem dX4_ask_19 : decode cX4_ask 19 = .ok (.getfield 105, 3) := by decide +kernel
theorem dX4_ask_22 : decode cX4_ask 22 = .ok (.invokevirtual 241, 3) := by decide +kernel
theorem dX4_ask_25 : decode cX4_ask 25 = .ok (.aload_n 0, 1) := by decide +kernel
theorem dX4_ask_26 : decode cX4_ask 26 = .ok (.getfield 48, 3) := by decide +kernel
theorem dX4_ask_29 : decode cX4_ask 29 = .ok (.iconst 0, 1) := by decide +kernel
theorem dX4_ask_30 : decode cX4_ask 30 = .ok (.invokestatic 270, 3) := by decide +kernel
theorem dX4_ask_33 : decode cX4_ask 33 = .ok (.iconst 0, 1) := by decide +kernel
theorem dX4_ask_34 : decode cX4_ask 34 = .ok (.istore_n 1, 1) := by decide +kernel
theorem dX4_ask_35 : decode cX4_ask 35 = .ok (.iconst 0, 1) := by decide +kernel
theorem dX4_ask_36 : decode cX4_ask 36 = .ok (.istore_n 2, 1) := by decide +kernel
theorem dX4_ask_37 : decode cX4_ask 37 = .ok (.iload_n 2, 1) := by decide +kernel
theorem dX4_ask_38 : decode cX4_ask 38 = .ok (.sipush 361, 3) := by decide +kernel
theorem dX4_ask_41 : decode cX4_ask 41 = .ok (.if_icmp .ge 24, 3) := by decide +kernel
theorem dX4_ask_44 : decode cX4_ask 44 = .ok (.aload_n 0, 1) := by decide +kernel
theorem dX4_ask_45 : decode cX4_ask 45 = .ok (.iload_n 2, 1) := by decide +kernel
theorem dX4_ask_46 : decode cX4_ask 46 = .ok (.invokevirtual 267, 3) := by decide +kernel
theorem dX4_ask_49 : decode cX4_ask 49 = .ok (.ifCond .eq 10, 3) := by decide +kernel
theorem dX4_ask_52 : decode cX4_ask 52 = .ok (.iinc 1 1, 3) := by decide +kernel
theorem dX4_ask_55 : decode cX4_ask 55 = .ok (.aload_n 0, 1) := by decide +kernel
theorem dX4_ask_56 : decode cX4_ask 56 = .ok (.invokevirtual 276, 3) := by decide +kernel
theorem dX4_ask_59 : decode cX4_ask 59 = .ok (.iinc 2 1, 3) := by decide +kernel
theorem dX4_ask_62 : decode cX4_ask 62 = .ok (.goto (-25), 3) := by decide +kernel
theorem dX4_ask_65 : decode cX4_ask 65 = .ok (.iload_n 1, 1) := by decide +kernel
theorem dX4_ask_66 : decode cX4_ask 66 = .ok (.iconst 1, 1) := by decide +kernel
theorem dX4_ask_67 : decode cX4_ask 67 = .ok (.if_icmp .le 10, 3) := by decide +kernel
theorem dX4_ask_70 : decode cX4_ask 70 = .ok (.aload_n 0, 1) := by decide +kernel
theorem dX4_ask_71 : decode cX4_ask 71 = .ok (.invokevirtual 279, 3) := by decide +kernel
theorem dX4_ask_74 : decode cX4_ask 74 = .ok (.goto 5, 3) := by decide +kernel
theorem dX4_ask_77 : decode cX4_ask 77 = .ok (.bipush (-9), 2) := by decide +kernel
theorem dX4_ask_79 : decode cX4_ask 79 = .ok (.ireturn, 1) := by decide +kernel
theorem dX4_keep_0 : decode cX4_keep 0 = .ok (.iload_n 1, 1) := by decide +kernel
theorem dX4_keep_1 : decode cX4_keep 1 = .ok (.ifCond .lt 8, 3) := by decide +kernel
theorem dX4_keep_4 : decode cX4_keep 4 = .ok (.iload_n 1, 1) := by decide +kernel
theorem dX4_keep_5 : decode cX4_keep 5 = .ok (.iconst 2, 1) := by decide +kernel
theorem dX4_keep_6 : decode cX4_keep 6 = .ok (.if_icmp .lt 5, 3) := by decide +kernel
theorem dX4_keep_9 : decode cX4_keep 9 = .ok (.iconst (-1), 1) := by decide +kernel
theorem dX4_keep_10 : decode cX4_keep 10 = .ok (.ireturn, 1) := by decide +kernel
theorem dX4_keep_11 : decode cX4_keep 11 = .ok (.aload_n 0, 1) := by decide +kernel
theorem dX4_keep_12 : decode cX4_keep 12 = .ok (.getfield 12, 3) := by decide +kernel
theorem dX4_keep_15 : decode cX4_keep 15 = .ok (.aload_n 0, 1) := by decide +kernel
theorem dX4_keep_16 : decode cX4_keep 16 = .ok (.getfield 30, 3) := by decide +kernel
theorem dX4_keep_19 : decode cX4_keep 19 = .ok (.iload_n 1, 1) := by decide +kernel
theorem dX4_keep_20 : decode cX4_keep 20 = .ok (.aaload, 1) := by decide +kernel
theorem dX4_keep_21 : decode cX4_keep 21 = .ok (.invokestatic 69, 3) := by decide +kernel
theorem dX4_keep_24 : decode cX4_keep 24 = .ok (.aload_n 0, 1) := by decide +kernel
theorem dX4_keep_25 : decode cX4_keep 25 = .ok (.getfield 33, 3) := by decide +kernel
theorem dX4_keep_28 : decode cX4_keep 28 = .ok (.iload_n 1, 1) := by decide +kernel
theorem dX4_keep_29 : decode cX4_keep 29 = .ok (.iconst 1, 1) := by decide +kernel
theorem dX4_keep_30 : decode cX4_keep 30 = .ok (.bastore, 1) := by decide +kernel
theorem dX4_keep_31 : decode cX4_keep 31 = .ok (.aload_n 0, 1) := by decide +kernel
theorem dX4_keep_32 : decode cX4_keep 32 = .ok (.getfield 12, 3) := by decide +kernel
theorem dX4_keep_35 : decode cX4_keep 35 = .ok (.getfield 89, 3) := by decide +kernel
theorem dX4_keep_38 : decode cX4_keep 38 = .ok (.ireturn, 1) := by decide +kernel
theorem dX4_back_0 : decode cX4_back 0 = .ok (.iload_n 1, 1) := by decide +kernel
theorem dX4_back_1 : decode cX4_back 1 = .ok (.ifCond .lt 8, 3) := by decide +kernel
theorem dX4_back_4 : decode cX4_back 4 = .ok (.iload_n 1, 1) := by decide +kernel
theorem dX4_back_5 : decode cX4_back 5 = .ok (.iconst 2, 1) := by decide +kernel
theorem dX4_back_6 : decode cX4_back 6 = .ok (.if_icmp .lt 5, 3) := by decide +kernel
theorem dX4_back_9 : decode cX4_back 9 = .ok (.iconst (-1), 1) := by decide +kernel
theorem dX4_back_10 : decode cX4_back 10 = .ok (.ireturn, 1) := by decide +kernel
theorem dX4_back_11 : decode cX4_back 11 = .ok (.aload_n 0, 1) := by decide +kernel
theorem dX4_back_12 : decode cX4_back 12 = .ok (.getfield 33, 3) := by decide +kernel
theorem dX4_back_15 : decode cX4_back 15 = .ok (.iload_n 1, 1) := by decide +kernel
theorem dX4_back_16 : decode cX4_back 16 = .ok (.baload, 1) := by decide +kernel
theorem dX4_back_17 : decode cX4_back 17 = .ok (.ifCond .ne 6, 3) := by decide +kernel
theorem dX4_back_20 : decode cX4_back 20 = .ok (.bipush (-2), 2) := by decide +kernel
theorem dX4_back_22 : decode cX4_back 22 = .ok (.ireturn, 1) := by decide +kernel
theorem dX4_back_23 : decode cX4_back 23 = .ok (.aload_n 0, 1) := by decide +kernel
theorem dX4_back_24 : decode cX4_back 24 = .ok (.getfield 30, 3) := by decide +kernel
theorem dX4_back_27 : decode cX4_back 27 = .ok (.iload_n 1, 1) := by decide +kernel
theorem dX4_back_28 : decode cX4_back 28 = .ok (.aaload, 1) := by decide +kernel
theorem dX4_back_29 : decode cX4_back 29 = .ok (.aload_n 0, 1) := by decide +kernel
theorem dX4_back_30 : decode cX4_back 30 = .ok (.getfield 12, 3) := by decide +kernel
theorem dX4_back_33 : decode cX4_back 33 = .ok (.invokestatic 69, 3) := by decide +kernel
theorem dX4_back_36 : decode cX4_back 36 = .ok (.aload_n 0, 1) := by decide +kernel
theorem dX4_back_37 : decode cX4_back 37 = .ok (.iconst 0, 1) := by decide +kernel
theorem dX4_back_38 : decode cX4_back 38 = .ok (.putfield 73, 3) := by decide +kernel
theorem dX4_back_41 : decode cX4_back 41 = .ok (.aload_n 0, 1) := by decide +kernel
theorem dX4_back_42 : decode cX4_back 42 = .ok (.getfield 12, 3) := by decide +kernel
theorem dX4_back_45 : decode cX4_back 45 = .ok (.getfield 89, 3) := by decide +kernel
theorem dX4_back_48 : decode cX4_back 48 = .ok (.ireturn, 1) := by decide +kernel
theorem dX4_count_0 : decode cX4_count 0 = .ok (.iload_n 1, 1) := by decide +kernel
theorem dX4_count_1 : decode cX4_count 1 = .ok (.tableswitch 93 0 6 #[43, 51, 62, 70, 75, 80, 88], 43) := by decide +kernel
theorem dX4_count_44 : decode cX4_count 44 = .ok (.aload_n 0, 1) := by decide +kernel
theorem dX4_count_45 : decode cX4_count 45 = .ok (.getfield 12, 3) := by decide +kernel
theorem dX4_count_48 : decode cX4_count 48 = .ok (.getfield 89, 3) := by decide +kernel
theorem dX4_count_51 : decode cX4_count 51 = .ok (.ireturn, 1) := by decide +kernel
theorem dX4_count_52 : decode cX4_count 52 = .ok (.aload_n 0, 1) := by decide +kernel
theorem dX4_count_53 : decode cX4_count 53 = .ok (.getfield 12, 3) := by decide +kernel
theorem dX4_count_56 : decode cX4_count 56 = .ok (.getfield 105, 3) := by decide +kernel
theorem dX4_count_59 : decode cX4_count 59 = .ok (.invokestatic 108, 3) := by decide +kernel
theorem dX4_count_62 : decode cX4_count 62 = .ok (.ireturn, 1) := by decide +kernel
theorem dX4_count_63 : decode cX4_count 63 = .ok (.aload_n 0, 1) := by decide +kernel
theorem dX4_count_64 : decode cX4_count 64 = .ok (.getfield 12, 3) := by decide +kernel
theorem dX4_count_67 : decode cX4_count 67 = .ok (.getfield 282, 3) := by decide +kernel
theorem dX4_count_70 : decode cX4_count 70 = .ok (.ireturn, 1) := by decide +kernel
theorem dX4_count_71 : decode cX4_count 71 = .ok (.aload_n 0, 1) := by decide +kernel
theorem dX4_count_72 : decode cX4_count 72 = .ok (.getfield 37, 3) := by decide +kernel
theorem dX4_count_75 : decode cX4_count 75 = .ok (.ireturn, 1) := by decide +kernel
theorem dX4_count_76 : decode cX4_count 76 = .ok (.aload_n 0, 1) := by decide +kernel
theorem dX4_count_77 : decode cX4_count 77 = .ok (.getfield 76, 3) := by decide +kernel
theorem dX4_count_80 : decode cX4_count 80 = .ok (.ireturn, 1) := by decide +kernel
theorem dX4_count_81 : decode cX4_count 81 = .ok (.aload_n 0, 1) := by decide +kernel
theorem dX4_count_82 : decode cX4_count 82 = .ok (.getfield 22, 3) := by decide +kernel
theorem dX4_count_85 : decode cX4_count 85 = .ok (.getfield 62, 3) := by decide +kernel
theorem dX4_count_88 : decode cX4_count 88 = .ok (.ireturn, 1) := by decide +kernel
theorem dX4_count_89 : decode cX4_count 89 = .ok (.aload_n 0, 1) := by decide +kernel
theorem dX4_count_90 : decode cX4_count 90 = .ok (.getfield 73, 3) := by decide +kernel
theorem dX4_count_93 : decode cX4_count 93 = .ok (.ireturn, 1) := by decide +kernel
theorem dX4_count_94 : decode cX4_count 94 = .ok (.iconst (-1), 1) := by decide +kernel
theorem dX4_count_95 : decode cX4_count 95 = .ok (.ireturn, 1) := by decide +kernel
theorem dX4_isPlace_0 : decode cX4_isPlace 0 = .ok (.iload_n 0, 1) := by decide +kernel
theorem dX4_isPlace_1 : decode cX4_isPlace 1 = .ok (.bipush (-9), 2) := by decide +kernel
theorem dX4_isPlace_3 : decode cX4_isPlace 3 = .ok (.if_icmp .lt 25, 3) := by decide +kernel
theorem dX4_isPlace_6 : decode cX4_isPlace 6 = .ok (.iload_n 0, 1) := by decide +kernel
theorem dX4_isPlace_7 : decode cX4_isPlace 7 = .ok (.bipush 9, 2) := by decide +kernel
theorem dX4_isPlace_9 : decode cX4_isPlace 9 = .ok (.if_icmp .gt 19, 3) := by decide +kernel
theorem dX4_isPlace_12 : decode cX4_isPlace 12 = .ok (.iload_n 1, 1) := by decide +kernel
theorem dX4_isPlace_13 : decode cX4_isPlace 13 = .ok (.bipush (-9), 2) := by decide +kernel
theorem dX4_isPlace_15 : decode cX4_isPlace 15 = .ok (.if_icmp .lt 13, 3) := by decide +kernel
theorem dX4_isPlace_18 : decode cX4_isPlace 18 = .ok (.iload_n 1, 1) := by decide +kernel
theorem dX4_isPlace_19 : decode cX4_isPlace 19 = .ok (.bipush 9, 2) := by decide +kernel
theorem dX4_isPlace_21 : decode cX4_isPlace 21 = .ok (.if_icmp .gt 7, 3) := by decide +kernel
theorem dX4_isPlace_24 : decode cX4_isPlace 24 = .ok (.iconst 1, 1) := by decide +kernel
theorem dX4_isPlace_25 : decode cX4_isPlace 25 = .ok (.goto 4, 3) := by decide +kernel
theorem dX4_isPlace_28 : decode cX4_isPlace 28 = .ok (.iconst 0, 1) := by decide +kernel
theorem dX4_isPlace_29 : decode cX4_isPlace 29 = .ok (.ireturn, 1) := by decide +kernel
theorem dX4_isPileKind_0 : decode cX4_isPileKind 0 = .ok (.iload_n 0, 1) := by decide +kernel
theorem dX4_isPileKind_1 : decode cX4_isPileKind 1 = .ok (.iconst 1, 1) := by decide +kernel
theorem dX4_isPileKind_2 : decode cX4_isPileKind 2 = .ok (.if_icmp .lt 24, 3) := by decide +kernel
theorem dX4_isPileKind_5 : decode cX4_isPileKind 5 = .ok (.iload_n 0, 1) := by decide +kernel
theorem dX4_isPileKind_6 : decode cX4_isPileKind 6 = .ok (.bipush 9, 2) := by decide +kernel
theorem dX4_isPileKind_8 : decode cX4_isPileKind 8 = .ok (.if_icmp .gt 18, 3) := by decide +kernel
theorem dX4_isPileKind_11 : decode cX4_isPileKind 11 = .ok (.iload_n 1, 1) := by decide +kernel
theorem dX4_isPileKind_12 : decode cX4_isPileKind 12 = .ok (.iconst 1, 1) := by decide +kernel
theorem dX4_isPileKind_13 : decode cX4_isPileKind 13 = .ok (.if_icmp .lt 13, 3) := by decide +kernel
theorem dX4_isPileKind_16 : decode cX4_isPileKind 16 = .ok (.iload_n 1, 1) := by decide +kernel
theorem dX4_isPileKind_17 : decode cX4_isPileKind 17 = .ok (.bipush 99, 2) := by decide +kernel
theorem dX4_isPileKind_19 : decode cX4_isPileKind 19 = .ok (.if_icmp .gt 7, 3) := by decide +kernel
theorem dX4_isPileKind_22 : decode cX4_isPileKind 22 = .ok (.iconst 1, 1) := by decide +kernel
theorem dX4_isPileKind_23 : decode cX4_isPileKind 23 = .ok (.goto 4, 3) := by decide +kernel
theorem dX4_isPileKind_26 : decode cX4_isPileKind 26 = .ok (.iconst 0, 1) := by decide +kernel
theorem dX4_isPileKind_27 : decode cX4_isPileKind 27 = .ok (.ireturn, 1) := by decide +kernel
theorem dX4_isPile_0 : decode cX4_isPile 0 = .ok (.iload_n 1, 1) := by decide +kernel
theorem dX4_isPile_1 : decode cX4_isPile 1 = .ok (.ifCond .lt 18, 3) := by decide +kernel
theorem dX4_isPile_4 : decode cX4_isPile 4 = .ok (.iload_n 1, 1) := by decide +kernel
theorem dX4_isPile_5 : decode cX4_isPile 5 = .ok (.aload_n 0, 1) := by decide +kernel
theorem dX4_isPile_6 : decode cX4_isPile 6 = .ok (.getfield 12, 3) := by decide +kernel
theorem dX4_isPile_9 : decode cX4_isPile 9 = .ok (.getfield 89, 3) := by decide +kernel
theorem dX4_isPile_12 : decode cX4_isPile 12 = .ok (.if_icmp .ge 7, 3) := by decide +kernel
theorem dX4_isPile_15 : decode cX4_isPile 15 = .ok (.iconst 1, 1) := by decide +kernel
theorem dX4_isPile_16 : decode cX4_isPile 16 = .ok (.goto 4, 3) := by decide +kernel
theorem dX4_isPile_19 : decode cX4_isPile 19 = .ok (.iconst 0, 1) := by decide +kernel
theorem dX4_isPile_20 : decode cX4_isPile 20 = .ok (.ireturn, 1) := by decide +kernel
theorem dX4_isColumn_0 : decode cX4_isColumn 0 = .ok (.iload_n 1, 1) := by decide +kernel
theorem dX4_isColumn_1 : decode cX4_isColumn 1 = .ok (.ifCond .lt 18, 3) := by decide +kernel
theorem dX4_isColumn_4 : decode cX4_isColumn 4 = .ok (.iload_n 1, 1) := by decide +kernel
theorem dX4_isColumn_5 : decode cX4_isColumn 5 = .ok (.aload_n 0, 1) := by decide +kernel
theorem dX4_isColumn_6 : decode cX4_isColumn 6 = .ok (.getfield 12, 3) := by decide +kernel
theorem dX4_isColumn_9 : decode cX4_isColumn 9 = .ok (.getfield 282, 3) := by decide +kernel
theorem dX4_isColumn_12 : decode cX4_isColumn 12 = .ok (.if_icmp .ge 7, 3) := by decide +kernel
theorem dX4_isColumn_15 : decode cX4_isColumn 15 = .ok (.iconst 1, 1) := by decide +kernel
theorem dX4_isColumn_16 : decode cX4_isColumn 16 = .ok (.goto 4, 3) := by decide +kernel
theorem dX4_isColumn_19 : decode cX4_isColumn 19 = .ok (.iconst 0, 1) := by decide +kernel
theorem dX4_isColumn_20 : decode cX4_isColumn 20 = .ok (.ireturn, 1) := by decide +kernel
theorem dX4_xOf_0 : decode cX4_xOf 0 = .ok (.iload_n 0, 1) := by decide +kernel
theorem dX4_xOf_1 : decode cX4_xOf 1 = .ok (.bipush 19, 2) := by decide +kernel
theorem dX4_xOf_3 : decode cX4_xOf 3 = .ok (.idiv, 1) := by decide +kernel
theorem dX4_xOf_4 : decode cX4_xOf 4 = .ok (.bipush 9, 2) := by decide +kernel
theorem dX4_xOf_6 : decode cX4_xOf 6 = .ok (.isub, 1) := by decide +kernel
theorem dX4_xOf_7 : decode cX4_xOf 7 = .ok (.ireturn, 1) := by decide +kernel
theorem dX4_yOf_0 : decode cX4_yOf 0 = .ok (.iload_n 0, 1) := by decide +kernel
theorem dX4_yOf_1 : decode cX4_yOf 1 = .ok (.bipush 19, 2) := by decide +kernel
theorem dX4_yOf_3 : decode cX4_yOf 3 = .ok (.irem, 1) := by decide +kernel
theorem dX4_yOf_4 : decode cX4_yOf 4 = .ok (.bipush 9, 2) := by decide +kernel
theorem dX4_yOf_6 : decode cX4_yOf 6 = .ok (.isub, 1) := by decide +kernel
theorem dX4_yOf_7 : decode cX4_yOf 7 = .ok (.ireturn, 1) := by decide +kernel
theorem dX4_recordAction_0 : decode cX4_recordAction 0 = .ok (.aload_n 0, 1) := by decide +kernel
theorem dX4_recordAction_1 : decode cX4_recordAction 1 = .ok (.getfield 73, 3) := by decide +kernel
theorem dX4_recordAction_4 : decode cX4_recordAction 4 = .ok (.bipush 6, 2) := by decide +kernel
theorem dX4_recordAction_6 : decode cX4_recordAction 6 = .ok (.if_icmp .lt 50, 3) := by decide +kernel
theorem dX4_recordAction_9 : decode cX4_recordAction 9 = .ok (.aload_n 0, 1) := by decide +kernel
theorem dX4_recordAction_10 : decode cX4_recordAction 10 = .ok (.getfield 26, 3) := by decide +kernel
theorem dX4_recordAction_13 : decode cX4_recordAction 13 = .ok (.iconst 0, 1) := by decide +kernel
theorem dX4_recordAction_14 : decode cX4_recordAction 14 = .ok (.aaload, 1) := by decide +kernel
theorem dX4_recordAction_15 : decode cX4_recordAction 15 = .ok (.astore_n 1, 1) := by decide +kernel
theorem dX4_recordAction_16 : decode cX4_recordAction 16 = .ok (.iconst 1, 1) := by decide +kernel
theorem dX4_recordAction_17 : decode cX4_recordAction 17 = .ok (.istore_n 2, 1) := by decide +kernel
theorem dX4_recordAction_18 : decode cX4_recordAction 18 = .ok (.iload_n 2, 1) := by decide +kernel
theorem dX4_recordAction_19 : decode cX4_recordAction 19 = .ok (.bipush 6, 2) := by decide +kernel
theorem dX4_recordAction_21 : decode cX4_recordAction 21 = .ok (.if_icmp .ge 23, 3) := by decide +kernel
theorem dX4_recordAction_24 : decode cX4_recordAction 24 = .ok (.aload_n 0, 1) := by decide +kernel
theorem dX4_recordAction_25 : decode cX4_recordAction 25 = .ok (.getfield 26, 3) := by decide +kernel
theorem dX4_recordAction_28 : decode cX4_recordAction 28 = .ok (.iload_n 2, 1) := by decide +kernel
theorem dX4_recordAction_29 : decode cX4_recordAction 29 = .ok (.iconst 1, 1) := by decide +kernel
theorem dX4_recordAction_30 : decode cX4_recordAction 30 = .ok (.isub, 1) := by decide +kernel
theorem dX4_recordAction_31 : decode cX4_recordAction 31 = .ok (.aload_n 0, 1) := by decide +kernel
theorem dX4_recordAction_32 : decode cX4_recordAction 32 = .ok (.getfield 26, 3) := by decide +kernel
theorem dX4_recordAction_35 : decode cX4_recordAction 35 = .ok (.iload_n 2, 1) := by decide +kernel
theorem dX4_recordAction_36 : decode cX4_recordAction 36 = .ok (.aaload, 1) := by decide +kernel
theorem dX4_recordAction_37 : decode cX4_recordAction 37 = .ok (.aastore, 1) := by decide +kernel
theorem dX4_recordAction_38 : decode cX4_recordAction 38 = .ok (.iinc 2 1, 3) := by decide +kernel
theorem dX4_recordAction_41 : decode cX4_recordAction 41 = .ok (.goto (-23), 3) := by decide +kernel
theorem dX4_recordAction_44 : decode cX4_recordAction 44 = .ok (.aload_n 0, 1) := by decide +kernel
theorem dX4_recordAction_45 : decode cX4_recordAction 45 = .ok (.getfield 26, 3) := by decide +kernel
theorem dX4_recordAction_48 : decode cX4_recordAction 48 = .ok (.iconst 5, 1) := by decide +kernel
theorem dX4_recordAction_49 : decode cX4_recordAction 49 = .ok (.aload_n 1, 1) := by decide +kernel
theorem dX4_recordAction_50 : decode cX4_recordAction 50 = .ok (.aastore, 1) := by decide +kernel
theorem dX4_recordAction_51 : decode cX4_recordAction 51 = .ok (.aload_n 0, 1) := by decide +kernel
theorem dX4_recordAction_52 : decode cX4_recordAction 52 = .ok (.iconst 5, 1) := by decide +kernel
theorem dX4_recordAction_53 : decode cX4_recordAction 53 = .ok (.putfield 73, 3) := by decide +kernel
theorem dX4_recordAction_56 : decode cX4_recordAction 56 = .ok (.aload_n 0, 1) := by decide +kernel
theorem dX4_recordAction_57 : decode cX4_recordAction 57 = .ok (.getfield 12, 3) := by decide +kernel
theorem dX4_recordAction_60 : decode cX4_recordAction 60 = .ok (.aload_n 0, 1) := by decide +kernel
theorem dX4_recordAction_61 : decode cX4_recordAction 61 = .ok (.getfield 26, 3) := by decide +kernel
theorem dX4_recordAction_64 : decode cX4_recordAction 64 = .ok (.aload_n 0, 1) := by decide +kernel
theorem dX4_recordAction_65 : decode cX4_recordAction 65 = .ok (.getfield 73, 3) := by decide +kernel
theorem dX4_recordAction_68 : decode cX4_recordAction 68 = .ok (.aaload, 1) := by decide +kernel
theorem dX4_recordAction_69 : decode cX4_recordAction 69 = .ok (.invokestatic 69, 3) := by decide +kernel
theorem dX4_recordAction_72 : decode cX4_recordAction 72 = .ok (.aload_n 0, 1) := by decide +kernel
theorem dX4_recordAction_73 : decode cX4_recordAction 73 = .ok (.dup, 1) := by decide +kernel
theorem dX4_recordAction_74 : decode cX4_recordAction 74 = .ok (.getfield 73, 3) := by decide +kernel
theorem dX4_recordAction_77 : decode cX4_recordAction 77 = .ok (.iconst 1, 1) := by decide +kernel
theorem dX4_recordAction_78 : decode cX4_recordAction 78 = .ok (.iadd, 1) := by decide +kernel
theorem dX4_recordAction_79 : decode cX4_recordAction 79 = .ok (.putfield 73, 3) := by decide +kernel
theorem dX4_recordAction_82 : decode cX4_recordAction 82 = .ok (.return_, 1) := by decide +kernel
theorem dX4_dropSights_0 : decode cX4_dropSights 0 = .ok (.aload_n 0, 1) := by decide +kernel
theorem dX4_dropSights_1 : decode cX4_dropSights 1 = .ok (.getfield 76, 3) := by decide +kernel
theorem dX4_dropSights_4 : decode cX4_dropSights 4 = .ok (.istore_n 1, 1) := by decide +kernel
theorem dX4_dropSights_5 : decode cX4_dropSights 5 = .ok (.aload_n 0, 1) := by decide +kernel
theorem dX4_dropSights_6 : decode cX4_dropSights 6 = .ok (.iconst 0, 1) := by decide +kernel
theorem dX4_dropSights_7 : decode cX4_dropSights 7 = .ok (.putfield 76, 3) := by decide +kernel
theorem dX4_dropSights_10 : decode cX4_dropSights 10 = .ok (.iload_n 1, 1) := by decide +kernel
theorem dX4_dropSights_11 : decode cX4_dropSights 11 = .ok (.ireturn, 1) := by decide +kernel
theorem dX4_takePresent_0 : decode cX4_takePresent 0 = .ok (.aload_n 0, 1) := by decide +kernel
theorem dX4_takePresent_1 : decode cX4_takePresent 1 = .ok (.getfield 54, 3) := by decide +kernel
theorem dX4_takePresent_4 : decode cX4_takePresent 4 = .ok (.aload_n 0, 1) := by decide +kernel
theorem dX4_takePresent_5 : decode cX4_takePresent 5 = .ok (.getfield 12, 3) := by decide +kernel
theorem dX4_takePresent_8 : decode cX4_takePresent 8 = .ok (.invokevirtual 263, 3) := by decide +kernel
theorem dX4_takePresent_11 : decode cX4_takePresent 11 = .ok (.aload_n 0, 1) := by decide +kernel
theorem dX4_takePresent_12 : decode cX4_takePresent 12 = .ok (.getfield 54, 3) := by decide +kernel
theorem dX4_takePresent_15 : decode cX4_takePresent 15 = .ok (.aload_n 0, 1) := by decide +kernel
theorem dX4_takePresent_16 : decode cX4_takePresent 16 = .ok (.getfield 12, 3) := by decide +kernel
theorem dX4_takePresent_19 : decode cX4_takePresent 19 = .ok (.invokevirtual 158, 3) := by decide +kernel
theorem dX4_takePresent_22 : decode cX4_takePresent 22 = .ok (.i2l, 1) := by decide +kernel
theorem dX4_takePresent_23 : decode cX4_takePresent 23 = .ok (.aload_n 0, 1) := by decide +kernel
theorem dX4_takePresent_24 : decode cX4_takePresent 24 = .ok (.getfield 12, 3) := by decide +kernel
theorem dX4_takePresent_27 : decode cX4_takePresent 27 = .ok (.invokevirtual 162, 3) := by decide +kernel
theorem dX4_takePresent_30 : decode cX4_takePresent 30 = .ok (.i2l, 1) := by decide +kernel
theorem dX4_takePresent_31 : decode cX4_takePresent 31 = .ok (.aload_n 0, 1) := by decide +kernel
theorem dX4_takePresent_32 : decode cX4_takePresent 32 = .ok (.getfield 12, 3) := by decide +kernel
theorem dX4_takePresent_35 : decode cX4_takePresent 35 = .ok (.invokevirtual 165, 3) := by decide +kernel
theorem dX4_takePresent_38 : decode cX4_takePresent 38 = .ok (.i2l, 1) := by decide +kernel
theorem dX4_takePresent_39 : decode cX4_takePresent 39 = .ok (.invokevirtual 285, 3) := by decide +kernel
theorem dX4_takePresent_42 : decode cX4_takePresent 42 = .ok (.return_, 1) := by decide +kernel
theorem dX4_spreadPresent_0 : decode cX4_spreadPresent 0 = .ok (.aload_n 0, 1) := by decide +kernel
theorem dX4_spreadPresent_1 : decode cX4_spreadPresent 1 = .ok (.invokevirtual 230, 3) := by decide +kernel
theorem dX4_spreadPresent_4 : decode cX4_spreadPresent 4 = .ok (.aload_n 0, 1) := by decide +kernel
theorem dX4_spreadPresent_5 : decode cX4_spreadPresent 5 = .ok (.getfield 54, 3) := by decide +kernel
theorem dX4_spreadPresent_8 : decode cX4_spreadPresent 8 = .ok (.aload_n 0, 1) := by decide +kernel
theorem dX4_spreadPresent_9 : decode cX4_spreadPresent 9 = .ok (.getfield 12, 3) := by decide +kernel
theorem dX4_spreadPresent_12 : decode cX4_spreadPresent 12 = .ok (.getfield 105, 3) := by decide +kernel
theorem dX4_spreadPresent_15 : decode cX4_spreadPresent 15 = .ok (.invokevirtual 233, 3) := by decide +kernel
theorem dX4_spreadPresent_18 : decode cX4_spreadPresent 18 = .ok (.return_, 1) := by decide +kernel
theorem dX4_bracePresent_0 : decode cX4_bracePresent 0 = .ok (.aload_n 0, 1) := by decide +kernel
theorem dX4_bracePresent_1 : decode cX4_bracePresent 1 = .ok (.getfield 54, 3) := by decide +kernel
theorem dX4_bracePresent_4 : decode cX4_bracePresent 4 = .ok (.aload_n 0, 1) := by decide +kernel
theorem dX4_bracePresent_5 : decode cX4_bracePresent 5 = .ok (.getfield 12, 3) := by decide +kernel
theorem dX4_bracePresent_8 : decode cX4_bracePresent 8 = .ok (.invokevirtual 263, 3) := by decide +kernel
theorem dX4_bracePresent_11 : decode cX4_bracePresent 11 = .ok (.aload_n 0, 1) := by decide +kernel
theorem dX4_bracePresent_12 : decode cX4_bracePresent 12 = .ok (.getfield 54, 3) := by decide +kernel
theorem dX4_bracePresent_15 : decode cX4_bracePresent 15 = .ok (.aload_n 0, 1) := by decide +kernel
theorem dX4_bracePresent_16 : decode cX4_bracePresent 16 = .ok (.getfield 12, 3) := by decide +kernel
theorem dX4_bracePresent_19 : decode cX4_bracePresent 19 = .ok (.getfield 105, 3) := by decide +kernel
theorem dX4_bracePresent_22 : decode cX4_bracePresent 22 = .ok (.invokevirtual 289, 3) := by decide +kernel
theorem dX4_bracePresent_25 : decode cX4_bracePresent 25 = .ok (.ireturn, 1) := by decide +kernel
theorem dX4_greatestUse_0 : decode cX4_greatestUse 0 = .ok (.aload_n 0, 1) := by decide +kernel
theorem dX4_greatestUse_1 : decode cX4_greatestUse 1 = .ok (.getfield 54, 3) := by decide +kernel
theorem dX4_greatestUse_4 : decode cX4_greatestUse 4 = .ok (.getfield 149, 3) := by decide +kernel
theorem dX4_greatestUse_7 : decode cX4_greatestUse 7 = .ok (.ifCond .ne 7, 3) := by decide +kernel
theorem dX4_greatestUse_10 : decode cX4_greatestUse 10 = .ok (.ldc2_w 156, 3) := by decide +kernel
theorem dX4_greatestUse_13 : decode cX4_greatestUse 13 = .ok (.lreturn, 1) := by decide +kernel
theorem dX4_greatestUse_14 : decode cX4_greatestUse 14 = .ok (.iload_n 1, 1) := by decide +kernel
theorem dX4_greatestUse_15 : decode cX4_greatestUse 15 = .ok (.iconst 2, 1) := by decide +kernel
theorem dX4_greatestUse_16 : decode cX4_greatestUse 16 = .ok (.if_icmp .ne 14, 3) := by decide +kernel
theorem dX4_greatestUse_19 : decode cX4_greatestUse 19 = .ok (.aload_n 0, 1) := by decide +kernel
theorem dX4_greatestUse_20 : decode cX4_greatestUse 20 = .ok (.getfield 54, 3) := by decide +kernel
theorem dX4_greatestUse_23 : decode cX4_greatestUse 23 = .ok (.getfield 292, 3) := by decide +kernel
theorem dX4_greatestUse_26 : decode cX4_greatestUse 26 = .ok (.i2l, 1) := by decide +kernel
theorem dX4_greatestUse_27 : decode cX4_greatestUse 27 = .ok (.goto 21, 3) := by decide +kernel
theorem dX4_greatestUse_30 : decode cX4_greatestUse 30 = .ok (.aload_n 0, 1) := by decide +kernel
theorem dX4_greatestUse_31 : decode cX4_greatestUse 31 = .ok (.getfield 54, 3) := by decide +kernel
theorem dX4_greatestUse_34 : decode cX4_greatestUse 34 = .ok (.invokevirtual 209, 3) := by decide +kernel
theorem dX4_greatestUse_37 : decode cX4_greatestUse 37 = .ok (.aload_n 0, 1) := by decide +kernel
theorem dX4_greatestUse_38 : decode cX4_greatestUse 38 = .ok (.getfield 54, 3) := by decide +kernel
theorem dX4_greatestUse_41 : decode cX4_greatestUse 41 = .ok (.invokevirtual 212, 3) := by decide +kernel
theorem dX4_greatestUse_44 : decode cX4_greatestUse 44 = .ok (.iload_n 1, 1) := by decide +kernel
theorem dX4_greatestUse_45 : decode cX4_greatestUse 45 = .ok (.invokestatic 190, 3) := by decide +kernel
theorem dX4_greatestUse_48 : decode cX4_greatestUse 48 = .ok (.lreturn, 1) := by decide +kernel
theorem dX4_standsOn_0 : decode cX4_standsOn 0 = .ok (.aload_n 0, 1) := by decide +kernel
theorem dX4_standsOn_1 : decode cX4_standsOn 1 = .ok (.getfield 54, 3) := by decide +kernel
theorem dX4_standsOn_4 : decode cX4_standsOn 4 = .ok (.iload_n 1, 1) := by decide +kernel
theorem dX4_standsOn_5 : decode cX4_standsOn 5 = .ok (.invokevirtual 241, 3) := by decide +kernel
theorem dX4_standsOn_8 : decode cX4_standsOn 8 = .ok (.aload_n 0, 1) := by decide +kernel
theorem dX4_standsOn_9 : decode cX4_standsOn 9 = .ok (.getfield 54, 3) := by decide +kernel
theorem dX4_standsOn_12 : decode cX4_standsOn 12 = .ok (.invokevirtual 247, 3) := by decide +kernel
theorem dX4_standsOn_15 : decode cX4_standsOn 15 = .ok (.aload_n 0, 1) := by decide +kernel
theorem dX4_standsOn_16 : decode cX4_standsOn 16 = .ok (.getfield 54, 3) := by decide +kernel
theorem dX4_standsOn_19 : decode cX4_standsOn 19 = .ok (.getfield 149, 3) := by decide +kernel
theorem dX4_standsOn_22 : decode cX4_standsOn 22 = .ok (.ifCond .eq 25, 3) := by decide +kernel
theorem dX4_standsOn_25 : decode cX4_standsOn 25 = .ok (.aload_n 0, 1) := by decide +kernel
theorem dX4_standsOn_26 : decode cX4_standsOn 26 = .ok (.getfield 54, 3) := by decide +kernel
theorem dX4_standsOn_29 : decode cX4_standsOn 29 = .ok (.invokevirtual 209, 3) := by decide +kernel
theorem dX4_standsOn_32 : decode cX4_standsOn 32 = .ok (.aload_n 0, 1) := by decide +kernel
theorem dX4_standsOn_33 : decode cX4_standsOn 33 = .ok (.getfield 54, 3) := by decide +kernel
theorem dX4_standsOn_36 : decode cX4_standsOn 36 = .ok (.invokevirtual 212, 3) := by decide +kernel
theorem dX4_standsOn_39 : decode cX4_standsOn 39 = .ok (.lcmp, 1) := by decide +kernel
theorem dX4_standsOn_40 : decode cX4_standsOn 40 = .ok (.ifCond .gt 7, 3) := by decide +kernel
theorem dX4_standsOn_43 : decode cX4_standsOn 43 = .ok (.iconst 1, 1) := by decide +kernel
theorem dX4_standsOn_44 : decode cX4_standsOn 44 = .ok (.goto 4, 3) := by decide +kernel
theorem dX4_standsOn_47 : decode cX4_standsOn 47 = .ok (.iconst 0, 1) := by decide +kernel
theorem dX4_standsOn_48 : decode cX4_standsOn 48 = .ok (.ireturn, 1) := by decide +kernel
theorem dX4_isSpot_0 : decode cX4_isSpot 0 = .ok (.aload_n 0, 1) := by decide +kernel
theorem dX4_isSpot_1 : decode cX4_isSpot 1 = .ok (.getfield 54, 3) := by decide +kernel
theorem dX4_isSpot_4 : decode cX4_isSpot 4 = .ok (.aload_n 0, 1) := by decide +kernel
theorem dX4_isSpot_5 : decode cX4_isSpot 5 = .ok (.getfield 37, 3) := by decide +kernel
theorem dX4_isSpot_8 : decode cX4_isSpot 8 = .ok (.i2l, 1) := by decide +kernel
theorem dX4_isSpot_9 : decode cX4_isSpot 9 = .ok (.aload_n 0, 1) := by decide +kernel
theorem dX4_isSpot_10 : decode cX4_isSpot 10 = .ok (.getfield 37, 3) := by decide +kernel
theorem dX4_isSpot_13 : decode cX4_isSpot 13 = .ok (.iload_n 1, 1) := by decide +kernel
theorem dX4_isSpot_14 : decode cX4_isSpot 14 = .ok (.invokestatic 222, 3) := by decide +kernel
theorem dX4_isSpot_17 : decode cX4_isSpot 17 = .ok (.imul, 1) := by decide +kernel
theorem dX4_isSpot_18 : decode cX4_isSpot 18 = .ok (.i2l, 1) := by decide +kernel
theorem dX4_isSpot_19 : decode cX4_isSpot 19 = .ok (.aload_n 0, 1) := by decide +kernel
theorem dX4_isSpot_20 : decode cX4_isSpot 20 = .ok (.getfield 37, 3) := by decide +kernel
theorem dX4_isSpot_23 : decode cX4_isSpot 23 = .ok (.iload_n 1, 1) := by decide +kernel
theorem dX4_isSpot_24 : decode cX4_isSpot 24 = .ok (.invokestatic 225, 3) := by decide +kernel
theorem dX4_isSpot_27 : decode cX4_isSpot 27 = .ok (.imul, 1) := by decide +kernel
theorem dX4_isSpot_28 : decode cX4_isSpot 28 = .ok (.i2l, 1) := by decide +kernel
theorem dX4_isSpot_29 : decode cX4_isSpot 29 = .ok (.invokevirtual 285, 3) := by decide +kernel
theorem dX4_isSpot_32 : decode cX4_isSpot 32 = .ok (.aload_n 0, 1) := by decide +kernel
theorem dX4_isSpot_33 : decode cX4_isSpot 33 = .ok (.getfield 54, 3) := by decide +kernel
theorem dX4_isSpot_36 : decode cX4_isSpot 36 = .ok (.invokevirtual 247, 3) := by decide +kernel
theorem dX4_isSpot_39 : decode cX4_isSpot 39 = .ok (.aload_n 0, 1) := by decide +kernel
theorem dX4_isSpot_40 : decode cX4_isSpot 40 = .ok (.getfield 54, 3) := by decide +kernel
theorem dX4_isSpot_43 : decode cX4_isSpot 43 = .ok (.getfield 149, 3) := by decide +kernel
theorem dX4_isSpot_46 : decode cX4_isSpot 46 = .ok (.ifCond .ne 5, 3) := by decide +kernel
theorem dX4_isSpot_49 : decode cX4_isSpot 49 = .ok (.iconst 0, 1) := by decide +kernel
theorem dX4_isSpot_50 : decode cX4_isSpot 50 = .ok (.ireturn, 1) := by decide +kernel
theorem dX4_isSpot_51 : decode cX4_isSpot 51 = .ok (.iconst 0, 1) := by decide +kernel
theorem dX4_isSpot_52 : decode cX4_isSpot 52 = .ok (.istore_n 2, 1) := by decide +kernel
theorem dX4_isSpot_53 : decode cX4_isSpot 53 = .ok (.iload_n 2, 1) := by decide +kernel
theorem dX4_isSpot_54 : decode cX4_isSpot 54 = .ok (.aload_n 0, 1) := by decide +kernel
theorem dX4_isSpot_55 : decode cX4_isSpot 55 = .ok (.getfield 76, 3) := by decide +kernel
theorem dX4_isSpot_58 : decode cX4_isSpot 58 = .ok (.if_icmp .ge 35, 3) := by decide +kernel
theorem dX4_isSpot_61 : decode cX4_isSpot 61 = .ok (.aload_n 0, 1) := by decide +kernel
theorem dX4_isSpot_62 : decode cX4_isSpot 62 = .ok (.getfield 54, 3) := by decide +kernel
theorem dX4_isSpot_65 : decode cX4_isSpot 65 = .ok (.aload_n 0, 1) := by decide +kernel
theorem dX4_isSpot_66 : decode cX4_isSpot 66 = .ok (.getfield 41, 3) := by decide +kernel
theorem dX4_isSpot_69 : decode cX4_isSpot 69 = .ok (.iload_n 2, 1) := by decide +kernel
theorem dX4_isSpot_70 : decode cX4_isSpot 70 = .ok (.iaload, 1) := by decide +kernel
theorem dX4_isSpot_71 : decode cX4_isSpot 71 = .ok (.invokevirtual 179, 3) := by decide +kernel
theorem dX4_isSpot_74 : decode cX4_isSpot 74 = .ok (.aload_n 0, 1) := by decide +kernel
theorem dX4_isSpot_75 : decode cX4_isSpot 75 = .ok (.getfield 45, 3) := by decide +kernel
theorem dX4_isSpot_78 : decode cX4_isSpot 78 = .ok (.iload_n 2, 1) := by decide +kernel
theorem dX4_isSpot_79 : decode cX4_isSpot 79 = .ok (.iaload, 1) := by decide +kernel
theorem dX4_isSpot_80 : decode cX4_isSpot 80 = .ok (.i2l, 1) := by decide +kernel
theorem dX4_isSpot_81 : decode cX4_isSpot 81 = .ok (.lcmp, 1) := by decide +kernel
theorem dX4_isSpot_82 : decode cX4_isSpot 82 = .ok (.ifCond .eq 5, 3) := by decide +kernel
theorem dX4_isSpot_85 : decode cX4_isSpot 85 = .ok (.iconst 0, 1) := by decide +kernel
theorem dX4_isSpot_86 : decode cX4_isSpot 86 = .ok (.ireturn, 1) := by decide +kernel
theorem dX4_isSpot_87 : decode cX4_isSpot 87 = .ok (.iinc 2 1, 3) := by decide +kernel
theorem dX4_isSpot_90 : decode cX4_isSpot 90 = .ok (.goto (-37), 3) := by decide +kernel
theorem dX4_isSpot_93 : decode cX4_isSpot 93 = .ok (.iconst 1, 1) := by decide +kernel
theorem dX4_isSpot_94 : decode cX4_isSpot 94 = .ok (.ireturn, 1) := by decide +kernel
theorem dX4_groupShares_0 : decode cX4_groupShares 0 = .ok (.iconst 0, 1) := by decide +kernel
theorem dX4_groupShares_1 : decode cX4_groupShares 1 = .ok (.istore_n 1, 1) := by decide +kernel
theorem dX4_groupShares_2 : decode cX4_groupShares 2 = .ok (.iload_n 1, 1) := by decide +kernel
theorem dX4_groupShares_3 : decode cX4_groupShares 3 = .ok (.aload_n 0, 1) := by decide +kernel
theorem dX4_groupShares_4 : decode cX4_groupShares 4 = .ok (.getfield 12, 3) := by decide +kernel
theorem dX4_groupShares_7 : decode cX4_groupShares 7 = .ok (.getfield 89, 3) := by decide +kernel
theorem dX4_groupShares_10 : decode cX4_groupShares 10 = .ok (.if_icmp .ge 48, 3) := by decide +kernel
theorem dX4_groupShares_13 : decode cX4_groupShares 13 = .ok (.aload_n 0, 1) := by decide +kernel
theorem dX4_groupShares_14 : decode cX4_groupShares 14 = .ok (.getfield 54, 3) := by decide +kernel
theorem dX4_groupShares_17 : decode cX4_groupShares 17 = .ok (.iload_n 1, 1) := by decide +kernel
theorem dX4_groupShares_18 : decode cX4_groupShares 18 = .ok (.invokevirtual 179, 3) := by decide +kernel
theorem dX4_groupShares_21 : decode cX4_groupShares 21 = .ok (.lstore_n 2, 1) := by decide +kernel
theorem dX4_groupShares_22 : decode cX4_groupShares 22 = .ok (.lload_n 2, 1) := by decide +kernel
theorem dX4_groupShares_23 : decode cX4_groupShares 23 = .ok (.lconst 0, 1) := by decide +kernel
theorem dX4_groupShares_24 : decode cX4_groupShares 24 = .ok (.lcmp, 1) := by decide +kernel
theorem dX4_groupShares_25 : decode cX4_groupShares 25 = .ok (.ifCond .lt 27, 3) := by decide +kernel
theorem dX4_groupShares_28 : decode cX4_groupShares 28 = .ok (.lload_n 2, 1) := by decide +kernel
theorem dX4_groupShares_29 : decode cX4_groupShares 29 = .ok (.ldc2_w 295, 3) := by decide +kernel
theorem dX4_groupShares_32 : decode cX4_groupShares 32 = .ok (.lcmp, 1) := by decide +kernel
theorem dX4_groupShares_33 : decode cX4_groupShares 33 = .ok (.ifCond .ge 19, 3) := by decide +kernel
theorem dX4_groupShares_36 : decode cX4_groupShares 36 = .ok (.aload_n 0, 1) := by decide +kernel
theorem dX4_groupShares_37 : decode cX4_groupShares 37 = .ok (.getfield 48, 3) := by decide +kernel
theorem dX4_groupShares_40 : decode cX4_groupShares 40 = .ok (.iload_n 1, 1) := by decide +kernel
theorem dX4_groupShares_41 : decode cX4_groupShares 41 = .ok (.bipush 100, 2) := by decide +kernel
theorem dX4_groupShares_43 : decode cX4_groupShares 43 = .ok (.imul, 1) := by decide +kernel
theorem dX4_groupShares_44 : decode cX4_groupShares 44 = .ok (.lload_n 2, 1) := by decide +kernel
theorem dX4_groupShares_45 : decode cX4_groupShares 45 = .ok (.l2i, 1) := by decide +kernel
theorem dX4_groupShares_46 : decode cX4_groupShares 46 = .ok (.iadd, 1) := by decide +kernel
theorem dX4_groupShares_47 : decode cX4_groupShares 47 = .ok (.dup2, 1) := by decide +kernel
theorem dX4_groupShares_48 : decode cX4_groupShares 48 = .ok (.iaload, 1) := by decide +kernel
theorem dX4_groupShares_49 : decode cX4_groupShares 49 = .ok (.iconst 1, 1) := by decide +kernel
theorem dX4_groupShares_50 : decode cX4_groupShares 50 = .ok (.iadd, 1) := by decide +kernel
theorem dX4_groupShares_51 : decode cX4_groupShares 51 = .ok (.iastore, 1) := by decide +kernel
theorem dX4_groupShares_52 : decode cX4_groupShares 52 = .ok (.iinc 1 1, 3) := by decide +kernel
theorem dX4_groupShares_55 : decode cX4_groupShares 55 = .ok (.goto (-53), 3) := by decide +kernel
theorem dX4_groupShares_58 : decode cX4_groupShares 58 = .ok (.return_, 1) := by decide +kernel
theorem dX4_pileWithSmallestLargestGroup_0 : decode cX4_pileWithSmallestLargestGroup 0 = .ok (.bipush (-9), 2) := by decide +kernel
theorem dX4_pileWithSmallestLargestGroup_2 : decode cX4_pileWithSmallestLargestGroup 2 = .ok (.istore_n 1, 1) := by decide +kernel
theorem dX4_pileWithSmallestLargestGroup_3 : decode cX4_pileWithSmallestLargestGroup 3 = .ok (.iconst 0, 1) := by decide +kernel
theorem dX4_pileWithSmallestLargestGroup_4 : decode cX4_pileWithSmallestLargestGroup 4 = .ok (.istore_n 2, 1) := by decide +kernel
theorem dX4_pileWithSmallestLargestGroup_5 : decode cX4_pileWithSmallestLargestGroup 5 = .ok (.iconst 0, 1) := by decide +kernel
theorem dX4_pileWithSmallestLargestGroup_6 : decode cX4_pileWithSmallestLargestGroup 6 = .ok (.istore_n 3, 1) := by decide +kernel
theorem dX4_pileWithSmallestLargestGroup_7 : decode cX4_pileWithSmallestLargestGroup 7 = .ok (.iload_n 3, 1) := by decide +kernel
theorem dX4_pileWithSmallestLargestGroup_8 : decode cX4_pileWithSmallestLargestGroup 8 = .ok (.aload_n 0, 1) := by decide +kernel
theorem dX4_pileWithSmallestLargestGroup_9 : decode cX4_pileWithSmallestLargestGroup 9 = .ok (.getfield 12, 3) := by decide +kernel
theorem dX4_pileWithSmallestLargestGroup_12 : decode cX4_pileWithSmallestLargestGroup 12 = .ok (.getfield 89, 3) := by decide +kernel
theorem dX4_pileWithSmallestLargestGroup_15 : decode cX4_pileWithSmallestLargestGroup 15 = .ok (.if_icmp .ge 78, 3) := by decide +kernel
theorem dX4_pileWithSmallestLargestGroup_18 : decode cX4_pileWithSmallestLargestGroup 18 = .ok (.aload_n 0, 1) := by decide +kernel
theorem dX4_pileWithSmallestLargestGroup_19 : decode cX4_pileWithSmallestLargestGroup 19 = .ok (.getfield 12, 3) := by decide +kernel
theorem dX4_pileWithSmallestLargestGroup_22 : decode cX4_pileWithSmallestLargestGroup 22 = .ok (.iload_n 3, 1) := by decide +kernel
theorem dX4_pileWithSmallestLargestGroup_23 : decode cX4_pileWithSmallestLargestGroup 23 = .ok (.invokevirtual 102, 3) := by decide +kernel
theorem dX4_pileWithSmallestLargestGroup_26 : decode cX4_pileWithSmallestLargestGroup 26 = .ok (.ifCond .ne 6, 3) := by decide +kernel
theorem dX4_pileWithSmallestLargestGroup_29 : decode cX4_pileWithSmallestLargestGroup 29 = .ok (.goto 58, 3) := by decide +kernel
theorem dX4_pileWithSmallestLargestGroup_32 : decode cX4_pileWithSmallestLargestGroup 32 = .ok (.iconst 0, 1) := by decide +kernel
theorem dX4_pileWithSmallestLargestGroup_33 : decode cX4_pileWithSmallestLargestGroup 33 = .ok (.istore 4, 2) := by decide +kernel
theorem dX4_pileWithSmallestLargestGroup_35 : decode cX4_pileWithSmallestLargestGroup 35 = .ok (.iconst 0, 1) := by decide +kernel
theorem dX4_pileWithSmallestLargestGroup_36 : decode cX4_pileWithSmallestLargestGroup 36 = .ok (.istore 5, 2) := by decide +kernel
theorem dX4_pileWithSmallestLargestGroup_38 : decode cX4_pileWithSmallestLargestGroup 38 = .ok (.iload 5, 2) := by decide +kernel
theorem dX4_pileWithSmallestLargestGroup_40 : decode cX4_pileWithSmallestLargestGroup 40 = .ok (.bipush 100, 2) := by decide +kernel
theorem dX4_pileWithSmallestLargestGroup_42 : decode cX4_pileWithSmallestLargestGroup 42 = .ok (.if_icmp .ge 28, 3) := by decide +kernel
theorem dX4_pileWithSmallestLargestGroup_45 : decode cX4_pileWithSmallestLargestGroup 45 = .ok (.iload 4, 2) := by decide +kernel
theorem dX4_pileWithSmallestLargestGroup_47 : decode cX4_pileWithSmallestLargestGroup 47 = .ok (.aload_n 0, 1) := by decide +kernel
theorem dX4_pileWithSmallestLargestGroup_48 : decode cX4_pileWithSmallestLargestGroup 48 = .ok (.getfield 48, 3) := by decide +kernel
theorem dX4_pileWithSmallestLargestGroup_51 : decode cX4_pileWithSmallestLargestGroup 51 = .ok (.iload_n 3, 1) := by decide +kernel
theorem dX4_pileWithSmallestLargestGroup_52 : decode cX4_pileWithSmallestLargestGroup 52 = .ok (.bipush 100, 2) := by decide +kernel
theorem dX4_pileWithSmallestLargestGroup_54 : decode cX4_pileWithSmallestLargestGroup 54 = .ok (.imul, 1) := by decide +kernel
theorem dX4_pileWithSmallestLargestGroup_55 : decode cX4_pileWithSmallestLargestGroup 55 = .ok (.iload 5, 2) := by decide +kernel
theorem dX4_pileWithSmallestLargestGroup_57 : decode cX4_pileWithSmallestLargestGroup 57 = .ok (.iadd, 1) := by decide +kernel
theorem dX4_pileWithSmallestLargestGroup_58 : decode cX4_pileWithSmallestLargestGroup 58 = .ok (.iaload, 1) := by decide +kernel
theorem dX4_pileWithSmallestLargestGroup_59 : decode cX4_pileWithSmallestLargestGroup 59 = .ok (.invokestatic 297, 3) := by decide +kernel
theorem dX4_pileWithSmallestLargestGroup_62 : decode cX4_pileWithSmallestLargestGroup 62 = .ok (.istore 4, 2) := by decide +kernel
theorem dX4_pileWithSmallestLargestGroup_64 : decode cX4_pileWithSmallestLargestGroup 64 = .ok (.iinc 5 1, 3) := by decide +kernel
theorem dX4_pileWithSmallestLargestGroup_67 : decode cX4_pileWithSmallestLargestGroup 67 = .ok (.goto (-29), 3) := by decide +kernel
theorem dX4_pileWithSmallestLargestGroup_70 : decode cX4_pileWithSmallestLargestGroup 70 = .ok (.iload_n 1, 1) := by decide +kernel
theorem dX4_pileWithSmallestLargestGroup_71 : decode cX4_pileWithSmallestLargestGroup 71 = .ok (.bipush (-9), 2) := by decide +kernel
theorem dX4_pileWithSmallestLargestGroup_73 : decode cX4_pileWithSmallestLargestGroup 73 = .ok (.if_icmp .eq 9, 3) := by decide +kernel
theorem dX4_pileWithSmallestLargestGroup_76 : decode cX4_pileWithSmallestLargestGroup 76 = .ok (.iload 4, 2) := by decide +kernel
theorem dX4_pileWithSmallestLargestGroup_78 : decode cX4_pileWithSmallestLargestGroup 78 = .ok (.iload_n 2, 1) := by decide +kernel
theorem dX4_pileWithSmallestLargestGroup_79 : decode cX4_pileWithSmallestLargestGroup 79 = .ok (.if_icmp .ge 8, 3) := by decide +kernel
theorem dX4_pileWithSmallestLargestGroup_82 : decode cX4_pileWithSmallestLargestGroup 82 = .ok (.iload_n 3, 1) := by decide +kernel
theorem dX4_pileWithSmallestLargestGroup_83 : decode cX4_pileWithSmallestLargestGroup 83 = .ok (.istore_n 1, 1) := by decide +kernel
theorem dX4_pileWithSmallestLargestGroup_84 : decode cX4_pileWithSmallestLargestGroup 84 = .ok (.iload 4, 2) := by decide +kernel
theorem dX4_pileWithSmallestLargestGroup_86 : decode cX4_pileWithSmallestLargestGroup 86 = .ok (.istore_n 2, 1) := by decide +kernel
theorem dX4_pileWithSmallestLargestGroup_87 : decode cX4_pileWithSmallestLargestGroup 87 = .ok (.iinc 3 1, 3) := by decide +kernel
theorem dX4_pileWithSmallestLargestGroup_90 : decode cX4_pileWithSmallestLargestGroup 90 = .ok (.goto (-83), 3) := by decide +kernel
theorem dX4_pileWithSmallestLargestGroup_93 : decode cX4_pileWithSmallestLargestGroup 93 = .ok (.iload_n 1, 1) := by decide +kernel
theorem dX4_pileWithSmallestLargestGroup_94 : decode cX4_pileWithSmallestLargestGroup 94 = .ok (.ireturn, 1) := by decide +kernel
theorem dX4_power_0 : decode cX4_power 0 = .ok (.iconst 1, 1) := by decide +kernel
theorem dX4_power_1 : decode cX4_power 1 = .ok (.istore_n 2, 1) := by decide +kernel
theorem dX4_power_2 : decode cX4_power 2 = .ok (.iconst 0, 1) := by decide +kernel
theorem dX4_power_3 : decode cX4_power 3 = .ok (.istore_n 3, 1) := by decide +kernel
theorem dX4_power_4 : decode cX4_power 4 = .ok (.iload_n 3, 1) := by decide +kernel
theorem dX4_power_5 : decode cX4_power 5 = .ok (.iload_n 1, 1) := by decide +kernel
theorem dX4_power_6 : decode cX4_power 6 = .ok (.if_icmp .ge 13, 3) := by decide +kernel
theorem dX4_power_9 : decode cX4_power 9 = .ok (.iload_n 2, 1) := by decide +kernel
theorem dX4_power_10 : decode cX4_power 10 = .ok (.iload_n 0, 1) := by decide +kernel
theorem dX4_power_11 : decode cX4_power 11 = .ok (.imul, 1) := by decide +kernel
theorem dX4_power_12 : decode cX4_power 12 = .ok (.istore_n 2, 1) := by decide +kernel
theorem dX4_power_13 : decode cX4_power 13 = .ok (.iinc 3 1, 3) := by decide +kernel
theorem dX4_power_16 : decode cX4_power 16 = .ok (.goto (-12), 3) := by decide +kernel
theorem dX4_power_19 : decode cX4_power 19 = .ok (.iload_n 2, 1) := by decide +kernel
theorem dX4_power_20 : decode cX4_power 20 = .ok (.ireturn, 1) := by decide +kernel
theorem dX4_inLowestTerms_0 : decode cX4_inLowestTerms 0 = .ok (.lload_n 0, 1) := by decide +kernel
theorem dX4_inLowestTerms_1 : decode cX4_inLowestTerms 1 = .ok (.invokestatic 302, 3) := by decide +kernel
theorem dX4_inLowestTerms_4 : decode cX4_inLowestTerms 4 = .ok (.lload_n 2, 1) := by decide +kernel
theorem dX4_inLowestTerms_5 : decode cX4_inLowestTerms 5 = .ok (.invokestatic 302, 3) := by decide +kernel
theorem dX4_inLowestTerms_8 : decode cX4_inLowestTerms 8 = .ok (.invokestatic 306, 3) := by decide +kernel
theorem dX4_inLowestTerms_11 : decode cX4_inLowestTerms 11 = .ok (.lstore 5, 2) := by decide +kernel
theorem dX4_inLowestTerms_13 : decode cX4_inLowestTerms 13 = .ok (.lload 5, 2) := by decide +kernel
theorem dX4_inLowestTerms_15 : decode cX4_inLowestTerms 15 = .ok (.lconst 0, 1) := by decide +kernel
theorem dX4_inLowestTerms_16 : decode cX4_inLowestTerms 16 = .ok (.lcmp, 1) := by decide +kernel
theorem dX4_inLowestTerms_17 : decode cX4_inLowestTerms 17 = .ok (.ifCond .ne 7, 3) := by decide +kernel
theorem dX4_inLowestTerms_20 : decode cX4_inLowestTerms 20 = .ok (.iload 4, 2) := by decide +kernel
theorem dX4_inLowestTerms_22 : decode cX4_inLowestTerms 22 = .ok (.i2l, 1) := by decide +kernel
theorem dX4_inLowestTerms_23 : decode cX4_inLowestTerms 23 = .ok (.lreturn, 1) := by decide +kernel
theorem dX4_inLowestTerms_24 : decode cX4_inLowestTerms 24 = .ok (.iload 4, 2) := by decide +kernel
theorem dX4_inLowestTerms_26 : decode cX4_inLowestTerms 26 = .ok (.ifCond .ne 7, 3) := by decide +kernel
theorem dX4_inLowestTerms_29 : decode cX4_inLowestTerms 29 = .ok (.lload_n 0, 1) := by decide +kernel
theorem dX4_inLowestTerms_30 : decode cX4_inLowestTerms 30 = .ok (.goto 4, 3) := by decide +kernel
theorem dX4_inLowestTerms_33 : decode cX4_inLowestTerms 33 = .ok (.lload_n 2, 1) := by decide +kernel
theorem dX4_inLowestTerms_34 : decode cX4_inLowestTerms 34 = .ok (.lload 5, 2) := by decide +kernel
theorem dX4_inLowestTerms_36 : decode cX4_inLowestTerms 36 = .ok (.ldiv, 1) := by decide +kernel
theorem dX4_inLowestTerms_37 : decode cX4_inLowestTerms 37 = .ok (.lreturn, 1) := by decide +kernel
theorem dX4_commonDivisor_0 : decode cX4_commonDivisor 0 = .ok (.iconst 0, 1) := by decide +kernel
theorem dX4_commonDivisor_1 : decode cX4_commonDivisor 1 = .ok (.istore 4, 2) := by decide +kernel
theorem dX4_commonDivisor_3 : decode cX4_commonDivisor 3 = .ok (.iload 4, 2) := by decide +kernel
theorem dX4_commonDivisor_5 : decode cX4_commonDivisor 5 = .ok (.bipush 100, 2) := by decide +kernel
theorem dX4_commonDivisor_7 : decode cX4_commonDivisor 7 = .ok (.if_icmp .ge 25, 3) := by decide +kernel
theorem dX4_commonDivisor_10 : decode cX4_commonDivisor 10 = .ok (.lload_n 2, 1) := by decide +kernel
theorem dX4_commonDivisor_11 : decode cX4_commonDivisor 11 = .ok (.lconst 0, 1) := by decide +kernel
theorem dX4_commonDivisor_12 : decode cX4_commonDivisor 12 = .ok (.lcmp, 1) := by decide +kernel
theorem dX4_commonDivisor_13 : decode cX4_commonDivisor 13 = .ok (.ifCond .eq 19, 3) := by decide +kernel
theorem dX4_commonDivisor_16 : decode cX4_commonDivisor 16 = .ok (.lload_n 0, 1) := by decide +kernel
theorem dX4_commonDivisor_17 : decode cX4_commonDivisor 17 = .ok (.lload_n 2, 1) := by decide +kernel
theorem dX4_commonDivisor_18 : decode cX4_commonDivisor 18 = .ok (.lrem, 1) := by decide +kernel
theorem dX4_commonDivisor_19 : decode cX4_commonDivisor 19 = .ok (.lstore 5, 2) := by decide +kernel
theorem dX4_commonDivisor_21 : decode cX4_commonDivisor 21 = .ok (.lload_n 2, 1) := by decide +kernel
theorem dX4_commonDivisor_22 : decode cX4_commonDivisor 22 = .ok (.lstore_n 0, 1) := by decide +kernel
theorem dX4_commonDivisor_23 : decode cX4_commonDivisor 23 = .ok (.lload 5, 2) := by decide +kernel
theorem dX4_commonDivisor_25 : decode cX4_commonDivisor 25 = .ok (.lstore_n 2, 1) := by decide +kernel
theorem dX4_commonDivisor_26 : decode cX4_commonDivisor 26 = .ok (.iinc 4 1, 3) := by decide +kernel
theorem dX4_commonDivisor_29 : decode cX4_commonDivisor 29 = .ok (.goto (-26), 3) := by decide +kernel
theorem dX4_commonDivisor_32 : decode cX4_commonDivisor 32 = .ok (.lload_n 0, 1) := by decide +kernel
theorem dX4_commonDivisor_33 : decode cX4_commonDivisor 33 = .ok (.lreturn, 1) := by decide +kernel
theorem dX4_compareFractions_0 : decode cX4_compareFractions 0 = .ok (.iconst 1, 1) := by decide +kernel
theorem dX4_compareFractions_1 : decode cX4_compareFractions 1 = .ok (.istore 8, 2) := by decide +kernel
theorem dX4_compareFractions_3 : decode cX4_compareFractions 3 = .ok (.iconst 0, 1) := by decide +kernel
theorem dX4_compareFractions_4 : decode cX4_compareFractions 4 = .ok (.istore 9, 2) := by decide +kernel
theorem dX4_compareFractions_6 : decode cX4_compareFractions 6 = .ok (.iload 9, 2) := by decide +kernel
theorem dX4_compareFractions_8 : decode cX4_compareFractions 8 = .ok (.bipush 100, 2) := by decide +kernel
theorem dX4_compareFractions_10 : decode cX4_compareFractions 10 = .ok (.if_icmp .ge 114, 3) := by decide +kernel
theorem dX4_compareFractions_13 : decode cX4_compareFractions 13 = .ok (.lload_n 2, 1) := by decide +kernel
theorem dX4_compareFractions_14 : decode cX4_compareFractions 14 = .ok (.lconst 0, 1) := by decide +kernel
theorem dX4_compareFractions_15 : decode cX4_compareFractions 15 = .ok (.lcmp, 1) := by decide +kernel
theorem dX4_compareFractions_16 : decode cX4_compareFractions 16 = .ok (.ifCond .eq 108, 3) := by decide +kernel
theorem dX4_compareFractions_19 : decode cX4_compareFractions 19 = .ok (.lload 6, 2) := by decide +kernel
theorem dX4_compareFractions_21 : decode cX4_compareFractions 21 = .ok (.lconst 0, 1) := by decide +kernel
theorem dX4_compareFractions_22 : decode cX4_compareFractions 22 = .ok (.lcmp, 1) := by decide +kernel
theorem dX4_compareFractions_23 : decode cX4_compareFractions 23 = .ok (.ifCond .eq 101, 3) := by decide +kernel
theorem dX4_compareFractions_26 : decode cX4_compareFractions 26 = .ok (.lload_n 0, 1) := by decide +kernel
theorem dX4_compareFractions_27 : decode cX4_compareFractions 27 = .ok (.lload_n 2, 1) := by decide +kernel
theorem dX4_compareFractions_28 : decode cX4_compareFractions 28 = .ok (.ldiv, 1) := by decide +kernel
theorem dX4_compareFractions_29 : decode cX4_compareFractions 29 = .ok (.lstore 10, 2) := by decide +kernel
theorem dX4_compareFractions_31 : decode cX4_compareFractions 31 = .ok (.lload 4, 2) := by decide +kernel
theorem dX4_compareFractions_33 : decode cX4_compareFractions 33 = .ok (.lload 6, 2) := by decide +kernel
theorem dX4_compareFractions_35 : decode cX4_compareFractions 35 = .ok (.ldiv, 1) := by decide +kernel
theorem dX4_compareFractions_36 : decode cX4_compareFractions 36 = .ok (.lstore 12, 2) := by decide +kernel
theorem dX4_compareFractions_38 : decode cX4_compareFractions 38 = .ok (.lload 10, 2) := by decide +kernel
theorem dX4_compareFractions_40 : decode cX4_compareFractions 40 = .ok (.lload 12, 2) := by decide +kernel
theorem dX4_compareFractions_42 : decode cX4_compareFractions 42 = .ok (.lcmp, 1) := by decide +kernel
theorem dX4_compareFractions_43 : decode cX4_compareFractions 43 = .ok (.ifCond .eq 20, 3) := by decide +kernel
theorem dX4_compareFractions_46 : decode cX4_compareFractions 46 = .ok (.lload 10, 2) := by decide +kernel
theorem dX4_compareFractions_48 : decode cX4_compareFractions 48 = .ok (.lload 12, 2) := by decide +kernel
theorem dX4_compareFractions_50 : decode cX4_compareFractions 50 = .ok (.lcmp, 1) := by decide +kernel
theorem dX4_compareFractions_51 : decode cX4_compareFractions 51 = .ok (.ifCond .le 8, 3) := by decide +kernel
theorem dX4_compareFractions_54 : decode cX4_compareFractions 54 = .ok (.iload 8, 2) := by decide +kernel
theorem dX4_compareFractions_56 : decode cX4_compareFractions 56 = .ok (.goto 6, 3) := by decide +kernel
theorem dX4_compareFractions_59 : decode cX4_compareFractions 59 = .ok (.iload 8, 2) := by decide +kernel
theorem dX4_compareFractions_61 : decode cX4_compareFractions 61 = .ok (.ineg, 1) := by decide +kernel
theorem dX4_compareFractions_62 : decode cX4_compareFractions 62 = .ok (.ireturn, 1) := by decide +kernel
theorem dX4_compareFractions_63 : decode cX4_compareFractions 63 = .ok (.lload_n 0, 1) := by decide +kernel
theorem dX4_compareFractions_64 : decode cX4_compareFractions 64 = .ok (.lload_n 2, 1) := by decide +kernel
theorem dX4_compareFractions_65 : decode cX4_compareFractions 65 = .ok (.lrem, 1) := by decide +kernel
theorem dX4_compareFractions_66 : decode cX4_compareFractions 66 = .ok (.lstore 14, 2) := by decide +kernel
theorem dX4_compareFractions_68 : decode cX4_compareFractions 68 = .ok (.lload 4, 2) := by decide +kernel
theorem dX4_compareFractions_70 : decode cX4_compareFractions 70 = .ok (.lload 6, 2) := by decide +kernel
theorem dX4_compareFractions_72 : decode cX4_compareFractions 72 = .ok (.lrem, 1) := by decide +kernel
theorem dX4_compareFractions_73 : decode cX4_compareFractions 73 = .ok (.lstore 16, 2) := by decide +kernel
theorem dX4_compareFractions_75 : decode cX4_compareFractions 75 = .ok (.lload 14, 2) := by decide +kernel
theorem dX4_compareFractions_77 : decode cX4_compareFractions 77 = .ok (.lconst 0, 1) := by decide +kernel
theorem dX4_compareFractions_78 : decode cX4_compareFractions 78 = .ok (.lcmp, 1) := by decide +kernel
theorem dX4_compareFractions_79 : decode cX4_compareFractions 79 = .ok (.ifCond .eq 10, 3) := by decide +kernel
theorem dX4_compareFractions_82 : decode cX4_compareFractions 82 = .ok (.lload 16, 2) := by decide +kernel
theorem dX4_compareFractions_84 : decode cX4_compareFractions 84 = .ok (.lconst 0, 1) := by decide +kernel
theorem dX4_compareFractions_85 : decode cX4_compareFractions 85 = .ok (.lcmp, 1) := by decide +kernel
theorem dX4_compareFractions_86 : decode cX4_compareFractions 86 = .ok (.ifCond .ne 14, 3) := by decide +kernel
theorem dX4_compareFractions_89 : decode cX4_compareFractions 89 = .ok (.iload 8, 2) := by decide +kernel
theorem dX4_compareFractions_91 : decode cX4_compareFractions 91 = .ok (.lload 14, 2) := by decide +kernel
theorem dX4_compareFractions_93 : decode cX4_compareFractions 93 = .ok (.lload 16, 2) := by decide +kernel
theorem dX4_compareFractions_95 : decode cX4_compareFractions 95 = .ok (.invokestatic 310, 3) := by decide +kernel
theorem dX4_compareFractions_98 : decode cX4_compareFractions 98 = .ok (.imul, 1) := by decide +kernel
theorem dX4_compareFractions_99 : decode cX4_compareFractions 99 = .ok (.ireturn, 1) := by decide +kernel
theorem dX4_compareFractions_100 : decode cX4_compareFractions 100 = .ok (.lload_n 2, 1) := by decide +kernel
theorem dX4_compareFractions_101 : decode cX4_compareFractions 101 = .ok (.lstore_n 0, 1) := by decide +kernel
theorem dX4_compareFractions_102 : decode cX4_compareFractions 102 = .ok (.lload 14, 2) := by decide +kernel
theorem dX4_compareFractions_104 : decode cX4_compareFractions 104 = .ok (.lstore_n 2, 1) := by decide +kernel
theorem dX4_compareFractions_105 : decode cX4_compareFractions 105 = .ok (.lload 6, 2) := by decide +kernel
theorem dX4_compareFractions_107 : decode cX4_compareFractions 107 = .ok (.lstore 4, 2) := by decide +kernel
theorem dX4_compareFractions_109 : decode cX4_compareFractions 109 = .ok (.lload 16, 2) := by decide +kernel
theorem dX4_compareFractions_111 : decode cX4_compareFractions 111 = .ok (.lstore 6, 2) := by decide +kernel
theorem dX4_compareFractions_113 : decode cX4_compareFractions 113 = .ok (.iload 8, 2) := by decide +kernel
theorem dX4_compareFractions_115 : decode cX4_compareFractions 115 = .ok (.ineg, 1) := by decide +kernel
theorem dX4_compareFractions_116 : decode cX4_compareFractions 116 = .ok (.istore 8, 2) := by decide +kernel
theorem dX4_compareFractions_118 : decode cX4_compareFractions 118 = .ok (.iinc 9 1, 3) := by decide +kernel
theorem dX4_compareFractions_121 : decode cX4_compareFractions 121 = .ok (.goto (-115), 3) := by decide +kernel
theorem dX4_compareFractions_124 : decode cX4_compareFractions 124 = .ok (.iconst 0, 1) := by decide +kernel
theorem dX4_compareFractions_125 : decode cX4_compareFractions 125 = .ok (.ireturn, 1) := by decide +kernel
