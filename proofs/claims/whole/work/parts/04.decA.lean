theorem dX0_init_0 : decode cX0_init 0 = .ok (.aload_n 0, 1) := by decide +kernel
theorem dX0_init_1 : decode cX0_init 1 = .ok (.invokespecial 3, 3) := by decide +kernel
theorem dX0_init_4 : decode cX0_init 4 = .ok (.aload_n 0, 1) := by decide +kernel
theorem dX0_init_5 : decode cX0_init 5 = .ok (.bipush 9, 2) := by decide +kernel
theorem dX0_init_7 : decode cX0_init 7 = .ok (.newarray .int, 2) := by decide +kernel
theorem dX0_init_9 : decode cX0_init 9 = .ok (.putfield 11, 3) := by decide +kernel
theorem dX0_init_12 : decode cX0_init 12 = .ok (.aload_n 0, 1) := by decide +kernel
theorem dX0_init_13 : decode cX0_init 13 = .ok (.bipush 9, 2) := by decide +kernel
theorem dX0_init_15 : decode cX0_init 15 = .ok (.newarray .int, 2) := by decide +kernel
theorem dX0_init_17 : decode cX0_init 17 = .ok (.putfield 15, 3) := by decide +kernel
theorem dX0_init_20 : decode cX0_init 20 = .ok (.aload_n 0, 1) := by decide +kernel
theorem dX0_init_21 : decode cX0_init 21 = .ok (.bipush 9, 2) := by decide +kernel
theorem dX0_init_23 : decode cX0_init 23 = .ok (.newarray .int, 2) := by decide +kernel
theorem dX0_init_25 : decode cX0_init 25 = .ok (.putfield 18, 3) := by decide +kernel
theorem dX0_init_28 : decode cX0_init 28 = .ok (.aload_n 0, 1) := by decide +kernel
theorem dX0_init_29 : decode cX0_init 29 = .ok (.bipush 9, 2) := by decide +kernel
theorem dX0_init_31 : decode cX0_init 31 = .ok (.newarray .int, 2) := by decide +kernel
theorem dX0_init_33 : decode cX0_init 33 = .ok (.putfield 21, 3) := by decide +kernel
theorem dX0_init_36 : decode cX0_init 36 = .ok (.aload_n 0, 1) := by decide +kernel
theorem dX0_init_37 : decode cX0_init 37 = .ok (.new 24, 3) := by decide +kernel
theorem dX0_init_40 : decode cX0_init 40 = .ok (.dup, 1) := by decide +kernel
theorem dX0_init_41 : decode cX0_init 41 = .ok (.invokespecial 26, 3) := by decide +kernel
theorem dX0_init_44 : decode cX0_init 44 = .ok (.putfield 27, 3) := by decide +kernel
theorem dX0_init_47 : decode cX0_init 47 = .ok (.aload_n 0, 1) := by decide +kernel
theorem dX0_init_48 : decode cX0_init 48 = .ok (.new 24, 3) := by decide +kernel
theorem dX0_init_51 : decode cX0_init 51 = .ok (.dup, 1) := by decide +kernel
theorem dX0_init_52 : decode cX0_init 52 = .ok (.invokespecial 26, 3) := by decide +kernel
theorem dX0_init_55 : decode cX0_init 55 = .ok (.putfield 31, 3) := by decide +kernel
theorem dX0_init_58 : decode cX0_init 58 = .ok (.return_, 1) := by decide +kernel
theorem dX0_takePiles_0 : decode cX0_takePiles 0 = .ok (.aload_n 1, 1) := by decide +kernel
theorem dX0_takePiles_1 : decode cX0_takePiles 1 = .ok (.getfield 34, 3) := by decide +kernel
theorem dX0_takePiles_4 : decode cX0_takePiles 4 = .ok (.iconst 0, 1) := by decide +kernel
theorem dX0_takePiles_5 : decode cX0_takePiles 5 = .ok (.aload_n 0, 1) := by decide +kernel
theorem dX0_takePiles_6 : decode cX0_takePiles 6 = .ok (.getfield 11, 3) := by decide +kernel
theorem dX0_takePiles_9 : decode cX0_takePiles 9 = .ok (.iconst 0, 1) := by decide +kernel
theorem dX0_takePiles_10 : decode cX0_takePiles 10 = .ok (.bipush 8, 2) := by decide +kernel
theorem dX0_takePiles_12 : decode cX0_takePiles 12 = .ok (.invokestatic 37, 3) := by decide +kernel
theorem dX0_takePiles_15 : decode cX0_takePiles 15 = .ok (.aload_n 1, 1) := by decide +kernel
theorem dX0_takePiles_16 : decode cX0_takePiles 16 = .ok (.getfield 43, 3) := by decide +kernel
theorem dX0_takePiles_19 : decode cX0_takePiles 19 = .ok (.iconst 0, 1) := by decide +kernel
theorem dX0_takePiles_20 : decode cX0_takePiles 20 = .ok (.aload_n 0, 1) := by decide +kernel
theorem dX0_takePiles_21 : decode cX0_takePiles 21 = .ok (.getfield 15, 3) := by decide +kernel
theorem dX0_takePiles_24 : decode cX0_takePiles 24 = .ok (.iconst 0, 1) := by decide +kernel
theorem dX0_takePiles_25 : decode cX0_takePiles 25 = .ok (.bipush 8, 2) := by decide +kernel
theorem dX0_takePiles_27 : decode cX0_takePiles 27 = .ok (.invokestatic 37, 3) := by decide +kernel
theorem dX0_takePiles_30 : decode cX0_takePiles 30 = .ok (.aload_n 1, 1) := by decide +kernel
theorem dX0_takePiles_31 : decode cX0_takePiles 31 = .ok (.getfield 44, 3) := by decide +kernel
theorem dX0_takePiles_34 : decode cX0_takePiles 34 = .ok (.iconst 0, 1) := by decide +kernel
theorem dX0_takePiles_35 : decode cX0_takePiles 35 = .ok (.aload_n 0, 1) := by decide +kernel
theorem dX0_takePiles_36 : decode cX0_takePiles 36 = .ok (.getfield 18, 3) := by decide +kernel
theorem dX0_takePiles_39 : decode cX0_takePiles 39 = .ok (.iconst 0, 1) := by decide +kernel
theorem dX0_takePiles_40 : decode cX0_takePiles 40 = .ok (.bipush 8, 2) := by decide +kernel
theorem dX0_takePiles_42 : decode cX0_takePiles 42 = .ok (.invokestatic 37, 3) := by decide +kernel
theorem dX0_takePiles_45 : decode cX0_takePiles 45 = .ok (.aload_n 1, 1) := by decide +kernel
theorem dX0_takePiles_46 : decode cX0_takePiles 46 = .ok (.getfield 45, 3) := by decide +kernel
theorem dX0_takePiles_49 : decode cX0_takePiles 49 = .ok (.iconst 0, 1) := by decide +kernel
theorem dX0_takePiles_50 : decode cX0_takePiles 50 = .ok (.aload_n 0, 1) := by decide +kernel
theorem dX0_takePiles_51 : decode cX0_takePiles 51 = .ok (.getfield 21, 3) := by decide +kernel
theorem dX0_takePiles_54 : decode cX0_takePiles 54 = .ok (.iconst 0, 1) := by decide +kernel
theorem dX0_takePiles_55 : decode cX0_takePiles 55 = .ok (.bipush 8, 2) := by decide +kernel
theorem dX0_takePiles_57 : decode cX0_takePiles 57 = .ok (.invokestatic 37, 3) := by decide +kernel
theorem dX0_takePiles_60 : decode cX0_takePiles 60 = .ok (.aload_n 0, 1) := by decide +kernel
theorem dX0_takePiles_61 : decode cX0_takePiles 61 = .ok (.aload_n 1, 1) := by decide +kernel
theorem dX0_takePiles_62 : decode cX0_takePiles 62 = .ok (.getfield 46, 3) := by decide +kernel
theorem dX0_takePiles_65 : decode cX0_takePiles 65 = .ok (.putfield 50, 3) := by decide +kernel
theorem dX0_takePiles_68 : decode cX0_takePiles 68 = .ok (.return_, 1) := by decide +kernel
theorem dX0_bear_0 : decode cX0_bear 0 = .ok (.aload_n 0, 1) := by decide +kernel
theorem dX0_bear_1 : decode cX0_bear 1 = .ok (.lload_n 1, 1) := by decide +kernel
theorem dX0_bear_2 : decode cX0_bear 2 = .ok (.putfield 51, 3) := by decide +kernel
theorem dX0_bear_5 : decode cX0_bear 5 = .ok (.aload_n 0, 1) := by decide +kernel
theorem dX0_bear_6 : decode cX0_bear 6 = .ok (.lload_n 3, 1) := by decide +kernel
theorem dX0_bear_7 : decode cX0_bear 7 = .ok (.putfield 55, 3) := by decide +kernel
theorem dX0_bear_10 : decode cX0_bear 10 = .ok (.aload_n 0, 1) := by decide +kernel
theorem dX0_bear_11 : decode cX0_bear 11 = .ok (.lload 5, 2) := by decide +kernel
theorem dX0_bear_13 : decode cX0_bear 13 = .ok (.putfield 58, 3) := by decide +kernel
theorem dX0_bear_16 : decode cX0_bear 16 = .ok (.return_, 1) := by decide +kernel
theorem dX0_settleOn_0 : decode cX0_settleOn 0 = .ok (.aload_n 0, 1) := by decide +kernel
theorem dX0_settleOn_1 : decode cX0_settleOn 1 = .ok (.iload_n 1, 1) := by decide +kernel
theorem dX0_settleOn_2 : decode cX0_settleOn 2 = .ok (.invokevirtual 61, 3) := by decide +kernel
theorem dX0_settleOn_5 : decode cX0_settleOn 5 = .ok (.aload_n 0, 1) := by decide +kernel
theorem dX0_settleOn_6 : decode cX0_settleOn 6 = .ok (.invokevirtual 65, 3) := by decide +kernel
theorem dX0_settleOn_9 : decode cX0_settleOn 9 = .ok (.return_, 1) := by decide +kernel
theorem dX0_beginWith_0 : decode cX0_beginWith 0 = .ok (.aload_n 0, 1) := by decide +kernel
theorem dX0_beginWith_1 : decode cX0_beginWith 1 = .ok (.iload_n 1, 1) := by decide +kernel
theorem dX0_beginWith_2 : decode cX0_beginWith 2 = .ok (.putfield 68, 3) := by decide +kernel
theorem dX0_beginWith_5 : decode cX0_beginWith 5 = .ok (.aload_n 0, 1) := by decide +kernel
theorem dX0_beginWith_6 : decode cX0_beginWith 6 = .ok (.getfield 27, 3) := by decide +kernel
theorem dX0_beginWith_9 : decode cX0_beginWith 9 = .ok (.invokevirtual 71, 3) := by decide +kernel
theorem dX0_beginWith_12 : decode cX0_beginWith 12 = .ok (.iconst 0, 1) := by decide +kernel
theorem dX0_beginWith_13 : decode cX0_beginWith 13 = .ok (.istore_n 2, 1) := by decide +kernel
theorem dX0_beginWith_14 : decode cX0_beginWith 14 = .ok (.iload_n 2, 1) := by decide +kernel
theorem dX0_beginWith_15 : decode cX0_beginWith 15 = .ok (.aload_n 0, 1) := by decide +kernel
theorem dX0_beginWith_16 : decode cX0_beginWith 16 = .ok (.getfield 50, 3) := by decide +kernel
theorem dX0_beginWith_19 : decode cX0_beginWith 19 = .ok (.if_icmp .ge 46, 3) := by decide +kernel
theorem dX0_beginWith_22 : decode cX0_beginWith 22 = .ok (.aload_n 0, 1) := by decide +kernel
theorem dX0_beginWith_23 : decode cX0_beginWith 23 = .ok (.getfield 68, 3) := by decide +kernel
theorem dX0_beginWith_26 : decode cX0_beginWith 26 = .ok (.iload_n 2, 1) := by decide +kernel
theorem dX0_beginWith_27 : decode cX0_beginWith 27 = .ok (.ishr, 1) := by decide +kernel
theorem dX0_beginWith_28 : decode cX0_beginWith 28 = .ok (.iconst 1, 1) := by decide +kernel
theorem dX0_beginWith_29 : decode cX0_beginWith 29 = .ok (.iand, 1) := by decide +kernel
theorem dX0_beginWith_30 : decode cX0_beginWith 30 = .ok (.iconst 1, 1) := by decide +kernel
theorem dX0_beginWith_31 : decode cX0_beginWith 31 = .ok (.if_icmp .ne 28, 3) := by decide +kernel
theorem dX0_beginWith_34 : decode cX0_beginWith 34 = .ok (.aload_n 0, 1) := by decide +kernel
theorem dX0_beginWith_35 : decode cX0_beginWith 35 = .ok (.getfield 27, 3) := by decide +kernel
theorem dX0_beginWith_38 : decode cX0_beginWith 38 = .ok (.aload_n 0, 1) := by decide +kernel
theorem dX0_beginWith_39 : decode cX0_beginWith 39 = .ok (.getfield 11, 3) := by decide +kernel
theorem dX0_beginWith_42 : decode cX0_beginWith 42 = .ok (.iload_n 2, 1) := by decide +kernel
theorem dX0_beginWith_43 : decode cX0_beginWith 43 = .ok (.iaload, 1) := by decide +kernel
theorem dX0_beginWith_44 : decode cX0_beginWith 44 = .ok (.aload_n 0, 1) := by decide +kernel
theorem dX0_beginWith_45 : decode cX0_beginWith 45 = .ok (.getfield 15, 3) := by decide +kernel
theorem dX0_beginWith_48 : decode cX0_beginWith 48 = .ok (.iload_n 2, 1) := by decide +kernel
theorem dX0_beginWith_49 : decode cX0_beginWith 49 = .ok (.iaload, 1) := by decide +kernel
theorem dX0_beginWith_50 : decode cX0_beginWith 50 = .ok (.aload_n 0, 1) := by decide +kernel
theorem dX0_beginWith_51 : decode cX0_beginWith 51 = .ok (.getfield 18, 3) := by decide +kernel
theorem dX0_beginWith_54 : decode cX0_beginWith 54 = .ok (.iload_n 2, 1) := by decide +kernel
theorem dX0_beginWith_55 : decode cX0_beginWith 55 = .ok (.iaload, 1) := by decide +kernel
theorem dX0_beginWith_56 : decode cX0_beginWith 56 = .ok (.invokevirtual 74, 3) := by decide +kernel
theorem dX0_beginWith_59 : decode cX0_beginWith 59 = .ok (.iinc 2 1, 3) := by decide +kernel
theorem dX0_beginWith_62 : decode cX0_beginWith 62 = .ok (.goto (-48), 3) := by decide +kernel
theorem dX0_beginWith_65 : decode cX0_beginWith 65 = .ok (.return_, 1) := by decide +kernel
theorem dX0_putFurther_0 : decode cX0_putFurther 0 = .ok (.aload_n 0, 1) := by decide +kernel
theorem dX0_putFurther_1 : decode cX0_putFurther 1 = .ok (.getfield 50, 3) := by decide +kernel
theorem dX0_putFurther_4 : decode cX0_putFurther 4 = .ok (.ifCond .lt 12, 3) := by decide +kernel
theorem dX0_putFurther_7 : decode cX0_putFurther 7 = .ok (.aload_n 0, 1) := by decide +kernel
theorem dX0_putFurther_8 : decode cX0_putFurther 8 = .ok (.getfield 50, 3) := by decide +kernel
theorem dX0_putFurther_11 : decode cX0_putFurther 11 = .ok (.bipush 9, 2) := by decide +kernel
theorem dX0_putFurther_13 : decode cX0_putFurther 13 = .ok (.if_icmp .lt 4, 3) := by decide +kernel
theorem dX0_putFurther_16 : decode cX0_putFurther 16 = .ok (.return_, 1) := by decide +kernel
theorem dX0_putFurther_17 : decode cX0_putFurther 17 = .ok (.aload_n 0, 1) := by decide +kernel
theorem dX0_putFurther_18 : decode cX0_putFurther 18 = .ok (.getfield 11, 3) := by decide +kernel
theorem dX0_putFurther_21 : decode cX0_putFurther 21 = .ok (.aload_n 0, 1) := by decide +kernel
theorem dX0_putFurther_22 : decode cX0_putFurther 22 = .ok (.getfield 50, 3) := by decide +kernel
theorem dX0_putFurther_25 : decode cX0_putFurther 25 = .ok (.iload_n 1, 1) := by decide +kernel
theorem dX0_putFurther_26 : decode cX0_putFurther 26 = .ok (.iastore, 1) := by decide +kernel
theorem dX0_putFurther_27 : decode cX0_putFurther 27 = .ok (.aload_n 0, 1) := by decide +kernel
theorem dX0_putFurther_28 : decode cX0_putFurther 28 = .ok (.getfield 15, 3) := by decide +kernel
theorem dX0_putFurther_31 : decode cX0_putFurther 31 = .ok (.aload_n 0, 1) := by decide +kernel
theorem dX0_putFurther_32 : decode cX0_putFurther 32 = .ok (.getfield 50, 3) := by decide +kernel
theorem dX0_putFurther_35 : decode cX0_putFurther 35 = .ok (.iload_n 2, 1) := by decide +kernel
theorem dX0_putFurther_36 : decode cX0_putFurther 36 = .ok (.iastore, 1) := by decide +kernel
theorem dX0_putFurther_37 : decode cX0_putFurther 37 = .ok (.aload_n 0, 1) := by decide +kernel
theorem dX0_putFurther_38 : decode cX0_putFurther 38 = .ok (.getfield 18, 3) := by decide +kernel
theorem dX0_putFurther_41 : decode cX0_putFurther 41 = .ok (.aload_n 0, 1) := by decide +kernel
theorem dX0_putFurther_42 : decode cX0_putFurther 42 = .ok (.getfield 50, 3) := by decide +kernel
theorem dX0_putFurther_45 : decode cX0_putFurther 45 = .ok (.iload_n 3, 1) := by decide +kernel
theorem dX0_putFurther_46 : decode cX0_putFurther 46 = .ok (.iastore, 1) := by decide +kernel
theorem dX0_putFurther_47 : decode cX0_putFurther 47 = .ok (.aload_n 0, 1) := by decide +kernel
theorem dX0_putFurther_48 : decode cX0_putFurther 48 = .ok (.getfield 21, 3) := by decide +kernel
theorem dX0_putFurther_51 : decode cX0_putFurther 51 = .ok (.aload_n 0, 1) := by decide +kernel
theorem dX0_putFurther_52 : decode cX0_putFurther 52 = .ok (.getfield 50, 3) := by decide +kernel
theorem dX0_putFurther_55 : decode cX0_putFurther 55 = .ok (.iload 4, 2) := by decide +kernel
theorem dX0_putFurther_57 : decode cX0_putFurther 57 = .ok (.iastore, 1) := by decide +kernel
theorem dX0_putFurther_58 : decode cX0_putFurther 58 = .ok (.aload_n 0, 1) := by decide +kernel
theorem dX0_putFurther_59 : decode cX0_putFurther 59 = .ok (.getfield 27, 3) := by decide +kernel
theorem dX0_putFurther_62 : decode cX0_putFurther 62 = .ok (.iload_n 1, 1) := by decide +kernel
theorem dX0_putFurther_63 : decode cX0_putFurther 63 = .ok (.iload_n 2, 1) := by decide +kernel
theorem dX0_putFurther_64 : decode cX0_putFurther 64 = .ok (.iload_n 3, 1) := by decide +kernel
theorem dX0_putFurther_65 : decode cX0_putFurther 65 = .ok (.invokevirtual 74, 3) := by decide +kernel
theorem dX0_putFurther_68 : decode cX0_putFurther 68 = .ok (.aload_n 0, 1) := by decide +kernel
theorem dX0_putFurther_69 : decode cX0_putFurther 69 = .ok (.dup, 1) := by decide +kernel
theorem dX0_putFurther_70 : decode cX0_putFurther 70 = .ok (.getfield 68, 3) := by decide +kernel
theorem dX0_putFurther_73 : decode cX0_putFurther 73 = .ok (.iconst 1, 1) := by decide +kernel
theorem dX0_putFurther_74 : decode cX0_putFurther 74 = .ok (.aload_n 0, 1) := by decide +kernel
theorem dX0_putFurther_75 : decode cX0_putFurther 75 = .ok (.getfield 50, 3) := by decide +kernel
theorem dX0_putFurther_78 : decode cX0_putFurther 78 = .ok (.ishl, 1) := by decide +kernel
theorem dX0_putFurther_79 : decode cX0_putFurther 79 = .ok (.ior, 1) := by decide +kernel
theorem dX0_putFurther_80 : decode cX0_putFurther 80 = .ok (.putfield 68, 3) := by decide +kernel
theorem dX0_putFurther_83 : decode cX0_putFurther 83 = .ok (.aload_n 0, 1) := by decide +kernel
theorem dX0_putFurther_84 : decode cX0_putFurther 84 = .ok (.dup, 1) := by decide +kernel
theorem dX0_putFurther_85 : decode cX0_putFurther 85 = .ok (.getfield 50, 3) := by decide +kernel
theorem dX0_putFurther_88 : decode cX0_putFurther 88 = .ok (.iconst 1, 1) := by decide +kernel
theorem dX0_putFurther_89 : decode cX0_putFurther 89 = .ok (.iadd, 1) := by decide +kernel
theorem dX0_putFurther_90 : decode cX0_putFurther 90 = .ok (.putfield 50, 3) := by decide +kernel
theorem dX0_putFurther_93 : decode cX0_putFurther 93 = .ok (.return_, 1) := by decide +kernel
theorem dX0_takeFurtherAway_0 : decode cX0_takeFurtherAway 0 = .ok (.aload_n 0, 1) := by decide +kernel
theorem dX0_takeFurtherAway_1 : decode cX0_takeFurtherAway 1 = .ok (.getfield 50, 3) := by decide +kernel
theorem dX0_takeFurtherAway_4 : decode cX0_takeFurtherAway 4 = .ok (.iconst 1, 1) := by decide +kernel
theorem dX0_takeFurtherAway_5 : decode cX0_takeFurtherAway 5 = .ok (.if_icmp .lt 12, 3) := by decide +kernel
theorem dX0_takeFurtherAway_8 : decode cX0_takeFurtherAway 8 = .ok (.aload_n 0, 1) := by decide +kernel
theorem dX0_takeFurtherAway_9 : decode cX0_takeFurtherAway 9 = .ok (.getfield 50, 3) := by decide +kernel
theorem dX0_takeFurtherAway_12 : decode cX0_takeFurtherAway 12 = .ok (.bipush 9, 2) := by decide +kernel
theorem dX0_takeFurtherAway_14 : decode cX0_takeFurtherAway 14 = .ok (.if_icmp .le 4, 3) := by decide +kernel
theorem dX0_takeFurtherAway_17 : decode cX0_takeFurtherAway 17 = .ok (.return_, 1) := by decide +kernel
theorem dX0_takeFurtherAway_18 : decode cX0_takeFurtherAway 18 = .ok (.aload_n 0, 1) := by decide +kernel
theorem dX0_takeFurtherAway_19 : decode cX0_takeFurtherAway 19 = .ok (.dup, 1) := by decide +kernel
theorem dX0_takeFurtherAway_20 : decode cX0_takeFurtherAway 20 = .ok (.getfield 50, 3) := by decide +kernel
theorem dX0_takeFurtherAway_23 : decode cX0_takeFurtherAway 23 = .ok (.iconst 1, 1) := by decide +kernel
theorem dX0_takeFurtherAway_24 : decode cX0_takeFurtherAway 24 = .ok (.isub, 1) := by decide +kernel
theorem dX0_takeFurtherAway_25 : decode cX0_takeFurtherAway 25 = .ok (.putfield 50, 3) := by decide +kernel
theorem dX0_takeFurtherAway_28 : decode cX0_takeFurtherAway 28 = .ok (.aload_n 0, 1) := by decide +kernel
theorem dX0_takeFurtherAway_29 : decode cX0_takeFurtherAway 29 = .ok (.getfield 27, 3) := by decide +kernel
theorem dX0_takeFurtherAway_32 : decode cX0_takeFurtherAway 32 = .ok (.aload_n 0, 1) := by decide +kernel
theorem dX0_takeFurtherAway_33 : decode cX0_takeFurtherAway 33 = .ok (.getfield 11, 3) := by decide +kernel
theorem dX0_takeFurtherAway_36 : decode cX0_takeFurtherAway 36 = .ok (.aload_n 0, 1) := by decide +kernel
theorem dX0_takeFurtherAway_37 : decode cX0_takeFurtherAway 37 = .ok (.getfield 50, 3) := by decide +kernel
theorem dX0_takeFurtherAway_40 : decode cX0_takeFurtherAway 40 = .ok (.iaload, 1) := by decide +kernel
theorem dX0_takeFurtherAway_41 : decode cX0_takeFurtherAway 41 = .ok (.aload_n 0, 1) := by decide +kernel
theorem dX0_takeFurtherAway_42 : decode cX0_takeFurtherAway 42 = .ok (.getfield 15, 3) := by decide +kernel
theorem dX0_takeFurtherAway_45 : decode cX0_takeFurtherAway 45 = .ok (.aload_n 0, 1) := by decide +kernel
theorem dX0_takeFurtherAway_46 : decode cX0_takeFurtherAway 46 = .ok (.getfield 50, 3) := by decide +kernel
theorem dX0_takeFurtherAway_49 : decode cX0_takeFurtherAway 49 = .ok (.iaload, 1) := by decide +kernel
theorem dX0_takeFurtherAway_50 : decode cX0_takeFurtherAway 50 = .ok (.aload_n 0, 1) := by decide +kernel
theorem dX0_takeFurtherAway_51 : decode cX0_takeFurtherAway 51 = .ok (.getfield 18, 3) := by decide +kernel
theorem dX0_takeFurtherAway_54 : decode cX0_takeFurtherAway 54 = .ok (.aload_n 0, 1) := by decide +kernel
theorem dX0_takeFurtherAway_55 : decode cX0_takeFurtherAway 55 = .ok (.getfield 50, 3) := by decide +kernel
theorem dX0_takeFurtherAway_58 : decode cX0_takeFurtherAway 58 = .ok (.iaload, 1) := by decide +kernel
theorem dX0_takeFurtherAway_59 : decode cX0_takeFurtherAway 59 = .ok (.ineg, 1) := by decide +kernel
theorem dX0_takeFurtherAway_60 : decode cX0_takeFurtherAway 60 = .ok (.invokevirtual 74, 3) := by decide +kernel
theorem dX0_takeFurtherAway_63 : decode cX0_takeFurtherAway 63 = .ok (.aload_n 0, 1) := by decide +kernel
theorem dX0_takeFurtherAway_64 : decode cX0_takeFurtherAway 64 = .ok (.dup, 1) := by decide +kernel
theorem dX0_takeFurtherAway_65 : decode cX0_takeFurtherAway 65 = .ok (.getfield 68, 3) := by decide +kernel
theorem dX0_takeFurtherAway_68 : decode cX0_takeFurtherAway 68 = .ok (.iconst 1, 1) := by decide +kernel
theorem dX0_takeFurtherAway_69 : decode cX0_takeFurtherAway 69 = .ok (.aload_n 0, 1) := by decide +kernel
theorem dX0_takeFurtherAway_70 : decode cX0_takeFurtherAway 70 = .ok (.getfield 50, 3) := by decide +kernel
theorem dX0_takeFurtherAway_73 : decode cX0_takeFurtherAway 73 = .ok (.ishl, 1) := by decide +kernel
theorem dX0_takeFurtherAway_74 : decode cX0_takeFurtherAway 74 = .ok (.iconst (-1), 1) := by decide +kernel
theorem dX0_takeFurtherAway_75 : decode cX0_takeFurtherAway 75 = .ok (.ixor, 1) := by decide +kernel
theorem dX0_takeFurtherAway_76 : decode cX0_takeFurtherAway 76 = .ok (.iand, 1) := by decide +kernel
theorem dX0_takeFurtherAway_77 : decode cX0_takeFurtherAway 77 = .ok (.putfield 68, 3) := by decide +kernel
theorem dX0_takeFurtherAway_80 : decode cX0_takeFurtherAway 80 = .ok (.return_, 1) := by decide +kernel
theorem dX0_settle_0 : decode cX0_settle 0 = .ok (.aload_n 0, 1) := by decide +kernel
theorem dX0_settle_1 : decode cX0_settle 1 = .ok (.getfield 31, 3) := by decide +kernel
theorem dX0_settle_4 : decode cX0_settle 4 = .ok (.aload_n 0, 1) := by decide +kernel
theorem dX0_settle_5 : decode cX0_settle 5 = .ok (.getfield 27, 3) := by decide +kernel
theorem dX0_settle_8 : decode cX0_settle 8 = .ok (.invokevirtual 78, 3) := by decide +kernel
theorem dX0_settle_11 : decode cX0_settle 11 = .ok (.aload_n 0, 1) := by decide +kernel
theorem dX0_settle_12 : decode cX0_settle 12 = .ok (.aload_n 0, 1) := by decide +kernel
theorem dX0_settle_13 : decode cX0_settle 13 = .ok (.getfield 68, 3) := by decide +kernel
theorem dX0_settle_16 : decode cX0_settle 16 = .ok (.putfield 82, 3) := by decide +kernel
theorem dX0_settle_19 : decode cX0_settle 19 = .ok (.aload_n 0, 1) := by decide +kernel
theorem dX0_settle_20 : decode cX0_settle 20 = .ok (.iconst 0, 1) := by decide +kernel
theorem dX0_settle_21 : decode cX0_settle 21 = .ok (.putfield 85, 3) := by decide +kernel
theorem dX0_settle_24 : decode cX0_settle 24 = .ok (.aload_n 0, 1) := by decide +kernel
theorem dX0_settle_25 : decode cX0_settle 25 = .ok (.iconst 0, 1) := by decide +kernel
theorem dX0_settle_26 : decode cX0_settle 26 = .ok (.putfield 89, 3) := by decide +kernel
theorem dX0_settle_29 : decode cX0_settle 29 = .ok (.iconst 1, 1) := by decide +kernel
theorem dX0_settle_30 : decode cX0_settle 30 = .ok (.istore_n 1, 1) := by decide +kernel
theorem dX0_settle_31 : decode cX0_settle 31 = .ok (.iconst 1, 1) := by decide +kernel
theorem dX0_settle_32 : decode cX0_settle 32 = .ok (.istore_n 2, 1) := by decide +kernel
theorem dX0_settle_33 : decode cX0_settle 33 = .ok (.iload_n 2, 1) := by decide +kernel
theorem dX0_settle_34 : decode cX0_settle 34 = .ok (.bipush 40, 2) := by decide +kernel
theorem dX0_settle_36 : decode cX0_settle 36 = .ok (.if_icmp .gt 23, 3) := by decide +kernel
theorem dX0_settle_39 : decode cX0_settle 39 = .ok (.iload_n 1, 1) := by decide +kernel
theorem dX0_settle_40 : decode cX0_settle 40 = .ok (.ifCond .eq 19, 3) := by decide +kernel
theorem dX0_settle_43 : decode cX0_settle 43 = .ok (.aload_n 0, 1) := by decide +kernel
theorem dX0_settle_44 : decode cX0_settle 44 = .ok (.iload_n 2, 1) := by decide +kernel
theorem dX0_settle_45 : decode cX0_settle 45 = .ok (.putfield 89, 3) := by decide +kernel
theorem dX0_settle_48 : decode cX0_settle 48 = .ok (.aload_n 0, 1) := by decide +kernel
theorem dX0_settle_49 : decode cX0_settle 49 = .ok (.invokevirtual 92, 3) := by decide +kernel
theorem dX0_settle_52 : decode cX0_settle 52 = .ok (.istore_n 1, 1) := by decide +kernel
theorem dX0_settle_53 : decode cX0_settle 53 = .ok (.iinc 2 1, 3) := by decide +kernel
theorem dX0_settle_56 : decode cX0_settle 56 = .ok (.goto (-23), 3) := by decide +kernel
theorem dX0_settle_59 : decode cX0_settle 59 = .ok (.aload_n 0, 1) := by decide +kernel
theorem dX0_settle_60 : decode cX0_settle 60 = .ok (.getfield 85, 3) := by decide +kernel
theorem dX0_settle_63 : decode cX0_settle 63 = .ok (.ifCond .eq 7, 3) := by decide +kernel
theorem dX0_settle_66 : decode cX0_settle 66 = .ok (.aload_n 0, 1) := by decide +kernel
theorem dX0_settle_67 : decode cX0_settle 67 = .ok (.invokevirtual 96, 3) := by decide +kernel
theorem dX0_settle_70 : decode cX0_settle 70 = .ok (.return_, 1) := by decide +kernel
theorem dX0_anotherRoundFollows_0 : decode cX0_anotherRoundFollows 0 = .ok (.aload_n 0, 1) := by decide +kernel
theorem dX0_anotherRoundFollows_1 : decode cX0_anotherRoundFollows 1 = .ok (.getfield 31, 3) := by decide +kernel
theorem dX0_anotherRoundFollows_4 : decode cX0_anotherRoundFollows 4 = .ok (.invokevirtual 99, 3) := by decide +kernel
theorem dX0_anotherRoundFollows_7 : decode cX0_anotherRoundFollows 7 = .ok (.ifCond .ne 5, 3) := by decide +kernel
theorem dX0_anotherRoundFollows_10 : decode cX0_anotherRoundFollows 10 = .ok (.iconst 0, 1) := by decide +kernel
theorem dX0_anotherRoundFollows_11 : decode cX0_anotherRoundFollows 11 = .ok (.ireturn, 1) := by decide +kernel
theorem dX0_anotherRoundFollows_12 : decode cX0_anotherRoundFollows 12 = .ok (.aload_n 0, 1) := by decide +kernel
theorem dX0_anotherRoundFollows_13 : decode cX0_anotherRoundFollows 13 = .ok (.getfield 31, 3) := by decide +kernel
theorem dX0_anotherRoundFollows_16 : decode cX0_anotherRoundFollows 16 = .ok (.aload_n 0, 1) := by decide +kernel
theorem dX0_anotherRoundFollows_17 : decode cX0_anotherRoundFollows 17 = .ok (.getfield 51, 3) := by decide +kernel
theorem dX0_anotherRoundFollows_20 : decode cX0_anotherRoundFollows 20 = .ok (.aload_n 0, 1) := by decide +kernel
theorem dX0_anotherRoundFollows_21 : decode cX0_anotherRoundFollows 21 = .ok (.getfield 55, 3) := by decide +kernel
theorem dX0_anotherRoundFollows_24 : decode cX0_anotherRoundFollows 24 = .ok (.aload_n 0, 1) := by decide +kernel
theorem dX0_anotherRoundFollows_25 : decode cX0_anotherRoundFollows 25 = .ok (.getfield 58, 3) := by decide +kernel
theorem dX0_anotherRoundFollows_28 : decode cX0_anotherRoundFollows 28 = .ok (.invokevirtual 102, 3) := by decide +kernel
theorem dX0_anotherRoundFollows_31 : decode cX0_anotherRoundFollows 31 = .ok (.aload_n 0, 1) := by decide +kernel
theorem dX0_anotherRoundFollows_32 : decode cX0_anotherRoundFollows 32 = .ok (.invokevirtual 106, 3) := by decide +kernel
theorem dX0_anotherRoundFollows_35 : decode cX0_anotherRoundFollows 35 = .ok (.istore_n 1, 1) := by decide +kernel
theorem dX0_anotherRoundFollows_36 : decode cX0_anotherRoundFollows 36 = .ok (.iload_n 1, 1) := by decide +kernel
theorem dX0_anotherRoundFollows_37 : decode cX0_anotherRoundFollows 37 = .ok (.ifCond .lt 45, 3) := by decide +kernel
theorem dX0_anotherRoundFollows_40 : decode cX0_anotherRoundFollows 40 = .ok (.aload_n 0, 1) := by decide +kernel
theorem dX0_anotherRoundFollows_41 : decode cX0_anotherRoundFollows 41 = .ok (.dup, 1) := by decide +kernel
theorem dX0_anotherRoundFollows_42 : decode cX0_anotherRoundFollows 42 = .ok (.getfield 82, 3) := by decide +kernel
theorem dX0_anotherRoundFollows_45 : decode cX0_anotherRoundFollows 45 = .ok (.iconst 1, 1) := by decide +kernel
theorem dX0_anotherRoundFollows_46 : decode cX0_anotherRoundFollows 46 = .ok (.iload_n 1, 1) := by decide +kernel
theorem dX0_anotherRoundFollows_47 : decode cX0_anotherRoundFollows 47 = .ok (.ishl, 1) := by decide +kernel
theorem dX0_anotherRoundFollows_48 : decode cX0_anotherRoundFollows 48 = .ok (.iconst (-1), 1) := by decide +kernel
theorem dX0_anotherRoundFollows_49 : decode cX0_anotherRoundFollows 49 = .ok (.ixor, 1) := by decide +kernel
theorem dX0_anotherRoundFollows_50 : decode cX0_anotherRoundFollows 50 = .ok (.iand, 1) := by decide +kernel
theorem dX0_anotherRoundFollows_51 : decode cX0_anotherRoundFollows 51 = .ok (.putfield 82, 3) := by decide +kernel
theorem dX0_anotherRoundFollows_54 : decode cX0_anotherRoundFollows 54 = .ok (.aload_n 0, 1) := by decide +kernel
theorem dX0_anotherRoundFollows_55 : decode cX0_anotherRoundFollows 55 = .ok (.getfield 31, 3) := by decide +kernel
theorem dX0_anotherRoundFollows_58 : decode cX0_anotherRoundFollows 58 = .ok (.aload_n 0, 1) := by decide +kernel
theorem dX0_anotherRoundFollows_59 : decode cX0_anotherRoundFollows 59 = .ok (.getfield 11, 3) := by decide +kernel
theorem dX0_anotherRoundFollows_62 : decode cX0_anotherRoundFollows 62 = .ok (.iload_n 1, 1) := by decide +kernel
theorem dX0_anotherRoundFollows_63 : decode cX0_anotherRoundFollows 63 = .ok (.iaload, 1) := by decide +kernel
theorem dX0_anotherRoundFollows_64 : decode cX0_anotherRoundFollows 64 = .ok (.aload_n 0, 1) := by decide +kernel
theorem dX0_anotherRoundFollows_65 : decode cX0_anotherRoundFollows 65 = .ok (.getfield 15, 3) := by decide +kernel
theorem dX0_anotherRoundFollows_68 : decode cX0_anotherRoundFollows 68 = .ok (.iload_n 1, 1) := by decide +kernel
theorem dX0_anotherRoundFollows_69 : decode cX0_anotherRoundFollows 69 = .ok (.iaload, 1) := by decide +kernel
theorem dX0_anotherRoundFollows_70 : decode cX0_anotherRoundFollows 70 = .ok (.aload_n 0, 1) := by decide +kernel
theorem dX0_anotherRoundFollows_71 : decode cX0_anotherRoundFollows 71 = .ok (.getfield 18, 3) := by decide +kernel
theorem dX0_anotherRoundFollows_74 : decode cX0_anotherRoundFollows 74 = .ok (.iload_n 1, 1) := by decide +kernel
theorem dX0_anotherRoundFollows_75 : decode cX0_anotherRoundFollows 75 = .ok (.iaload, 1) := by decide +kernel
theorem dX0_anotherRoundFollows_76 : decode cX0_anotherRoundFollows 76 = .ok (.ineg, 1) := by decide +kernel
theorem dX0_anotherRoundFollows_77 : decode cX0_anotherRoundFollows 77 = .ok (.invokevirtual 74, 3) := by decide +kernel
theorem dX0_anotherRoundFollows_80 : decode cX0_anotherRoundFollows 80 = .ok (.iconst 1, 1) := by decide +kernel
theorem dX0_anotherRoundFollows_81 : decode cX0_anotherRoundFollows 81 = .ok (.ireturn, 1) := by decide +kernel
theorem dX0_anotherRoundFollows_82 : decode cX0_anotherRoundFollows 82 = .ok (.aload_n 0, 1) := by decide +kernel
theorem dX0_anotherRoundFollows_83 : decode cX0_anotherRoundFollows 83 = .ok (.invokevirtual 110, 3) := by decide +kernel
theorem dX0_anotherRoundFollows_86 : decode cX0_anotherRoundFollows 86 = .ok (.istore_n 2, 1) := by decide +kernel
theorem dX0_anotherRoundFollows_87 : decode cX0_anotherRoundFollows 87 = .ok (.iload_n 2, 1) := by decide +kernel
theorem dX0_anotherRoundFollows_88 : decode cX0_anotherRoundFollows 88 = .ok (.ifCond .lt 42, 3) := by decide +kernel
theorem dX0_anotherRoundFollows_91 : decode cX0_anotherRoundFollows 91 = .ok (.aload_n 0, 1) := by decide +kernel
theorem dX0_anotherRoundFollows_92 : decode cX0_anotherRoundFollows 92 = .ok (.dup, 1) := by decide +kernel
theorem dX0_anotherRoundFollows_93 : decode cX0_anotherRoundFollows 93 = .ok (.getfield 82, 3) := by decide +kernel
theorem dX0_anotherRoundFollows_96 : decode cX0_anotherRoundFollows 96 = .ok (.iconst 1, 1) := by decide +kernel
theorem dX0_anotherRoundFollows_97 : decode cX0_anotherRoundFollows 97 = .ok (.iload_n 2, 1) := by decide +kernel
theorem dX0_anotherRoundFollows_98 : decode cX0_anotherRoundFollows 98 = .ok (.ishl, 1) := by decide +kernel
theorem dX0_anotherRoundFollows_99 : decode cX0_anotherRoundFollows 99 = .ok (.ior, 1) := by decide +kernel
theorem dX0_anotherRoundFollows_100 : decode cX0_anotherRoundFollows 100 = .ok (.putfield 82, 3) := by decide +kernel
theorem dX0_anotherRoundFollows_103 : decode cX0_anotherRoundFollows 103 = .ok (.aload_n 0, 1) := by decide +kernel
theorem dX0_anotherRoundFollows_104 : decode cX0_anotherRoundFollows 104 = .ok (.getfield 31, 3) := by decide +kernel
theorem dX0_anotherRoundFollows_107 : decode cX0_anotherRoundFollows 107 = .ok (.aload_n 0, 1) := by decide +kernel
theorem dX0_anotherRoundFollows_108 : decode cX0_anotherRoundFollows 108 = .ok (.getfield 11, 3) := by decide +kernel
theorem dX0_anotherRoundFollows_111 : decode cX0_anotherRoundFollows 111 = .ok (.iload_n 2, 1) := by decide +kernel
theorem dX0_anotherRoundFollows_112 : decode cX0_anotherRoundFollows 112 = .ok (.iaload, 1) := by decide +kernel
theorem dX0_anotherRoundFollows_113 : decode cX0_anotherRoundFollows 113 = .ok (.aload_n 0, 1) := by decide +kernel
theorem dX0_anotherRoundFollows_114 : decode cX0_anotherRoundFollows 114 = .ok (.getfield 15, 3) := by decide +kernel
theorem dX0_anotherRoundFollows_117 : decode cX0_anotherRoundFollows 117 = .ok (.iload_n 2, 1) := by decide +kernel
theorem dX0_anotherRoundFollows_118 : decode cX0_anotherRoundFollows 118 = .ok (.iaload, 1) := by decide +kernel
theorem dX0_anotherRoundFollows_119 : decode cX0_anotherRoundFollows 119 = .ok (.aload_n 0, 1) := by decide +kernel
theorem dX0_anotherRoundFollows_120 : decode cX0_anotherRoundFollows 120 = .ok (.getfield 18, 3) := by decide +kernel
theorem dX0_anotherRoundFollows_123 : decode cX0_anotherRoundFollows 123 = .ok (.iload_n 2, 1) := by decide +kernel
theorem dX0_anotherRoundFollows_124 : decode cX0_anotherRoundFollows 124 = .ok (.iaload, 1) := by decide +kernel
theorem dX0_anotherRoundFollows_125 : decode cX0_anotherRoundFollows 125 = .ok (.invokevirtual 74, 3) := by decide +kernel
theorem dX0_anotherRoundFollows_128 : decode cX0_anotherRoundFollows 128 = .ok (.iconst 1, 1) := by decide +kernel
theorem dX0_anotherRoundFollows_129 : decode cX0_anotherRoundFollows 129 = .ok (.ireturn, 1) := by decide +kernel
theorem dX0_anotherRoundFollows_130 : decode cX0_anotherRoundFollows 130 = .ok (.aload_n 0, 1) := by decide +kernel
theorem dX0_anotherRoundFollows_131 : decode cX0_anotherRoundFollows 131 = .ok (.iconst 1, 1) := by decide +kernel
theorem dX0_anotherRoundFollows_132 : decode cX0_anotherRoundFollows 132 = .ok (.putfield 85, 3) := by decide +kernel
theorem dX0_anotherRoundFollows_135 : decode cX0_anotherRoundFollows 135 = .ok (.iconst 0, 1) := by decide +kernel
theorem dX0_anotherRoundFollows_136 : decode cX0_anotherRoundFollows 136 = .ok (.ireturn, 1) := by decide +kernel
theorem dX0_mostPulled_0 : decode cX0_mostPulled 0 = .ok (.iconst (-1), 1) := by decide +kernel
theorem dX0_mostPulled_1 : decode cX0_mostPulled 1 = .ok (.istore_n 1, 1) := by decide +kernel
theorem dX0_mostPulled_2 : decode cX0_mostPulled 2 = .ok (.lconst 0, 1) := by decide +kernel
theorem dX0_mostPulled_3 : decode cX0_mostPulled 3 = .ok (.lstore_n 2, 1) := by decide +kernel
theorem dX0_mostPulled_4 : decode cX0_mostPulled 4 = .ok (.iconst 0, 1) := by decide +kernel
theorem dX0_mostPulled_5 : decode cX0_mostPulled 5 = .ok (.istore 4, 2) := by decide +kernel
theorem dX0_mostPulled_7 : decode cX0_mostPulled 7 = .ok (.iload 4, 2) := by decide +kernel
theorem dX0_mostPulled_9 : decode cX0_mostPulled 9 = .ok (.aload_n 0, 1) := by decide +kernel
theorem dX0_mostPulled_10 : decode cX0_mostPulled 10 = .ok (.getfield 50, 3) := by decide +kernel
theorem dX0_mostPulled_13 : decode cX0_mostPulled 13 = .ok (.if_icmp .ge 67, 3) := by decide +kernel
theorem dX0_mostPulled_16 : decode cX0_mostPulled 16 = .ok (.aload_n 0, 1) := by decide +kernel
theorem dX0_mostPulled_17 : decode cX0_mostPulled 17 = .ok (.getfield 82, 3) := by decide +kernel
theorem dX0_mostPulled_20 : decode cX0_mostPulled 20 = .ok (.iload 4, 2) := by decide +kernel
theorem dX0_mostPulled_22 : decode cX0_mostPulled 22 = .ok (.ishr, 1) := by decide +kernel
theorem dX0_mostPulled_23 : decode cX0_mostPulled 23 = .ok (.iconst 1, 1) := by decide +kernel
theorem dX0_mostPulled_24 : decode cX0_mostPulled 24 = .ok (.iand, 1) := by decide +kernel
theorem dX0_mostPulled_25 : decode cX0_mostPulled 25 = .ok (.iconst 1, 1) := by decide +kernel
theorem dX0_mostPulled_26 : decode cX0_mostPulled 26 = .ok (.if_icmp .ne 48, 3) := by decide +kernel
theorem dX0_mostPulled_29 : decode cX0_mostPulled 29 = .ok (.aload_n 0, 1) := by decide +kernel
theorem dX0_mostPulled_30 : decode cX0_mostPulled 30 = .ok (.getfield 18, 3) := by decide +kernel
theorem dX0_mostPulled_33 : decode cX0_mostPulled 33 = .ok (.iload 4, 2) := by decide +kernel
theorem dX0_mostPulled_35 : decode cX0_mostPulled 35 = .ok (.iaload, 1) := by decide +kernel
theorem dX0_mostPulled_36 : decode cX0_mostPulled 36 = .ok (.i2l, 1) := by decide +kernel
theorem dX0_mostPulled_37 : decode cX0_mostPulled 37 = .ok (.aload_n 0, 1) := by decide +kernel
theorem dX0_mostPulled_38 : decode cX0_mostPulled 38 = .ok (.getfield 31, 3) := by decide +kernel
theorem dX0_mostPulled_41 : decode cX0_mostPulled 41 = .ok (.aload_n 0, 1) := by decide +kernel
theorem dX0_mostPulled_42 : decode cX0_mostPulled 42 = .ok (.getfield 11, 3) := by decide +kernel
theorem dX0_mostPulled_45 : decode cX0_mostPulled 45 = .ok (.iload 4, 2) := by decide +kernel
theorem dX0_mostPulled_47 : decode cX0_mostPulled 47 = .ok (.iaload, 1) := by decide +kernel
theorem dX0_mostPulled_48 : decode cX0_mostPulled 48 = .ok (.aload_n 0, 1) := by decide +kernel
theorem dX0_mostPulled_49 : decode cX0_mostPulled 49 = .ok (.getfield 15, 3) := by decide +kernel
theorem dX0_mostPulled_52 : decode cX0_mostPulled 52 = .ok (.iload 4, 2) := by decide +kernel
theorem dX0_mostPulled_54 : decode cX0_mostPulled 54 = .ok (.iaload, 1) := by decide +kernel
theorem dX0_mostPulled_55 : decode cX0_mostPulled 55 = .ok (.invokevirtual 113, 3) := by decide +kernel
theorem dX0_mostPulled_58 : decode cX0_mostPulled 58 = .ok (.lmul, 1) := by decide +kernel
theorem dX0_mostPulled_59 : decode cX0_mostPulled 59 = .ok (.lstore 5, 2) := by decide +kernel
theorem dX0_mostPulled_61 : decode cX0_mostPulled 61 = .ok (.lload 5, 2) := by decide +kernel
theorem dX0_mostPulled_63 : decode cX0_mostPulled 63 = .ok (.lload_n 2, 1) := by decide +kernel
theorem dX0_mostPulled_64 : decode cX0_mostPulled 64 = .ok (.lcmp, 1) := by decide +kernel
theorem dX0_mostPulled_65 : decode cX0_mostPulled 65 = .ok (.ifCond .ge 9, 3) := by decide +kernel
theorem dX0_mostPulled_68 : decode cX0_mostPulled 68 = .ok (.lload 5, 2) := by decide +kernel
theorem dX0_mostPulled_70 : decode cX0_mostPulled 70 = .ok (.lstore_n 2, 1) := by decide +kernel
theorem dX0_mostPulled_71 : decode cX0_mostPulled 71 = .ok (.iload 4, 2) := by decide +kernel
theorem dX0_mostPulled_73 : decode cX0_mostPulled 73 = .ok (.istore_n 1, 1) := by decide +kernel
theorem dX0_mostPulled_74 : decode cX0_mostPulled 74 = .ok (.iinc 4 1, 3) := by decide +kernel
theorem dX0_mostPulled_77 : decode cX0_mostPulled 77 = .ok (.goto (-70), 3) := by decide +kernel
theorem dX0_mostPulled_80 : decode cX0_mostPulled 80 = .ok (.iload_n 1, 1) := by decide +kernel
theorem dX0_mostPulled_81 : decode cX0_mostPulled 81 = .ok (.ireturn, 1) := by decide +kernel
theorem dX0_mostPressedOfReleased_0 : decode cX0_mostPressedOfReleased 0 = .ok (.aload_n 0, 1) := by decide +kernel
theorem dX0_mostPressedOfReleased_1 : decode cX0_mostPressedOfReleased 1 = .ok (.getfield 68, 3) := by decide +kernel
theorem dX0_mostPressedOfReleased_4 : decode cX0_mostPressedOfReleased 4 = .ok (.aload_n 0, 1) := by decide +kernel
theorem dX0_mostPressedOfReleased_5 : decode cX0_mostPressedOfReleased 5 = .ok (.getfield 82, 3) := by decide +kernel
theorem dX0_mostPressedOfReleased_8 : decode cX0_mostPressedOfReleased 8 = .ok (.iconst (-1), 1) := by decide +kernel
theorem dX0_mostPressedOfReleased_9 : decode cX0_mostPressedOfReleased 9 = .ok (.ixor, 1) := by decide +kernel
theorem dX0_mostPressedOfReleased_10 : decode cX0_mostPressedOfReleased 10 = .ok (.iand, 1) := by decide +kernel
theorem dX0_mostPressedOfReleased_11 : decode cX0_mostPressedOfReleased 11 = .ok (.istore_n 1, 1) := by decide +kernel
theorem dX0_mostPressedOfReleased_12 : decode cX0_mostPressedOfReleased 12 = .ok (.iconst (-1), 1) := by decide +kernel
theorem dX0_mostPressedOfReleased_13 : decode cX0_mostPressedOfReleased 13 = .ok (.istore_n 2, 1) := by decide +kernel
theorem dX0_mostPressedOfReleased_14 : decode cX0_mostPressedOfReleased 14 = .ok (.lconst 0, 1) := by decide +kernel
theorem dX0_mostPressedOfReleased_15 : decode cX0_mostPressedOfReleased 15 = .ok (.lstore_n 3, 1) := by decide +kernel
theorem dX0_mostPressedOfReleased_16 : decode cX0_mostPressedOfReleased 16 = .ok (.iconst 0, 1) := by decide +kernel
theorem dX0_mostPressedOfReleased_17 : decode cX0_mostPressedOfReleased 17 = .ok (.istore 5, 2) := by decide +kernel
theorem dX0_mostPressedOfReleased_19 : decode cX0_mostPressedOfReleased 19 = .ok (.iload 5, 2) := by decide +kernel
theorem dX0_mostPressedOfReleased_21 : decode cX0_mostPressedOfReleased 21 = .ok (.aload_n 0, 1) := by decide +kernel
theorem dX0_mostPressedOfReleased_22 : decode cX0_mostPressedOfReleased 22 = .ok (.getfield 50, 3) := by decide +kernel
theorem dX0_mostPressedOfReleased_25 : decode cX0_mostPressedOfReleased 25 = .ok (.if_icmp .ge 59, 3) := by decide +kernel
theorem dX0_mostPressedOfReleased_28 : decode cX0_mostPressedOfReleased 28 = .ok (.iload_n 1, 1) := by decide +kernel
theorem dX0_mostPressedOfReleased_29 : decode cX0_mostPressedOfReleased 29 = .ok (.ifCond .eq 55, 3) := by decide +kernel
theorem dX0_mostPressedOfReleased_32 : decode cX0_mostPressedOfReleased 32 = .ok (.iload_n 1, 1) := by decide +kernel
theorem dX0_mostPressedOfReleased_33 : decode cX0_mostPressedOfReleased 33 = .ok (.iload 5, 2) := by decide +kernel
theorem dX0_mostPressedOfReleased_35 : decode cX0_mostPressedOfReleased 35 = .ok (.ishr, 1) := by decide +kernel
theorem dX0_mostPressedOfReleased_36 : decode cX0_mostPressedOfReleased 36 = .ok (.iconst 1, 1) := by decide +kernel
theorem dX0_mostPressedOfReleased_37 : decode cX0_mostPressedOfReleased 37 = .ok (.iand, 1) := by decide +kernel
theorem dX0_mostPressedOfReleased_38 : decode cX0_mostPressedOfReleased 38 = .ok (.iconst 1, 1) := by decide +kernel
theorem dX0_mostPressedOfReleased_39 : decode cX0_mostPressedOfReleased 39 = .ok (.if_icmp .ne 39, 3) := by decide +kernel
theorem dX0_mostPressedOfReleased_42 : decode cX0_mostPressedOfReleased 42 = .ok (.aload_n 0, 1) := by decide +kernel
theorem dX0_mostPressedOfReleased_43 : decode cX0_mostPressedOfReleased 43 = .ok (.getfield 31, 3) := by decide +kernel
theorem dX0_mostPressedOfReleased_46 : decode cX0_mostPressedOfReleased 46 = .ok (.aload_n 0, 1) := by decide +kernel
theorem dX0_mostPressedOfReleased_47 : decode cX0_mostPressedOfReleased 47 = .ok (.getfield 11, 3) := by decide +kernel
theorem dX0_mostPressedOfReleased_50 : decode cX0_mostPressedOfReleased 50 = .ok (.iload 5, 2) := by decide +kernel
theorem dX0_mostPressedOfReleased_52 : decode cX0_mostPressedOfReleased 52 = .ok (.iaload, 1) := by decide +kernel
theorem dX0_mostPressedOfReleased_53 : decode cX0_mostPressedOfReleased 53 = .ok (.aload_n 0, 1) := by decide +kernel
theorem dX0_mostPressedOfReleased_54 : decode cX0_mostPressedOfReleased 54 = .ok (.getfield 15, 3) := by decide +kernel
theorem dX0_mostPressedOfReleased_57 : decode cX0_mostPressedOfReleased 57 = .ok (.iload 5, 2) := by decide +kernel
theorem dX0_mostPressedOfReleased_59 : decode cX0_mostPressedOfReleased 59 = .ok (.iaload, 1) := by decide +kernel
theorem dX0_mostPressedOfReleased_60 : decode cX0_mostPressedOfReleased 60 = .ok (.invokevirtual 113, 3) := by decide +kernel
theorem dX0_mostPressedOfReleased_63 : decode cX0_mostPressedOfReleased 63 = .ok (.lstore 6, 2) := by decide +kernel
theorem dX0_mostPressedOfReleased_65 : decode cX0_mostPressedOfReleased 65 = .ok (.lload 6, 2) := by decide +kernel
theorem dX0_mostPressedOfReleased_67 : decode cX0_mostPressedOfReleased 67 = .ok (.lload_n 3, 1) := by decide +kernel
theorem dX0_mostPressedOfReleased_68 : decode cX0_mostPressedOfReleased 68 = .ok (.lcmp, 1) := by decide +kernel
theorem dX0_mostPressedOfReleased_69 : decode cX0_mostPressedOfReleased 69 = .ok (.ifCond .le 9, 3) := by decide +kernel
theorem dX0_mostPressedOfReleased_72 : decode cX0_mostPressedOfReleased 72 = .ok (.lload 6, 2) := by decide +kernel
theorem dX0_mostPressedOfReleased_74 : decode cX0_mostPressedOfReleased 74 = .ok (.lstore_n 3, 1) := by decide +kernel
theorem dX0_mostPressedOfReleased_75 : decode cX0_mostPressedOfReleased 75 = .ok (.iload 5, 2) := by decide +kernel
theorem dX0_mostPressedOfReleased_77 : decode cX0_mostPressedOfReleased 77 = .ok (.istore_n 2, 1) := by decide +kernel
theorem dX0_mostPressedOfReleased_78 : decode cX0_mostPressedOfReleased 78 = .ok (.iinc 5 1, 3) := by decide +kernel
theorem dX0_mostPressedOfReleased_81 : decode cX0_mostPressedOfReleased 81 = .ok (.goto (-62), 3) := by decide +kernel
theorem dX0_mostPressedOfReleased_84 : decode cX0_mostPressedOfReleased 84 = .ok (.iload_n 2, 1) := by decide +kernel
theorem dX0_mostPressedOfReleased_85 : decode cX0_mostPressedOfReleased 85 = .ok (.ireturn, 1) := by decide +kernel
theorem dX0_findMostUsed_0 : decode cX0_findMostUsed 0 = .ok (.aload_n 0, 1) := by decide +kernel
theorem dX0_findMostUsed_1 : decode cX0_findMostUsed 1 = .ok (.iconst (-1), 1) := by decide +kernel
theorem dX0_findMostUsed_2 : decode cX0_findMostUsed 2 = .ok (.putfield 117, 3) := by decide +kernel
theorem dX0_findMostUsed_5 : decode cX0_findMostUsed 5 = .ok (.lconst 0, 1) := by decide +kernel
theorem dX0_findMostUsed_6 : decode cX0_findMostUsed 6 = .ok (.lstore_n 1, 1) := by decide +kernel
theorem dX0_findMostUsed_7 : decode cX0_findMostUsed 7 = .ok (.iconst 0, 1) := by decide +kernel
theorem dX0_findMostUsed_8 : decode cX0_findMostUsed 8 = .ok (.istore_n 3, 1) := by decide +kernel
theorem dX0_findMostUsed_9 : decode cX0_findMostUsed 9 = .ok (.iload_n 3, 1) := by decide +kernel
theorem dX0_findMostUsed_10 : decode cX0_findMostUsed 10 = .ok (.aload_n 0, 1) := by decide +kernel
theorem dX0_findMostUsed_11 : decode cX0_findMostUsed 11 = .ok (.getfield 50, 3) := by decide +kernel
theorem dX0_findMostUsed_14 : decode cX0_findMostUsed 14 = .ok (.if_icmp .ge 69, 3) := by decide +kernel
theorem dX0_findMostUsed_17 : decode cX0_findMostUsed 17 = .ok (.aload_n 0, 1) := by decide +kernel
theorem dX0_findMostUsed_18 : decode cX0_findMostUsed 18 = .ok (.getfield 68, 3) := by decide +kernel
theorem dX0_findMostUsed_21 : decode cX0_findMostUsed 21 = .ok (.iload_n 3, 1) := by decide +kernel
theorem dX0_findMostUsed_22 : decode cX0_findMostUsed 22 = .ok (.ishr, 1) := by decide +kernel
theorem dX0_findMostUsed_23 : decode cX0_findMostUsed 23 = .ok (.iconst 1, 1) := by decide +kernel
theorem dX0_findMostUsed_24 : decode cX0_findMostUsed 24 = .ok (.iand, 1) := by decide +kernel
theorem dX0_findMostUsed_25 : decode cX0_findMostUsed 25 = .ok (.iconst 1, 1) := by decide +kernel
theorem dX0_findMostUsed_26 : decode cX0_findMostUsed 26 = .ok (.if_icmp .ne 51, 3) := by decide +kernel
theorem dX0_findMostUsed_29 : decode cX0_findMostUsed 29 = .ok (.aload_n 0, 1) := by decide +kernel
theorem dX0_findMostUsed_30 : decode cX0_findMostUsed 30 = .ok (.iload_n 3, 1) := by decide +kernel
theorem dX0_findMostUsed_31 : decode cX0_findMostUsed 31 = .ok (.invokevirtual 120, 3) := by decide +kernel
theorem dX0_findMostUsed_34 : decode cX0_findMostUsed 34 = .ok (.lstore 4, 2) := by decide +kernel
theorem dX0_findMostUsed_36 : decode cX0_findMostUsed 36 = .ok (.aload_n 0, 1) := by decide +kernel
theorem dX0_findMostUsed_37 : decode cX0_findMostUsed 37 = .ok (.getfield 117, 3) := by decide +kernel
theorem dX0_findMostUsed_40 : decode cX0_findMostUsed 40 = .ok (.ifCond .lt 29, 3) := by decide +kernel
theorem dX0_findMostUsed_43 : decode cX0_findMostUsed 43 = .ok (.lload 4, 2) := by decide +kernel
theorem dX0_findMostUsed_45 : decode cX0_findMostUsed 45 = .ok (.aload_n 0, 1) := by decide +kernel
theorem dX0_findMostUsed_46 : decode cX0_findMostUsed 46 = .ok (.getfield 21, 3) := by decide +kernel
theorem dX0_findMostUsed_49 : decode cX0_findMostUsed 49 = .ok (.aload_n 0, 1) := by decide +kernel
theorem dX0_findMostUsed_50 : decode cX0_findMostUsed 50 = .ok (.getfield 117, 3) := by decide +kernel
theorem dX0_findMostUsed_53 : decode cX0_findMostUsed 53 = .ok (.iaload, 1) := by decide +kernel
theorem dX0_findMostUsed_54 : decode cX0_findMostUsed 54 = .ok (.i2l, 1) := by decide +kernel
theorem dX0_findMostUsed_55 : decode cX0_findMostUsed 55 = .ok (.lmul, 1) := by decide +kernel
theorem dX0_findMostUsed_56 : decode cX0_findMostUsed 56 = .ok (.lload_n 1, 1) := by decide +kernel
theorem dX0_findMostUsed_57 : decode cX0_findMostUsed 57 = .ok (.aload_n 0, 1) := by decide +kernel
theorem dX0_findMostUsed_58 : decode cX0_findMostUsed 58 = .ok (.getfield 21, 3) := by decide +kernel
theorem dX0_findMostUsed_61 : decode cX0_findMostUsed 61 = .ok (.iload_n 3, 1) := by decide +kernel
theorem dX0_findMostUsed_62 : decode cX0_findMostUsed 62 = .ok (.iaload, 1) := by decide +kernel
theorem dX0_findMostUsed_63 : decode cX0_findMostUsed 63 = .ok (.i2l, 1) := by decide +kernel
theorem dX0_findMostUsed_64 : decode cX0_findMostUsed 64 = .ok (.lmul, 1) := by decide +kernel
theorem dX0_findMostUsed_65 : decode cX0_findMostUsed 65 = .ok (.lcmp, 1) := by decide +kernel
theorem dX0_findMostUsed_66 : decode cX0_findMostUsed 66 = .ok (.ifCond .le 11, 3) := by decide +kernel
theorem dX0_findMostUsed_69 : decode cX0_findMostUsed 69 = .ok (.aload_n 0, 1) := by decide +kernel
theorem dX0_findMostUsed_70 : decode cX0_findMostUsed 70 = .ok (.iload_n 3, 1) := by decide +kernel
theorem dX0_findMostUsed_71 : decode cX0_findMostUsed 71 = .ok (.putfield 117, 3) := by decide +kernel
theorem dX0_findMostUsed_74 : decode cX0_findMostUsed 74 = .ok (.lload 4, 2) := by decide +kernel
theorem dX0_findMostUsed_76 : decode cX0_findMostUsed 76 = .ok (.lstore_n 1, 1) := by decide +kernel
theorem dX0_findMostUsed_77 : decode cX0_findMostUsed 77 = .ok (.iinc 3 1, 3) := by decide +kernel
theorem dX0_findMostUsed_80 : decode cX0_findMostUsed 80 = .ok (.goto (-71), 3) := by decide +kernel
theorem dX0_findMostUsed_83 : decode cX0_findMostUsed 83 = .ok (.return_, 1) := by decide +kernel
theorem dX0_pullsNoPile_0 : decode cX0_pullsNoPile 0 = .ok (.aload_n 0, 1) := by decide +kernel
theorem dX0_pullsNoPile_1 : decode cX0_pullsNoPile 1 = .ok (.getfield 31, 3) := by decide +kernel
theorem dX0_pullsNoPile_4 : decode cX0_pullsNoPile 4 = .ok (.lconst 1, 1) := by decide +kernel
theorem dX0_pullsNoPile_5 : decode cX0_pullsNoPile 5 = .ok (.iload_n 1, 1) := by decide +kernel
theorem dX0_pullsNoPile_6 : decode cX0_pullsNoPile 6 = .ok (.i2l, 1) := by decide +kernel
theorem dX0_pullsNoPile_7 : decode cX0_pullsNoPile 7 = .ok (.iload_n 2, 1) := by decide +kernel
theorem dX0_pullsNoPile_8 : decode cX0_pullsNoPile 8 = .ok (.i2l, 1) := by decide +kernel
theorem dX0_pullsNoPile_9 : decode cX0_pullsNoPile 9 = .ok (.invokevirtual 102, 3) := by decide +kernel
theorem dX0_pullsNoPile_12 : decode cX0_pullsNoPile 12 = .ok (.aload_n 0, 1) := by decide +kernel
theorem dX0_pullsNoPile_13 : decode cX0_pullsNoPile 13 = .ok (.invokevirtual 106, 3) := by decide +kernel
theorem dX0_pullsNoPile_16 : decode cX0_pullsNoPile 16 = .ok (.ifCond .ge 7, 3) := by decide +kernel
theorem dX0_pullsNoPile_19 : decode cX0_pullsNoPile 19 = .ok (.iconst 1, 1) := by decide +kernel
theorem dX0_pullsNoPile_20 : decode cX0_pullsNoPile 20 = .ok (.goto 4, 3) := by decide +kernel
theorem dX0_pullsNoPile_23 : decode cX0_pullsNoPile 23 = .ok (.iconst 0, 1) := by decide +kernel
theorem dX0_pullsNoPile_24 : decode cX0_pullsNoPile 24 = .ok (.ireturn, 1) := by decide +kernel
theorem dX0_braceAll_0 : decode cX0_braceAll 0 = .ok (.aload_n 0, 1) := by decide +kernel
theorem dX0_braceAll_1 : decode cX0_braceAll 1 = .ok (.iload_n 1, 1) := by decide +kernel
theorem dX0_braceAll_2 : decode cX0_braceAll 2 = .ok (.invokevirtual 61, 3) := by decide +kernel
theorem dX0_braceAll_5 : decode cX0_braceAll 5 = .ok (.aload_n 0, 1) := by decide +kernel
theorem dX0_braceAll_6 : decode cX0_braceAll 6 = .ok (.getfield 31, 3) := by decide +kernel
theorem dX0_braceAll_9 : decode cX0_braceAll 9 = .ok (.aload_n 0, 1) := by decide +kernel
theorem dX0_braceAll_10 : decode cX0_braceAll 10 = .ok (.getfield 27, 3) := by decide +kernel
theorem dX0_braceAll_13 : decode cX0_braceAll 13 = .ok (.invokevirtual 78, 3) := by decide +kernel
theorem dX0_braceAll_16 : decode cX0_braceAll 16 = .ok (.aload_n 0, 1) := by decide +kernel
theorem dX0_braceAll_17 : decode cX0_braceAll 17 = .ok (.aload_n 0, 1) := by decide +kernel
theorem dX0_braceAll_18 : decode cX0_braceAll 18 = .ok (.getfield 68, 3) := by decide +kernel
theorem dX0_braceAll_21 : decode cX0_braceAll 21 = .ok (.putfield 82, 3) := by decide +kernel
theorem dX0_braceAll_24 : decode cX0_braceAll 24 = .ok (.aload_n 0, 1) := by decide +kernel
theorem dX0_braceAll_25 : decode cX0_braceAll 25 = .ok (.getfield 31, 3) := by decide +kernel
theorem dX0_braceAll_28 : decode cX0_braceAll 28 = .ok (.invokevirtual 99, 3) := by decide +kernel
theorem dX0_braceAll_31 : decode cX0_braceAll 31 = .ok (.ireturn, 1) := by decide +kernel
theorem dX0_isActive_0 : decode cX0_isActive 0 = .ok (.aload_n 0, 1) := by decide +kernel
theorem dX0_isActive_1 : decode cX0_isActive 1 = .ok (.getfield 82, 3) := by decide +kernel
theorem dX0_isActive_4 : decode cX0_isActive 4 = .ok (.iload_n 1, 1) := by decide +kernel
theorem dX0_isActive_5 : decode cX0_isActive 5 = .ok (.ishr, 1) := by decide +kernel
theorem dX0_isActive_6 : decode cX0_isActive 6 = .ok (.iconst 1, 1) := by decide +kernel
theorem dX0_isActive_7 : decode cX0_isActive 7 = .ok (.iand, 1) := by decide +kernel
theorem dX0_isActive_8 : decode cX0_isActive 8 = .ok (.iconst 1, 1) := by decide +kernel
theorem dX0_isActive_9 : decode cX0_isActive 9 = .ok (.if_icmp .ne 7, 3) := by decide +kernel
theorem dX0_isActive_12 : decode cX0_isActive 12 = .ok (.iconst 1, 1) := by decide +kernel
theorem dX0_isActive_13 : decode cX0_isActive 13 = .ok (.goto 4, 3) := by decide +kernel
theorem dX0_isActive_16 : decode cX0_isActive 16 = .ok (.iconst 0, 1) := by decide +kernel
theorem dX0_isActive_17 : decode cX0_isActive 17 = .ok (.ireturn, 1) := by decide +kernel
theorem dX0_isSlot_0 : decode cX0_isSlot 0 = .ok (.iload_n 0, 1) := by decide +kernel
theorem dX0_isSlot_1 : decode cX0_isSlot 1 = .ok (.ifCond .lt 13, 3) := by decide +kernel
theorem dX0_isSlot_4 : decode cX0_isSlot 4 = .ok (.iload_n 0, 1) := by decide +kernel
theorem dX0_isSlot_5 : decode cX0_isSlot 5 = .ok (.bipush 9, 2) := by decide +kernel
theorem dX0_isSlot_7 : decode cX0_isSlot 7 = .ok (.if_icmp .ge 7, 3) := by decide +kernel
theorem dX0_isSlot_10 : decode cX0_isSlot 10 = .ok (.iconst 1, 1) := by decide +kernel
theorem dX0_isSlot_11 : decode cX0_isSlot 11 = .ok (.goto 4, 3) := by decide +kernel
theorem dX0_isSlot_14 : decode cX0_isSlot 14 = .ok (.iconst 0, 1) := by decide +kernel
theorem dX0_isSlot_15 : decode cX0_isSlot 15 = .ok (.ireturn, 1) := by decide +kernel
theorem dX0_shareTop_0 : decode cX0_shareTop 0 = .ok (.iload_n 1, 1) := by decide +kernel
theorem dX0_shareTop_1 : decode cX0_shareTop 1 = .ok (.invokestatic 124, 3) := by decide +kernel
theorem dX0_shareTop_4 : decode cX0_shareTop 4 = .ok (.ifCond .eq 41, 3) := by decide +kernel
theorem dX0_shareTop_7 : decode cX0_shareTop 7 = .ok (.aload_n 0, 1) := by decide +kernel
theorem dX0_shareTop_8 : decode cX0_shareTop 8 = .ok (.iload_n 1, 1) := by decide +kernel
theorem dX0_shareTop_9 : decode cX0_shareTop 9 = .ok (.invokevirtual 128, 3) := by decide +kernel
theorem dX0_shareTop_12 : decode cX0_shareTop 12 = .ok (.ifCond .eq 33, 3) := by decide +kernel
theorem dX0_shareTop_15 : decode cX0_shareTop 15 = .ok (.aload_n 0, 1) := by decide +kernel
theorem dX0_shareTop_16 : decode cX0_shareTop 16 = .ok (.getfield 18, 3) := by decide +kernel
theorem dX0_shareTop_19 : decode cX0_shareTop 19 = .ok (.iload_n 1, 1) := by decide +kernel
theorem dX0_shareTop_20 : decode cX0_shareTop 20 = .ok (.iaload, 1) := by decide +kernel
theorem dX0_shareTop_21 : decode cX0_shareTop 21 = .ok (.i2l, 1) := by decide +kernel
theorem dX0_shareTop_22 : decode cX0_shareTop 22 = .ok (.aload_n 0, 1) := by decide +kernel
theorem dX0_shareTop_23 : decode cX0_shareTop 23 = .ok (.getfield 31, 3) := by decide +kernel
theorem dX0_shareTop_26 : decode cX0_shareTop 26 = .ok (.aload_n 0, 1) := by decide +kernel
theorem dX0_shareTop_27 : decode cX0_shareTop 27 = .ok (.getfield 11, 3) := by decide +kernel
theorem dX0_shareTop_30 : decode cX0_shareTop 30 = .ok (.iload_n 1, 1) := by decide +kernel
theorem dX0_shareTop_31 : decode cX0_shareTop 31 = .ok (.iaload, 1) := by decide +kernel
theorem dX0_shareTop_32 : decode cX0_shareTop 32 = .ok (.aload_n 0, 1) := by decide +kernel
theorem dX0_shareTop_33 : decode cX0_shareTop 33 = .ok (.getfield 15, 3) := by decide +kernel
theorem dX0_shareTop_36 : decode cX0_shareTop 36 = .ok (.iload_n 1, 1) := by decide +kernel
theorem dX0_shareTop_37 : decode cX0_shareTop 37 = .ok (.iaload, 1) := by decide +kernel
theorem dX0_shareTop_38 : decode cX0_shareTop 38 = .ok (.invokevirtual 113, 3) := by decide +kernel
theorem dX0_shareTop_41 : decode cX0_shareTop 41 = .ok (.lmul, 1) := by decide +kernel
theorem dX0_shareTop_42 : decode cX0_shareTop 42 = .ok (.goto 4, 3) := by decide +kernel
theorem dX0_shareTop_45 : decode cX0_shareTop 45 = .ok (.lconst 0, 1) := by decide +kernel
theorem dX0_shareTop_46 : decode cX0_shareTop 46 = .ok (.lreturn, 1) := by decide +kernel
theorem dX0_bottom_0 : decode cX0_bottom 0 = .ok (.aload_n 0, 1) := by decide +kernel
theorem dX0_bottom_1 : decode cX0_bottom 1 = .ok (.getfield 31, 3) := by decide +kernel
theorem dX0_bottom_4 : decode cX0_bottom 4 = .ok (.getfield 131, 3) := by decide +kernel
theorem dX0_bottom_7 : decode cX0_bottom 7 = .ok (.lreturn, 1) := by decide +kernel
theorem dX0_shareDown_0 : decode cX0_shareDown 0 = .ok (.aload_n 0, 1) := by decide +kernel
theorem dX0_shareDown_1 : decode cX0_shareDown 1 = .ok (.getfield 31, 3) := by decide +kernel
theorem dX0_shareDown_4 : decode cX0_shareDown 4 = .ok (.getfield 131, 3) := by decide +kernel
theorem dX0_shareDown_7 : decode cX0_shareDown 7 = .ok (.lconst 0, 1) := by decide +kernel
theorem dX0_shareDown_8 : decode cX0_shareDown 8 = .ok (.lcmp, 1) := by decide +kernel
theorem dX0_shareDown_9 : decode cX0_shareDown 9 = .ok (.ifCond .ne 7, 3) := by decide +kernel
theorem dX0_shareDown_12 : decode cX0_shareDown 12 = .ok (.lconst 0, 1) := by decide +kernel
theorem dX0_shareDown_13 : decode cX0_shareDown 13 = .ok (.goto 18, 3) := by decide +kernel
theorem dX0_shareDown_16 : decode cX0_shareDown 16 = .ok (.aload_n 0, 1) := by decide +kernel
theorem dX0_shareDown_17 : decode cX0_shareDown 17 = .ok (.iload_n 1, 1) := by decide +kernel
theorem dX0_shareDown_18 : decode cX0_shareDown 18 = .ok (.invokevirtual 120, 3) := by decide +kernel
theorem dX0_shareDown_21 : decode cX0_shareDown 21 = .ok (.aload_n 0, 1) := by decide +kernel
theorem dX0_shareDown_22 : decode cX0_shareDown 22 = .ok (.getfield 31, 3) := by decide +kernel
theorem dX0_shareDown_25 : decode cX0_shareDown 25 = .ok (.getfield 131, 3) := by decide +kernel
theorem dX0_shareDown_28 : decode cX0_shareDown 28 = .ok (.invokestatic 134, 3) := by decide +kernel
theorem dX0_shareDown_31 : decode cX0_shareDown 31 = .ok (.lreturn, 1) := by decide +kernel
theorem dX0_useTop_0 : decode cX0_useTop 0 = .ok (.aload_n 0, 1) := by decide +kernel
theorem dX0_useTop_1 : decode cX0_useTop 1 = .ok (.aload_n 0, 1) := by decide +kernel
theorem dX0_useTop_2 : decode cX0_useTop 2 = .ok (.getfield 117, 3) := by decide +kernel
theorem dX0_useTop_5 : decode cX0_useTop 5 = .ok (.invokevirtual 120, 3) := by decide +kernel
theorem dX0_useTop_8 : decode cX0_useTop 8 = .ok (.lreturn, 1) := by decide +kernel
theorem dX0_useBottom_0 : decode cX0_useBottom 0 = .ok (.aload_n 0, 1) := by decide +kernel
theorem dX0_useBottom_1 : decode cX0_useBottom 1 = .ok (.getfield 117, 3) := by decide +kernel
theorem dX0_useBottom_4 : decode cX0_useBottom 4 = .ok (.invokestatic 124, 3) := by decide +kernel
theorem dX0_useBottom_7 : decode cX0_useBottom 7 = .ok (.ifCond .eq 24, 3) := by decide +kernel
theorem dX0_useBottom_10 : decode cX0_useBottom 10 = .ok (.aload_n 0, 1) := by decide +kernel
theorem dX0_useBottom_11 : decode cX0_useBottom 11 = .ok (.getfield 31, 3) := by decide +kernel
theorem dX0_useBottom_14 : decode cX0_useBottom 14 = .ok (.getfield 131, 3) := by decide +kernel
theorem dX0_useBottom_17 : decode cX0_useBottom 17 = .ok (.aload_n 0, 1) := by decide +kernel
theorem dX0_useBottom_18 : decode cX0_useBottom 18 = .ok (.getfield 21, 3) := by decide +kernel
theorem dX0_useBottom_21 : decode cX0_useBottom 21 = .ok (.aload_n 0, 1) := by decide +kernel
theorem dX0_useBottom_22 : decode cX0_useBottom 22 = .ok (.getfield 117, 3) := by decide +kernel
theorem dX0_useBottom_25 : decode cX0_useBottom 25 = .ok (.iaload, 1) := by decide +kernel
theorem dX0_useBottom_26 : decode cX0_useBottom 26 = .ok (.i2l, 1) := by decide +kernel
theorem dX0_useBottom_27 : decode cX0_useBottom 27 = .ok (.lmul, 1) := by decide +kernel
theorem dX0_useBottom_28 : decode cX0_useBottom 28 = .ok (.goto 4, 3) := by decide +kernel
theorem dX0_useBottom_31 : decode cX0_useBottom 31 = .ok (.lconst 1, 1) := by decide +kernel
theorem dX0_useBottom_32 : decode cX0_useBottom 32 = .ok (.lreturn, 1) := by decide +kernel
theorem dX1_init_0 : decode cX1_init 0 = .ok (.aload_n 0, 1) := by decide +kernel
theorem dX1_init_1 : decode cX1_init 1 = .ok (.invokespecial 1, 3) := by decide +kernel
theorem dX1_init_4 : decode cX1_init 4 = .ok (.return_, 1) := by decide +kernel
theorem dX1_empty_0 : decode cX1_empty 0 = .ok (.aload_n 0, 1) := by decide +kernel
theorem dX1_empty_1 : decode cX1_empty 1 = .ok (.lconst 0, 1) := by decide +kernel
theorem dX1_empty_2 : decode cX1_empty 2 = .ok (.putfield 7, 3) := by decide +kernel
theorem dX1_empty_5 : decode cX1_empty 5 = .ok (.aload_n 0, 1) := by decide +kernel
theorem dX1_empty_6 : decode cX1_empty 6 = .ok (.lconst 0, 1) := by decide +kernel
theorem dX1_empty_7 : decode cX1_empty 7 = .ok (.putfield 13, 3) := by decide +kernel
theorem dX1_empty_10 : decode cX1_empty 10 = .ok (.aload_n 0, 1) := by decide +kernel
theorem dX1_empty_11 : decode cX1_empty 11 = .ok (.lconst 0, 1) := by decide +kernel
theorem dX1_empty_12 : decode cX1_empty 12 = .ok (.putfield 16, 3) := by decide +kernel
theorem dX1_empty_15 : decode cX1_empty 15 = .ok (.aload_n 0, 1) := by decide +kernel
theorem dX1_empty_16 : decode cX1_empty 16 = .ok (.lconst 0, 1) := by decide +kernel
theorem dX1_empty_17 : decode cX1_empty 17 = .ok (.putfield 19, 3) := by decide +kernel
theorem dX1_empty_20 : decode cX1_empty 20 = .ok (.aload_n 0, 1) := by decide +kernel
theorem dX1_empty_21 : decode cX1_empty 21 = .ok (.lconst 0, 1) := by decide +kernel
theorem dX1_empty_22 : decode cX1_empty 22 = .ok (.putfield 22, 3) := by decide +kernel
theorem dX1_empty_25 : decode cX1_empty 25 = .ok (.aload_n 0, 1) := by decide +kernel
theorem dX1_empty_26 : decode cX1_empty 26 = .ok (.lconst 0, 1) := by decide +kernel
theorem dX1_empty_27 : decode cX1_empty 27 = .ok (.putfield 25, 3) := by decide +kernel
theorem dX1_empty_30 : decode cX1_empty 30 = .ok (.return_, 1) := by decide +kernel
theorem dX1_copySums_0 : decode cX1_copySums 0 = .ok (.aload_n 0, 1) := by decide +kernel
theorem dX1_copySums_1 : decode cX1_copySums 1 = .ok (.aload_n 1, 1) := by decide +kernel
theorem dX1_copySums_2 : decode cX1_copySums 2 = .ok (.getfield 7, 3) := by decide +kernel
theorem dX1_copySums_5 : decode cX1_copySums 5 = .ok (.putfield 7, 3) := by decide +kernel
theorem dX1_copySums_8 : decode cX1_copySums 8 = .ok (.aload_n 0, 1) := by decide +kernel
theorem dX1_copySums_9 : decode cX1_copySums 9 = .ok (.aload_n 1, 1) := by decide +kernel
theorem dX1_copySums_10 : decode cX1_copySums 10 = .ok (.getfield 13, 3) := by decide +kernel
theorem dX1_copySums_13 : decode cX1_copySums 13 = .ok (.putfield 13, 3) := by decide +kernel
theorem dX1_copySums_16 : decode cX1_copySums 16 = .ok (.aload_n 0, 1) := by decide +kernel
theorem dX1_copySums_17 : decode cX1_copySums 17 = .ok (.aload_n 1, 1) := by decide +kernel
theorem dX1_copySums_18 : decode cX1_copySums 18 = .ok (.getfield 16, 3) := by decide +kernel
theorem dX1_copySums_21 : decode cX1_copySums 21 = .ok (.putfield 16, 3) := by decide +kernel
theorem dX1_copySums_24 : decode cX1_copySums 24 = .ok (.aload_n 0, 1) := by decide +kernel
theorem dX1_copySums_25 : decode cX1_copySums 25 = .ok (.aload_n 1, 1) := by decide +kernel
theorem dX1_copySums_26 : decode cX1_copySums 26 = .ok (.getfield 19, 3) := by decide +kernel
theorem dX1_copySums_29 : decode cX1_copySums 29 = .ok (.putfield 19, 3) := by decide +kernel
theorem dX1_copySums_32 : decode cX1_copySums 32 = .ok (.aload_n 0, 1) := by decide +kernel
theorem dX1_copySums_33 : decode cX1_copySums 33 = .ok (.aload_n 1, 1) := by decide +kernel
theorem dX1_copySums_34 : decode cX1_copySums 34 = .ok (.getfield 22, 3) := by decide +kernel
theorem dX1_copySums_37 : decode cX1_copySums 37 = .ok (.putfield 22, 3) := by decide +kernel
theorem dX1_copySums_40 : decode cX1_copySums 40 = .ok (.aload_n 0, 1) := by decide +kernel
theorem dX1_copySums_41 : decode cX1_copySums 41 = .ok (.aload_n 1, 1) := by decide +kernel
theorem dX1_copySums_42 : decode cX1_copySums 42 = .ok (.getfield 25, 3) := by decide +kernel
theorem dX1_copySums_45 : decode cX1_copySums 45 = .ok (.putfield 25, 3) := by decide +kernel
theorem dX1_copySums_48 : decode cX1_copySums 48 = .ok (.return_, 1) := by decide +kernel
theorem dX1_put_0 : decode cX1_put 0 = .ok (.iload_n 3, 1) := by decide +kernel
theorem dX1_put_1 : decode cX1_put 1 = .ok (.iload_n 1, 1) := by decide +kernel
theorem dX1_put_2 : decode cX1_put 2 = .ok (.imul, 1) := by decide +kernel
theorem dX1_put_3 : decode cX1_put 3 = .ok (.istore 4, 2) := by decide +kernel
theorem dX1_put_5 : decode cX1_put 5 = .ok (.iload_n 3, 1) := by decide +kernel
theorem dX1_put_6 : decode cX1_put 6 = .ok (.iload_n 2, 1) := by decide +kernel
theorem dX1_put_7 : decode cX1_put 7 = .ok (.imul, 1) := by decide +kernel
theorem dX1_put_8 : decode cX1_put 8 = .ok (.istore 5, 2) := by decide +kernel
theorem dX1_put_10 : decode cX1_put 10 = .ok (.aload_n 0, 1) := by decide +kernel
theorem dX1_put_11 : decode cX1_put 11 = .ok (.dup, 1) := by decide +kernel
theorem dX1_put_12 : decode cX1_put 12 = .ok (.getfield 7, 3) := by decide +kernel
theorem dX1_put_15 : decode cX1_put 15 = .ok (.iload_n 3, 1) := by decide +kernel
theorem dX1_put_16 : decode cX1_put 16 = .ok (.i2l, 1) := by decide +kernel
theorem dX1_put_17 : decode cX1_put 17 = .ok (.ladd, 1) := by decide +kernel
theorem dX1_put_18 : decode cX1_put 18 = .ok (.putfield 7, 3) := by decide +kernel
theorem dX1_put_21 : decode cX1_put 21 = .ok (.aload_n 0, 1) := by decide +kernel
theorem dX1_put_22 : decode cX1_put 22 = .ok (.dup, 1) := by decide +kernel
theorem dX1_put_23 : decode cX1_put 23 = .ok (.getfield 13, 3) := by decide +kernel
theorem dX1_put_26 : decode cX1_put 26 = .ok (.iload 4, 2) := by decide +kernel
theorem dX1_put_28 : decode cX1_put 28 = .ok (.i2l, 1) := by decide +kernel
theorem dX1_put_29 : decode cX1_put 29 = .ok (.ladd, 1) := by decide +kernel
theorem dX1_put_30 : decode cX1_put 30 = .ok (.putfield 13, 3) := by decide +kernel
theorem dX1_put_33 : decode cX1_put 33 = .ok (.aload_n 0, 1) := by decide +kernel
theorem dX1_put_34 : decode cX1_put 34 = .ok (.dup, 1) := by decide +kernel
theorem dX1_put_35 : decode cX1_put 35 = .ok (.getfield 16, 3) := by decide +kernel
theorem dX1_put_38 : decode cX1_put 38 = .ok (.iload 5, 2) := by decide +kernel
theorem dX1_put_40 : decode cX1_put 40 = .ok (.i2l, 1) := by decide +kernel
theorem dX1_put_41 : decode cX1_put 41 = .ok (.ladd, 1) := by decide +kernel
theorem dX1_put_42 : decode cX1_put 42 = .ok (.putfield 16, 3) := by decide +kernel
theorem dX1_put_45 : decode cX1_put 45 = .ok (.aload_n 0, 1) := by decide +kernel
theorem dX1_put_46 : decode cX1_put 46 = .ok (.dup, 1) := by decide +kernel
theorem dX1_put_47 : decode cX1_put 47 = .ok (.getfield 19, 3) := by decide +kernel
theorem dX1_put_50 : decode cX1_put 50 = .ok (.iload 4, 2) := by decide +kernel
theorem dX1_put_52 : decode cX1_put 52 = .ok (.iload_n 1, 1) := by decide +kernel
theorem dX1_put_53 : decode cX1_put 53 = .ok (.imul, 1) := by decide +kernel
theorem dX1_put_54 : decode cX1_put 54 = .ok (.i2l, 1) := by decide +kernel
theorem dX1_put_55 : decode cX1_put 55 = .ok (.ladd, 1) := by decide +kernel
theorem dX1_put_56 : decode cX1_put 56 = .ok (.putfield 19, 3) := by decide +kernel
theorem dX1_put_59 : decode cX1_put 59 = .ok (.aload_n 0, 1) := by decide +kernel
theorem dX1_put_60 : decode cX1_put 60 = .ok (.dup, 1) := by decide +kernel
theorem dX1_put_61 : decode cX1_put 61 = .ok (.getfield 22, 3) := by decide +kernel
theorem dX1_put_64 : decode cX1_put 64 = .ok (.iload 4, 2) := by decide +kernel
theorem dX1_put_66 : decode cX1_put 66 = .ok (.iload_n 2, 1) := by decide +kernel
theorem dX1_put_67 : decode cX1_put 67 = .ok (.imul, 1) := by decide +kernel
theorem dX1_put_68 : decode cX1_put 68 = .ok (.i2l, 1) := by decide +kernel
theorem dX1_put_69 : decode cX1_put 69 = .ok (.ladd, 1) := by decide +kernel
theorem dX1_put_70 : decode cX1_put 70 = .ok (.putfield 22, 3) := by decide +kernel
theorem dX1_put_73 : decode cX1_put 73 = .ok (.aload_n 0, 1) := by decide +kernel
theorem dX1_put_74 : decode cX1_put 74 = .ok (.dup, 1) := by decide +kernel
theorem dX1_put_75 : decode cX1_put 75 = .ok (.getfield 25, 3) := by decide +kernel
theorem dX1_put_78 : decode cX1_put 78 = .ok (.iload 5, 2) := by decide +kernel
theorem dX1_put_80 : decode cX1_put 80 = .ok (.iload_n 2, 1) := by decide +kernel
theorem dX1_put_81 : decode cX1_put 81 = .ok (.imul, 1) := by decide +kernel
theorem dX1_put_82 : decode cX1_put 82 = .ok (.i2l, 1) := by decide +kernel
theorem dX1_put_83 : decode cX1_put 83 = .ok (.ladd, 1) := by decide +kernel
theorem dX1_put_84 : decode cX1_put 84 = .ok (.putfield 25, 3) := by decide +kernel
theorem dX1_put_87 : decode cX1_put 87 = .ok (.return_, 1) := by decide +kernel
theorem dX1_brace_0 : decode cX1_brace 0 = .ok (.aload_n 0, 1) := by decide +kernel
theorem dX1_brace_1 : decode cX1_brace 1 = .ok (.aload_n 0, 1) := by decide +kernel
theorem dX1_brace_2 : decode cX1_brace 2 = .ok (.getfield 19, 3) := by decide +kernel
theorem dX1_brace_5 : decode cX1_brace 5 = .ok (.aload_n 0, 1) := by decide +kernel
theorem dX1_brace_6 : decode cX1_brace 6 = .ok (.getfield 25, 3) := by decide +kernel
theorem dX1_brace_9 : decode cX1_brace 9 = .ok (.lmul, 1) := by decide +kernel
theorem dX1_brace_10 : decode cX1_brace 10 = .ok (.aload_n 0, 1) := by decide +kernel
theorem dX1_brace_11 : decode cX1_brace 11 = .ok (.getfield 22, 3) := by decide +kernel
theorem dX1_brace_14 : decode cX1_brace 14 = .ok (.aload_n 0, 1) := by decide +kernel
theorem dX1_brace_15 : decode cX1_brace 15 = .ok (.getfield 22, 3) := by decide +kernel
theorem dX1_brace_18 : decode cX1_brace 18 = .ok (.lmul, 1) := by decide +kernel
theorem dX1_brace_19 : decode cX1_brace 19 = .ok (.lsub, 1) := by decide +kernel
theorem dX1_brace_20 : decode cX1_brace 20 = .ok (.putfield 28, 3) := by decide +kernel
theorem dX1_brace_23 : decode cX1_brace 23 = .ok (.aload_n 0, 1) := by decide +kernel
theorem dX1_brace_24 : decode cX1_brace 24 = .ok (.aload_n 0, 1) := by decide +kernel
theorem dX1_brace_25 : decode cX1_brace 25 = .ok (.getfield 22, 3) := by decide +kernel
theorem dX1_brace_28 : decode cX1_brace 28 = .ok (.aload_n 0, 1) := by decide +kernel
theorem dX1_brace_29 : decode cX1_brace 29 = .ok (.getfield 16, 3) := by decide +kernel
theorem dX1_brace_32 : decode cX1_brace 32 = .ok (.lmul, 1) := by decide +kernel
theorem dX1_brace_33 : decode cX1_brace 33 = .ok (.aload_n 0, 1) := by decide +kernel
theorem dX1_brace_34 : decode cX1_brace 34 = .ok (.getfield 13, 3) := by decide +kernel
theorem dX1_brace_37 : decode cX1_brace 37 = .ok (.aload_n 0, 1) := by decide +kernel
theorem dX1_brace_38 : decode cX1_brace 38 = .ok (.getfield 25, 3) := by decide +kernel
theorem dX1_brace_41 : decode cX1_brace 41 = .ok (.lmul, 1) := by decide +kernel
theorem dX1_brace_42 : decode cX1_brace 42 = .ok (.lsub, 1) := by decide +kernel
theorem dX1_brace_43 : decode cX1_brace 43 = .ok (.putfield 31, 3) := by decide +kernel
theorem dX1_brace_46 : decode cX1_brace 46 = .ok (.aload_n 0, 1) := by decide +kernel
theorem dX1_brace_47 : decode cX1_brace 47 = .ok (.aload_n 0, 1) := by decide +kernel
theorem dX1_brace_48 : decode cX1_brace 48 = .ok (.getfield 13, 3) := by decide +kernel
theorem dX1_brace_51 : decode cX1_brace 51 = .ok (.aload_n 0, 1) := by decide +kernel
theorem dX1_brace_52 : decode cX1_brace 52 = .ok (.getfield 22, 3) := by decide +kernel
theorem dX1_brace_55 : decode cX1_brace 55 = .ok (.lmul, 1) := by decide +kernel
theorem dX1_brace_56 : decode cX1_brace 56 = .ok (.aload_n 0, 1) := by decide +kernel
theorem dX1_brace_57 : decode cX1_brace 57 = .ok (.getfield 19, 3) := by decide +kernel
theorem dX1_brace_60 : decode cX1_brace 60 = .ok (.aload_n 0, 1) := by decide +kernel
theorem dX1_brace_61 : decode cX1_brace 61 = .ok (.getfield 16, 3) := by decide +kernel
theorem dX1_brace_64 : decode cX1_brace 64 = .ok (.lmul, 1) := by decide +kernel
theorem dX1_brace_65 : decode cX1_brace 65 = .ok (.lsub, 1) := by decide +kernel
theorem dX1_brace_66 : decode cX1_brace 66 = .ok (.putfield 34, 3) := by decide +kernel
theorem dX1_brace_69 : decode cX1_brace 69 = .ok (.aload_n 0, 1) := by decide +kernel
theorem dX1_brace_70 : decode cX1_brace 70 = .ok (.aload_n 0, 1) := by decide +kernel
theorem dX1_brace_71 : decode cX1_brace 71 = .ok (.getfield 7, 3) := by decide +kernel
theorem dX1_brace_74 : decode cX1_brace 74 = .ok (.aload_n 0, 1) := by decide +kernel
theorem dX1_brace_75 : decode cX1_brace 75 = .ok (.getfield 25, 3) := by decide +kernel
theorem dX1_brace_78 : decode cX1_brace 78 = .ok (.lmul, 1) := by decide +kernel
theorem dX1_brace_79 : decode cX1_brace 79 = .ok (.aload_n 0, 1) := by decide +kernel
theorem dX1_brace_80 : decode cX1_brace 80 = .ok (.getfield 16, 3) := by decide +kernel
theorem dX1_brace_83 : decode cX1_brace 83 = .ok (.aload_n 0, 1) := by decide +kernel
theorem dX1_brace_84 : decode cX1_brace 84 = .ok (.getfield 16, 3) := by decide +kernel
theorem dX1_brace_87 : decode cX1_brace 87 = .ok (.lmul, 1) := by decide +kernel
theorem dX1_brace_88 : decode cX1_brace 88 = .ok (.lsub, 1) := by decide +kernel
theorem dX1_brace_89 : decode cX1_brace 89 = .ok (.putfield 37, 3) := by decide +kernel
theorem dX1_brace_92 : decode cX1_brace 92 = .ok (.aload_n 0, 1) := by decide +kernel
theorem dX1_brace_93 : decode cX1_brace 93 = .ok (.aload_n 0, 1) := by decide +kernel
theorem dX1_brace_94 : decode cX1_brace 94 = .ok (.getfield 13, 3) := by decide +kernel
theorem dX1_brace_97 : decode cX1_brace 97 = .ok (.aload_n 0, 1) := by decide +kernel
theorem dX1_brace_98 : decode cX1_brace 98 = .ok (.getfield 16, 3) := by decide +kernel
theorem dX1_brace_101 : decode cX1_brace 101 = .ok (.lmul, 1) := by decide +kernel
theorem dX1_brace_102 : decode cX1_brace 102 = .ok (.aload_n 0, 1) := by decide +kernel
theorem dX1_brace_103 : decode cX1_brace 103 = .ok (.getfield 7, 3) := by decide +kernel
theorem dX1_brace_106 : decode cX1_brace 106 = .ok (.aload_n 0, 1) := by decide +kernel
theorem dX1_brace_107 : decode cX1_brace 107 = .ok (.getfield 22, 3) := by decide +kernel
theorem dX1_brace_110 : decode cX1_brace 110 = .ok (.lmul, 1) := by decide +kernel
theorem dX1_brace_111 : decode cX1_brace 111 = .ok (.lsub, 1) := by decide +kernel
theorem dX1_brace_112 : decode cX1_brace 112 = .ok (.putfield 40, 3) := by decide +kernel
theorem dX1_brace_115 : decode cX1_brace 115 = .ok (.aload_n 0, 1) := by decide +kernel
theorem dX1_brace_116 : decode cX1_brace 116 = .ok (.aload_n 0, 1) := by decide +kernel
theorem dX1_brace_117 : decode cX1_brace 117 = .ok (.getfield 7, 3) := by decide +kernel
theorem dX1_brace_120 : decode cX1_brace 120 = .ok (.aload_n 0, 1) := by decide +kernel
theorem dX1_brace_121 : decode cX1_brace 121 = .ok (.getfield 19, 3) := by decide +kernel
theorem dX1_brace_124 : decode cX1_brace 124 = .ok (.lmul, 1) := by decide +kernel
theorem dX1_brace_125 : decode cX1_brace 125 = .ok (.aload_n 0, 1) := by decide +kernel
theorem dX1_brace_126 : decode cX1_brace 126 = .ok (.getfield 13, 3) := by decide +kernel
theorem dX1_brace_129 : decode cX1_brace 129 = .ok (.aload_n 0, 1) := by decide +kernel
theorem dX1_brace_130 : decode cX1_brace 130 = .ok (.getfield 13, 3) := by decide +kernel
theorem dX1_brace_133 : decode cX1_brace 133 = .ok (.lmul, 1) := by decide +kernel
theorem dX1_brace_134 : decode cX1_brace 134 = .ok (.lsub, 1) := by decide +kernel
theorem dX1_brace_135 : decode cX1_brace 135 = .ok (.putfield 43, 3) := by decide +kernel
theorem dX1_brace_138 : decode cX1_brace 138 = .ok (.aload_n 0, 1) := by decide +kernel
theorem dX1_brace_139 : decode cX1_brace 139 = .ok (.aload_n 0, 1) := by decide +kernel
theorem dX1_brace_140 : decode cX1_brace 140 = .ok (.getfield 7, 3) := by decide +kernel
theorem dX1_brace_143 : decode cX1_brace 143 = .ok (.aload_n 0, 1) := by decide +kernel
theorem dX1_brace_144 : decode cX1_brace 144 = .ok (.getfield 28, 3) := by decide +kernel
theorem dX1_brace_147 : decode cX1_brace 147 = .ok (.lmul, 1) := by decide +kernel
theorem dX1_brace_148 : decode cX1_brace 148 = .ok (.aload_n 0, 1) := by decide +kernel
theorem dX1_brace_149 : decode cX1_brace 149 = .ok (.getfield 13, 3) := by decide +kernel
theorem dX1_brace_152 : decode cX1_brace 152 = .ok (.aload_n 0, 1) := by decide +kernel
theorem dX1_brace_153 : decode cX1_brace 153 = .ok (.getfield 31, 3) := by decide +kernel
theorem dX1_brace_156 : decode cX1_brace 156 = .ok (.lmul, 1) := by decide +kernel
theorem dX1_brace_157 : decode cX1_brace 157 = .ok (.ladd, 1) := by decide +kernel
theorem dX1_brace_158 : decode cX1_brace 158 = .ok (.aload_n 0, 1) := by decide +kernel
theorem dX1_brace_159 : decode cX1_brace 159 = .ok (.getfield 16, 3) := by decide +kernel
theorem dX1_brace_162 : decode cX1_brace 162 = .ok (.aload_n 0, 1) := by decide +kernel
theorem dX1_brace_163 : decode cX1_brace 163 = .ok (.getfield 34, 3) := by decide +kernel
theorem dX1_brace_166 : decode cX1_brace 166 = .ok (.lmul, 1) := by decide +kernel
theorem dX1_brace_167 : decode cX1_brace 167 = .ok (.ladd, 1) := by decide +kernel
theorem dX1_brace_168 : decode cX1_brace 168 = .ok (.putfield 46, 3) := by decide +kernel
theorem dX1_brace_171 : decode cX1_brace 171 = .ok (.aload_n 0, 1) := by decide +kernel
theorem dX1_brace_172 : decode cX1_brace 172 = .ok (.getfield 46, 3) := by decide +kernel
theorem dX1_brace_175 : decode cX1_brace 175 = .ok (.lconst 0, 1) := by decide +kernel
theorem dX1_brace_176 : decode cX1_brace 176 = .ok (.lcmp, 1) := by decide +kernel
theorem dX1_brace_177 : decode cX1_brace 177 = .ok (.ifCond .le 7, 3) := by decide +kernel
theorem dX1_brace_180 : decode cX1_brace 180 = .ok (.iconst 1, 1) := by decide +kernel
theorem dX1_brace_181 : decode cX1_brace 181 = .ok (.goto 4, 3) := by decide +kernel
theorem dX1_brace_184 : decode cX1_brace 184 = .ok (.iconst 0, 1) := by decide +kernel
theorem dX1_brace_185 : decode cX1_brace 185 = .ok (.ireturn, 1) := by decide +kernel
theorem dX1_tilt_0 : decode cX1_tilt 0 = .ok (.aload_n 0, 1) := by decide +kernel
theorem dX1_tilt_1 : decode cX1_tilt 1 = .ok (.aload_n 0, 1) := by decide +kernel
theorem dX1_tilt_2 : decode cX1_tilt 2 = .ok (.getfield 28, 3) := by decide +kernel
theorem dX1_tilt_5 : decode cX1_tilt 5 = .ok (.lload_n 1, 1) := by decide +kernel
theorem dX1_tilt_6 : decode cX1_tilt 6 = .ok (.lmul, 1) := by decide +kernel
theorem dX1_tilt_7 : decode cX1_tilt 7 = .ok (.aload_n 0, 1) := by decide +kernel
theorem dX1_tilt_8 : decode cX1_tilt 8 = .ok (.getfield 31, 3) := by decide +kernel
theorem dX1_tilt_11 : decode cX1_tilt 11 = .ok (.lload_n 3, 1) := by decide +kernel
theorem dX1_tilt_12 : decode cX1_tilt 12 = .ok (.lmul, 1) := by decide +kernel
theorem dX1_tilt_13 : decode cX1_tilt 13 = .ok (.ladd, 1) := by decide +kernel
theorem dX1_tilt_14 : decode cX1_tilt 14 = .ok (.aload_n 0, 1) := by decide +kernel
theorem dX1_tilt_15 : decode cX1_tilt 15 = .ok (.getfield 34, 3) := by decide +kernel
theorem dX1_tilt_18 : decode cX1_tilt 18 = .ok (.lload 5, 2) := by decide +kernel
theorem dX1_tilt_20 : decode cX1_tilt 20 = .ok (.lmul, 1) := by decide +kernel
theorem dX1_tilt_21 : decode cX1_tilt 21 = .ok (.ladd, 1) := by decide +kernel
theorem dX1_tilt_22 : decode cX1_tilt 22 = .ok (.putfield 49, 3) := by decide +kernel
theorem dX1_tilt_25 : decode cX1_tilt 25 = .ok (.aload_n 0, 1) := by decide +kernel
theorem dX1_tilt_26 : decode cX1_tilt 26 = .ok (.aload_n 0, 1) := by decide +kernel
theorem dX1_tilt_27 : decode cX1_tilt 27 = .ok (.getfield 31, 3) := by decide +kernel
theorem dX1_tilt_30 : decode cX1_tilt 30 = .ok (.lload_n 1, 1) := by decide +kernel
theorem dX1_tilt_31 : decode cX1_tilt 31 = .ok (.lmul, 1) := by decide +kernel
theorem dX1_tilt_32 : decode cX1_tilt 32 = .ok (.aload_n 0, 1) := by decide +kernel
theorem dX1_tilt_33 : decode cX1_tilt 33 = .ok (.getfield 37, 3) := by decide +kernel
theorem dX1_tilt_36 : decode cX1_tilt 36 = .ok (.lload_n 3, 1) := by decide +kernel
theorem dX1_tilt_37 : decode cX1_tilt 37 = .ok (.lmul, 1) := by decide +kernel
theorem dX1_tilt_38 : decode cX1_tilt 38 = .ok (.ladd, 1) := by decide +kernel
theorem dX1_tilt_39 : decode cX1_tilt 39 = .ok (.aload_n 0, 1) := by decide +kernel
theorem dX1_tilt_40 : decode cX1_tilt 40 = .ok (.getfield 40, 3) := by decide +kernel
theorem dX1_tilt_43 : decode cX1_tilt 43 = .ok (.lload 5, 2) := by decide +kernel
theorem dX1_tilt_45 : decode cX1_tilt 45 = .ok (.lmul, 1) := by decide +kernel
theorem dX1_tilt_46 : decode cX1_tilt 46 = .ok (.ladd, 1) := by decide +kernel
theorem dX1_tilt_47 : decode cX1_tilt 47 = .ok (.putfield 52, 3) := by decide +kernel
theorem dX1_tilt_50 : decode cX1_tilt 50 = .ok (.aload_n 0, 1) := by decide +kernel
theorem dX1_tilt_51 : decode cX1_tilt 51 = .ok (.aload_n 0, 1) := by decide +kernel
theorem dX1_tilt_52 : decode cX1_tilt 52 = .ok (.getfield 34, 3) := by decide +kernel
theorem dX1_tilt_55 : decode cX1_tilt 55 = .ok (.lload_n 1, 1) := by decide +kernel
theorem dX1_tilt_56 : decode cX1_tilt 56 = .ok (.lmul, 1) := by decide +kernel
theorem dX1_tilt_57 : decode cX1_tilt 57 = .ok (.aload_n 0, 1) := by decide +kernel
theorem dX1_tilt_58 : decode cX1_tilt 58 = .ok (.getfield 40, 3) := by decide +kernel
theorem dX1_tilt_61 : decode cX1_tilt 61 = .ok (.lload_n 3, 1) := by decide +kernel
theorem dX1_tilt_62 : decode cX1_tilt 62 = .ok (.lmul, 1) := by decide +kernel
theorem dX1_tilt_63 : decode cX1_tilt 63 = .ok (.ladd, 1) := by decide +kernel
theorem dX1_tilt_64 : decode cX1_tilt 64 = .ok (.aload_n 0, 1) := by decide +kernel
theorem dX1_tilt_65 : decode cX1_tilt 65 = .ok (.getfield 43, 3) := by decide +kernel
theorem dX1_tilt_68 : decode cX1_tilt 68 = .ok (.lload 5, 2) := by decide +kernel
theorem dX1_tilt_70 : decode cX1_tilt 70 = .ok (.lmul, 1) := by decide +kernel
theorem dX1_tilt_71 : decode cX1_tilt 71 = .ok (.ladd, 1) := by decide +kernel
theorem dX1_tilt_72 : decode cX1_tilt 72 = .ok (.putfield 55, 3) := by decide +kernel
theorem dX1_tilt_75 : decode cX1_tilt 75 = .ok (.return_, 1) := by decide +kernel
theorem dX1_topAt_0 : decode cX1_topAt 0 = .ok (.aload_n 0, 1) := by decide +kernel
theorem dX1_topAt_1 : decode cX1_topAt 1 = .ok (.getfield 49, 3) := by decide +kernel
theorem dX1_topAt_4 : decode cX1_topAt 4 = .ok (.aload_n 0, 1) := by decide +kernel
theorem dX1_topAt_5 : decode cX1_topAt 5 = .ok (.getfield 52, 3) := by decide +kernel
theorem dX1_topAt_8 : decode cX1_topAt 8 = .ok (.iload_n 1, 1) := by decide +kernel
theorem dX1_topAt_9 : decode cX1_topAt 9 = .ok (.i2l, 1) := by decide +kernel
theorem dX1_topAt_10 : decode cX1_topAt 10 = .ok (.lmul, 1) := by decide +kernel
theorem dX1_topAt_11 : decode cX1_topAt 11 = .ok (.ladd, 1) := by decide +kernel
theorem dX1_topAt_12 : decode cX1_topAt 12 = .ok (.aload_n 0, 1) := by decide +kernel
theorem dX1_topAt_13 : decode cX1_topAt 13 = .ok (.getfield 55, 3) := by decide +kernel
theorem dX1_topAt_16 : decode cX1_topAt 16 = .ok (.iload_n 2, 1) := by decide +kernel
theorem dX1_topAt_17 : decode cX1_topAt 17 = .ok (.i2l, 1) := by decide +kernel
theorem dX1_topAt_18 : decode cX1_topAt 18 = .ok (.lmul, 1) := by decide +kernel
theorem dX1_topAt_19 : decode cX1_topAt 19 = .ok (.ladd, 1) := by decide +kernel
theorem dX1_topAt_20 : decode cX1_topAt 20 = .ok (.lreturn, 1) := by decide +kernel
theorem dX2_init_0 : decode cX2_init 0 = .ok (.aload_n 0, 1) := by decide +kernel
theorem dX2_init_1 : decode cX2_init 1 = .ok (.invokespecial 3, 3) := by decide +kernel
theorem dX2_init_4 : decode cX2_init 4 = .ok (.aload_n 0, 1) := by decide +kernel
theorem dX2_init_5 : decode cX2_init 5 = .ok (.sipush 160, 3) := by decide +kernel
theorem dX2_init_8 : decode cX2_init 8 = .ok (.newarray .int, 2) := by decide +kernel
theorem dX2_init_10 : decode cX2_init 10 = .ok (.putfield 9, 3) := by decide +kernel
theorem dX2_init_13 : decode cX2_init 13 = .ok (.return_, 1) := by decide +kernel
theorem dX2_append_0 : decode cX2_append 0 = .ok (.aload_n 0, 1) := by decide +kernel
theorem dX2_append_1 : decode cX2_append 1 = .ok (.getfield 15, 3) := by decide +kernel
theorem dX2_append_4 : decode cX2_append 4 = .ok (.ifCond .lt 13, 3) := by decide +kernel
theorem dX2_append_7 : decode cX2_append 7 = .ok (.aload_n 0, 1) := by decide +kernel
theorem dX2_append_8 : decode cX2_append 8 = .ok (.getfield 15, 3) := by decide +kernel
theorem dX2_append_11 : decode cX2_append 11 = .ok (.sipush 160, 3) := by decide +kernel
theorem dX2_append_14 : decode cX2_append 14 = .ok (.if_icmp .lt 5, 3) := by decide +kernel
theorem dX2_append_17 : decode cX2_append 17 = .ok (.iconst 0, 1) := by decide +kernel
theorem dX2_append_18 : decode cX2_append 18 = .ok (.ireturn, 1) := by decide +kernel
theorem dX2_append_19 : decode cX2_append 19 = .ok (.aload_n 0, 1) := by decide +kernel
theorem dX2_append_20 : decode cX2_append 20 = .ok (.getfield 9, 3) := by decide +kernel
theorem dX2_append_23 : decode cX2_append 23 = .ok (.aload_n 0, 1) := by decide +kernel
theorem dX2_append_24 : decode cX2_append 24 = .ok (.getfield 15, 3) := by decide +kernel
theorem dX2_append_27 : decode cX2_append 27 = .ok (.iload_n 1, 1) := by decide +kernel
theorem dX2_append_28 : decode cX2_append 28 = .ok (.iastore, 1) := by decide +kernel
theorem dX2_append_29 : decode cX2_append 29 = .ok (.aload_n 0, 1) := by decide +kernel
theorem dX2_append_30 : decode cX2_append 30 = .ok (.dup, 1) := by decide +kernel
theorem dX2_append_31 : decode cX2_append 31 = .ok (.getfield 15, 3) := by decide +kernel
theorem dX2_append_34 : decode cX2_append 34 = .ok (.iconst 1, 1) := by decide +kernel
theorem dX2_append_35 : decode cX2_append 35 = .ok (.iadd, 1) := by decide +kernel
theorem dX2_append_36 : decode cX2_append 36 = .ok (.putfield 15, 3) := by decide +kernel
theorem dX2_append_39 : decode cX2_append 39 = .ok (.iconst 1, 1) := by decide +kernel
theorem dX2_append_40 : decode cX2_append 40 = .ok (.ireturn, 1) := by decide +kernel
theorem dX2_readInto_0 : decode cX2_readInto 0 = .ok (.aload_n 1, 1) := by decide +kernel
theorem dX2_readInto_1 : decode cX2_readInto 1 = .ok (.invokevirtual 19, 3) := by decide +kernel
theorem dX2_readInto_4 : decode cX2_readInto 4 = .ok (.aload_n 0, 1) := by decide +kernel
theorem dX2_readInto_5 : decode cX2_readInto 5 = .ok (.iconst 0, 1) := by decide +kernel
theorem dX2_readInto_6 : decode cX2_readInto 6 = .ok (.putfield 24, 3) := by decide +kernel
theorem dX2_readInto_9 : decode cX2_readInto 9 = .ok (.aload_n 0, 1) := by decide +kernel
theorem dX2_readInto_10 : decode cX2_readInto 10 = .ok (.iconst 0, 1) := by decide +kernel
theorem dX2_readInto_11 : decode cX2_readInto 11 = .ok (.putfield 27, 3) := by decide +kernel
theorem dX2_readInto_14 : decode cX2_readInto 14 = .ok (.iconst 0, 1) := by decide +kernel
theorem dX2_readInto_15 : decode cX2_readInto 15 = .ok (.istore_n 2, 1) := by decide +kernel
theorem dX2_readInto_16 : decode cX2_readInto 16 = .ok (.iload_n 2, 1) := by decide +kernel
theorem dX2_readInto_17 : decode cX2_readInto 17 = .ok (.sipush 160, 3) := by decide +kernel
theorem dX2_readInto_20 : decode cX2_readInto 20 = .ok (.if_icmp .ge 37, 3) := by decide +kernel
theorem dX2_readInto_23 : decode cX2_readInto 23 = .ok (.aload_n 0, 1) := by decide +kernel
theorem dX2_readInto_24 : decode cX2_readInto 24 = .ok (.invokevirtual 31, 3) := by decide +kernel
theorem dX2_readInto_27 : decode cX2_readInto 27 = .ok (.aload_n 0, 1) := by decide +kernel
theorem dX2_readInto_28 : decode cX2_readInto 28 = .ok (.getfield 24, 3) := by decide +kernel
theorem dX2_readInto_31 : decode cX2_readInto 31 = .ok (.aload_n 0, 1) := by decide +kernel
theorem dX2_readInto_32 : decode cX2_readInto 32 = .ok (.getfield 15, 3) := by decide +kernel
theorem dX2_readInto_35 : decode cX2_readInto 35 = .ok (.if_icmp .lt 5, 3) := by decide +kernel
theorem dX2_readInto_38 : decode cX2_readInto 38 = .ok (.iload_n 2, 1) := by decide +kernel
theorem dX2_readInto_39 : decode cX2_readInto 39 = .ok (.ireturn, 1) := by decide +kernel
theorem dX2_readInto_40 : decode cX2_readInto 40 = .ok (.aload_n 0, 1) := by decide +kernel
theorem dX2_readInto_41 : decode cX2_readInto 41 = .ok (.aload_n 1, 1) := by decide +kernel
theorem dX2_readInto_42 : decode cX2_readInto 42 = .ok (.invokevirtual 34, 3) := by decide +kernel
theorem dX2_readInto_45 : decode cX2_readInto 45 = .ok (.ifCond .ne 6, 3) := by decide +kernel
theorem dX2_readInto_48 : decode cX2_readInto 48 = .ok (.goto 9, 3) := by decide +kernel
theorem dX2_readInto_51 : decode cX2_readInto 51 = .ok (.iinc 2 1, 3) := by decide +kernel
theorem dX2_readInto_54 : decode cX2_readInto 54 = .ok (.goto (-38), 3) := by decide +kernel
theorem dX2_readInto_57 : decode cX2_readInto 57 = .ok (.bipush (-10), 2) := by decide +kernel
theorem dX2_readInto_59 : decode cX2_readInto 59 = .ok (.aload_n 0, 1) := by decide +kernel
theorem dX2_readInto_60 : decode cX2_readInto 60 = .ok (.getfield 24, 3) := by decide +kernel
theorem dX2_readInto_63 : decode cX2_readInto 63 = .ok (.isub, 1) := by decide +kernel
theorem dX2_readInto_64 : decode cX2_readInto 64 = .ok (.ireturn, 1) := by decide +kernel
theorem dX2_readItem_0 : decode cX2_readItem 0 = .ok (.aload_n 0, 1) := by decide +kernel
theorem dX2_readItem_1 : decode cX2_readItem 1 = .ok (.invokevirtual 38, 3) := by decide +kernel
theorem dX2_readItem_4 : decode cX2_readItem 4 = .ok (.lookupswitch 102 #[(99, 59), (112, 36), (119, 81)], 36) := by decide +kernel
theorem dX2_readItem_40 : decode cX2_readItem 40 = .ok (.aload_n 1, 1) := by decide +kernel
theorem dX2_readItem_41 : decode cX2_readItem 41 = .ok (.getfield 42, 3) := by decide +kernel
theorem dX2_readItem_44 : decode cX2_readItem 44 = .ok (.bipush 8, 2) := by decide +kernel
theorem dX2_readItem_46 : decode cX2_readItem 46 = .ok (.if_icmp .ge 15, 3) := by decide +kernel
theorem dX2_readItem_49 : decode cX2_readItem 49 = .ok (.aload_n 0, 1) := by decide +kernel
theorem dX2_readItem_50 : decode cX2_readItem 50 = .ok (.aload_n 1, 1) := by decide +kernel
theorem dX2_readItem_51 : decode cX2_readItem 51 = .ok (.invokevirtual 45, 3) := by decide +kernel
theorem dX2_readItem_54 : decode cX2_readItem 54 = .ok (.ifCond .eq 7, 3) := by decide +kernel
theorem dX2_readItem_57 : decode cX2_readItem 57 = .ok (.iconst 1, 1) := by decide +kernel
theorem dX2_readItem_58 : decode cX2_readItem 58 = .ok (.goto 4, 3) := by decide +kernel
theorem dX2_readItem_61 : decode cX2_readItem 61 = .ok (.iconst 0, 1) := by decide +kernel
theorem dX2_readItem_62 : decode cX2_readItem 62 = .ok (.ireturn, 1) := by decide +kernel
theorem dX2_readItem_63 : decode cX2_readItem 63 = .ok (.aload_n 1, 1) := by decide +kernel
theorem dX2_readItem_64 : decode cX2_readItem 64 = .ok (.getfield 48, 3) := by decide +kernel
theorem dX2_readItem_67 : decode cX2_readItem 67 = .ok (.iconst 5, 1) := by decide +kernel
theorem dX2_readItem_68 : decode cX2_readItem 68 = .ok (.if_icmp .ge 15, 3) := by decide +kernel
theorem dX2_readItem_71 : decode cX2_readItem 71 = .ok (.aload_n 0, 1) := by decide +kernel
theorem dX2_readItem_72 : decode cX2_readItem 72 = .ok (.aload_n 1, 1) := by decide +kernel
theorem dX2_readItem_73 : decode cX2_readItem 73 = .ok (.invokevirtual 51, 3) := by decide +kernel
theorem dX2_readItem_76 : decode cX2_readItem 76 = .ok (.ifCond .eq 7, 3) := by decide +kernel
theorem dX2_readItem_79 : decode cX2_readItem 79 = .ok (.iconst 1, 1) := by decide +kernel
theorem dX2_readItem_80 : decode cX2_readItem 80 = .ok (.goto 4, 3) := by decide +kernel
theorem dX2_readItem_83 : decode cX2_readItem 83 = .ok (.iconst 0, 1) := by decide +kernel
theorem dX2_readItem_84 : decode cX2_readItem 84 = .ok (.ireturn, 1) := by decide +kernel
theorem dX2_readItem_85 : decode cX2_readItem 85 = .ok (.aload_n 0, 1) := by decide +kernel
theorem dX2_readItem_86 : decode cX2_readItem 86 = .ok (.getfield 27, 3) := by decide +kernel
theorem dX2_readItem_89 : decode cX2_readItem 89 = .ok (.ifCond .ne 15, 3) := by decide +kernel
theorem dX2_readItem_92 : decode cX2_readItem 92 = .ok (.aload_n 0, 1) := by decide +kernel
theorem dX2_readItem_93 : decode cX2_readItem 93 = .ok (.aload_n 1, 1) := by decide +kernel
theorem dX2_readItem_94 : decode cX2_readItem 94 = .ok (.invokevirtual 54, 3) := by decide +kernel
theorem dX2_readItem_97 : decode cX2_readItem 97 = .ok (.ifCond .eq 7, 3) := by decide +kernel
theorem dX2_readItem_100 : decode cX2_readItem 100 = .ok (.iconst 1, 1) := by decide +kernel
theorem dX2_readItem_101 : decode cX2_readItem 101 = .ok (.goto 4, 3) := by decide +kernel
theorem dX2_readItem_104 : decode cX2_readItem 104 = .ok (.iconst 0, 1) := by decide +kernel
theorem dX2_readItem_105 : decode cX2_readItem 105 = .ok (.ireturn, 1) := by decide +kernel
theorem dX2_readItem_106 : decode cX2_readItem 106 = .ok (.iconst 0, 1) := by decide +kernel
theorem dX2_readItem_107 : decode cX2_readItem 107 = .ok (.ireturn, 1) := by decide +kernel
theorem dX2_readPile_0 : decode cX2_readPile 0 = .ok (.aload_n 0, 1) := by decide +kernel
theorem dX2_readPile_1 : decode cX2_readPile 1 = .ok (.dup, 1) := by decide +kernel
theorem dX2_readPile_2 : decode cX2_readPile 2 = .ok (.getfield 24, 3) := by decide +kernel
theorem dX2_readPile_5 : decode cX2_readPile 5 = .ok (.iconst 1, 1) := by decide +kernel
theorem dX2_readPile_6 : decode cX2_readPile 6 = .ok (.iadd, 1) := by decide +kernel
theorem dX2_readPile_7 : decode cX2_readPile 7 = .ok (.putfield 24, 3) := by decide +kernel
theorem dX2_readPile_10 : decode cX2_readPile 10 = .ok (.aload_n 0, 1) := by decide +kernel
theorem dX2_readPile_11 : decode cX2_readPile 11 = .ok (.invokevirtual 57, 3) := by decide +kernel
theorem dX2_readPile_14 : decode cX2_readPile 14 = .ok (.ifCond .ne 5, 3) := by decide +kernel
theorem dX2_readPile_17 : decode cX2_readPile 17 = .ok (.iconst 0, 1) := by decide +kernel
theorem dX2_readPile_18 : decode cX2_readPile 18 = .ok (.ireturn, 1) := by decide +kernel
theorem dX2_readPile_19 : decode cX2_readPile 19 = .ok (.aload_n 1, 1) := by decide +kernel
theorem dX2_readPile_20 : decode cX2_readPile 20 = .ok (.aload_n 0, 1) := by decide +kernel
theorem dX2_readPile_21 : decode cX2_readPile 21 = .ok (.getfield 61, 3) := by decide +kernel
theorem dX2_readPile_24 : decode cX2_readPile 24 = .ok (.aload_n 0, 1) := by decide +kernel
theorem dX2_readPile_25 : decode cX2_readPile 25 = .ok (.getfield 64, 3) := by decide +kernel
theorem dX2_readPile_28 : decode cX2_readPile 28 = .ok (.invokevirtual 67, 3) := by decide +kernel
theorem dX2_readPile_31 : decode cX2_readPile 31 = .ok (.ifCond .eq 13, 3) := by decide +kernel
theorem dX2_readPile_34 : decode cX2_readPile 34 = .ok (.aload_n 0, 1) := by decide +kernel
theorem dX2_readPile_35 : decode cX2_readPile 35 = .ok (.aload_n 0, 1) := by decide +kernel
theorem dX2_readPile_36 : decode cX2_readPile 36 = .ok (.getfield 71, 3) := by decide +kernel
theorem dX2_readPile_39 : decode cX2_readPile 39 = .ok (.putfield 24, 3) := by decide +kernel
theorem dX2_readPile_42 : decode cX2_readPile 42 = .ok (.iconst 0, 1) := by decide +kernel
theorem dX2_readPile_43 : decode cX2_readPile 43 = .ok (.ireturn, 1) := by decide +kernel
theorem dX2_readPile_44 : decode cX2_readPile 44 = .ok (.aload_n 0, 1) := by decide +kernel
theorem dX2_readPile_45 : decode cX2_readPile 45 = .ok (.iconst 1, 1) := by decide +kernel
theorem dX2_readPile_46 : decode cX2_readPile 46 = .ok (.bipush 9, 2) := by decide +kernel
theorem dX2_readPile_48 : decode cX2_readPile 48 = .ok (.invokevirtual 74, 3) := by decide +kernel
theorem dX2_readPile_51 : decode cX2_readPile 51 = .ok (.istore_n 2, 1) := by decide +kernel
theorem dX2_readPile_52 : decode cX2_readPile 52 = .ok (.iload_n 2, 1) := by decide +kernel
theorem dX2_readPile_53 : decode cX2_readPile 53 = .ok (.iconst (-1), 1) := by decide +kernel
theorem dX2_readPile_54 : decode cX2_readPile 54 = .ok (.if_icmp .ne 5, 3) := by decide +kernel
theorem dX2_readPile_57 : decode cX2_readPile 57 = .ok (.iconst 0, 1) := by decide +kernel
theorem dX2_readPile_58 : decode cX2_readPile 58 = .ok (.ireturn, 1) := by decide +kernel
theorem dX2_readPile_59 : decode cX2_readPile 59 = .ok (.aload_n 0, 1) := by decide +kernel
theorem dX2_readPile_60 : decode cX2_readPile 60 = .ok (.iconst 1, 1) := by decide +kernel
theorem dX2_readPile_61 : decode cX2_readPile 61 = .ok (.bipush 99, 2) := by decide +kernel
theorem dX2_readPile_63 : decode cX2_readPile 63 = .ok (.invokevirtual 74, 3) := by decide +kernel
theorem dX2_readPile_66 : decode cX2_readPile 66 = .ok (.istore_n 3, 1) := by decide +kernel
theorem dX2_readPile_67 : decode cX2_readPile 67 = .ok (.iload_n 3, 1) := by decide +kernel
theorem dX2_readPile_68 : decode cX2_readPile 68 = .ok (.iconst (-1), 1) := by decide +kernel
theorem dX2_readPile_69 : decode cX2_readPile 69 = .ok (.if_icmp .eq 10, 3) := by decide +kernel
theorem dX2_readPile_72 : decode cX2_readPile 72 = .ok (.aload_n 0, 1) := by decide +kernel
theorem dX2_readPile_73 : decode cX2_readPile 73 = .ok (.invokevirtual 78, 3) := by decide +kernel
theorem dX2_readPile_76 : decode cX2_readPile 76 = .ok (.ifCond .ne 5, 3) := by decide +kernel
theorem dX2_readPile_79 : decode cX2_readPile 79 = .ok (.iconst 0, 1) := by decide +kernel
theorem dX2_readPile_80 : decode cX2_readPile 80 = .ok (.ireturn, 1) := by decide +kernel
theorem dX2_readPile_81 : decode cX2_readPile 81 = .ok (.aload_n 1, 1) := by decide +kernel
theorem dX2_readPile_82 : decode cX2_readPile 82 = .ok (.aload_n 0, 1) := by decide +kernel
theorem dX2_readPile_83 : decode cX2_readPile 83 = .ok (.getfield 61, 3) := by decide +kernel
theorem dX2_readPile_86 : decode cX2_readPile 86 = .ok (.aload_n 0, 1) := by decide +kernel
theorem dX2_readPile_87 : decode cX2_readPile 87 = .ok (.getfield 64, 3) := by decide +kernel
theorem dX2_readPile_90 : decode cX2_readPile 90 = .ok (.iload_n 2, 1) := by decide +kernel
theorem dX2_readPile_91 : decode cX2_readPile 91 = .ok (.iload_n 3, 1) := by decide +kernel
theorem dX2_readPile_92 : decode cX2_readPile 92 = .ok (.invokevirtual 81, 3) := by decide +kernel
theorem dX2_readPile_95 : decode cX2_readPile 95 = .ok (.iconst 1, 1) := by decide +kernel
theorem dX2_readPile_96 : decode cX2_readPile 96 = .ok (.ireturn, 1) := by decide +kernel
theorem dX2_readColumn_0 : decode cX2_readColumn 0 = .ok (.aload_n 0, 1) := by decide +kernel
theorem dX2_readColumn_1 : decode cX2_readColumn 1 = .ok (.dup, 1) := by decide +kernel
theorem dX2_readColumn_2 : decode cX2_readColumn 2 = .ok (.getfield 24, 3) := by decide +kernel
theorem dX2_readColumn_5 : decode cX2_readColumn 5 = .ok (.iconst 1, 1) := by decide +kernel
theorem dX2_readColumn_6 : decode cX2_readColumn 6 = .ok (.iadd, 1) := by decide +kernel
theorem dX2_readColumn_7 : decode cX2_readColumn 7 = .ok (.putfield 24, 3) := by decide +kernel
theorem dX2_readColumn_10 : decode cX2_readColumn 10 = .ok (.aload_n 0, 1) := by decide +kernel
theorem dX2_readColumn_11 : decode cX2_readColumn 11 = .ok (.invokevirtual 57, 3) := by decide +kernel
theorem dX2_readColumn_14 : decode cX2_readColumn 14 = .ok (.ifCond .ne 5, 3) := by decide +kernel
theorem dX2_readColumn_17 : decode cX2_readColumn 17 = .ok (.iconst 0, 1) := by decide +kernel
theorem dX2_readColumn_18 : decode cX2_readColumn 18 = .ok (.ireturn, 1) := by decide +kernel
theorem dX2_readColumn_19 : decode cX2_readColumn 19 = .ok (.aload_n 0, 1) := by decide +kernel
theorem dX2_readColumn_20 : decode cX2_readColumn 20 = .ok (.iconst 0, 1) := by decide +kernel
theorem dX2_readColumn_21 : decode cX2_readColumn 21 = .ok (.bipush 99, 2) := by decide +kernel
theorem dX2_readColumn_23 : decode cX2_readColumn 23 = .ok (.invokevirtual 74, 3) := by decide +kernel
theorem dX2_readColumn_26 : decode cX2_readColumn 26 = .ok (.istore_n 2, 1) := by decide +kernel
theorem dX2_readColumn_27 : decode cX2_readColumn 27 = .ok (.iload_n 2, 1) := by decide +kernel
theorem dX2_readColumn_28 : decode cX2_readColumn 28 = .ok (.iconst (-1), 1) := by decide +kernel
theorem dX2_readColumn_29 : decode cX2_readColumn 29 = .ok (.if_icmp .eq 10, 3) := by decide +kernel
theorem dX2_readColumn_32 : decode cX2_readColumn 32 = .ok (.aload_n 0, 1) := by decide +kernel
theorem dX2_readColumn_33 : decode cX2_readColumn 33 = .ok (.invokevirtual 78, 3) := by decide +kernel
theorem dX2_readColumn_36 : decode cX2_readColumn 36 = .ok (.ifCond .ne 5, 3) := by decide +kernel
theorem dX2_readColumn_39 : decode cX2_readColumn 39 = .ok (.iconst 0, 1) := by decide +kernel
theorem dX2_readColumn_40 : decode cX2_readColumn 40 = .ok (.ireturn, 1) := by decide +kernel
theorem dX2_readColumn_41 : decode cX2_readColumn 41 = .ok (.aload_n 1, 1) := by decide +kernel
theorem dX2_readColumn_42 : decode cX2_readColumn 42 = .ok (.aload_n 0, 1) := by decide +kernel
theorem dX2_readColumn_43 : decode cX2_readColumn 43 = .ok (.getfield 61, 3) := by decide +kernel
theorem dX2_readColumn_46 : decode cX2_readColumn 46 = .ok (.aload_n 0, 1) := by decide +kernel
theorem dX2_readColumn_47 : decode cX2_readColumn 47 = .ok (.getfield 64, 3) := by decide +kernel
theorem dX2_readColumn_50 : decode cX2_readColumn 50 = .ok (.iload_n 2, 1) := by decide +kernel
theorem dX2_readColumn_51 : decode cX2_readColumn 51 = .ok (.invokevirtual 85, 3) := by decide +kernel
theorem dX2_readColumn_54 : decode cX2_readColumn 54 = .ok (.iconst 1, 1) := by decide +kernel
theorem dX2_readColumn_55 : decode cX2_readColumn 55 = .ok (.ireturn, 1) := by decide +kernel
theorem dX2_readPlace_0 : decode cX2_readPlace 0 = .ok (.aload_n 0, 1) := by decide +kernel
theorem dX2_readPlace_1 : decode cX2_readPlace 1 = .ok (.iconst 0, 1) := by decide +kernel
theorem dX2_readPlace_2 : decode cX2_readPlace 2 = .ok (.bipush 18, 2) := by decide +kernel
theorem dX2_readPlace_4 : decode cX2_readPlace 4 = .ok (.invokevirtual 74, 3) := by decide +kernel
theorem dX2_readPlace_7 : decode cX2_readPlace 7 = .ok (.istore_n 1, 1) := by decide +kernel
theorem dX2_readPlace_8 : decode cX2_readPlace 8 = .ok (.iload_n 1, 1) := by decide +kernel
theorem dX2_readPlace_9 : decode cX2_readPlace 9 = .ok (.iconst (-1), 1) := by decide +kernel
theorem dX2_readPlace_10 : decode cX2_readPlace 10 = .ok (.if_icmp .ne 5, 3) := by decide +kernel
theorem dX2_readPlace_13 : decode cX2_readPlace 13 = .ok (.iconst 0, 1) := by decide +kernel
theorem dX2_readPlace_14 : decode cX2_readPlace 14 = .ok (.ireturn, 1) := by decide +kernel
theorem dX2_readPlace_15 : decode cX2_readPlace 15 = .ok (.aload_n 0, 1) := by decide +kernel
theorem dX2_readPlace_16 : decode cX2_readPlace 16 = .ok (.iconst 0, 1) := by decide +kernel
theorem dX2_readPlace_17 : decode cX2_readPlace 17 = .ok (.bipush 18, 2) := by decide +kernel
theorem dX2_readPlace_19 : decode cX2_readPlace 19 = .ok (.invokevirtual 74, 3) := by decide +kernel
theorem dX2_readPlace_22 : decode cX2_readPlace 22 = .ok (.istore_n 2, 1) := by decide +kernel
theorem dX2_readPlace_23 : decode cX2_readPlace 23 = .ok (.iload_n 2, 1) := by decide +kernel
theorem dX2_readPlace_24 : decode cX2_readPlace 24 = .ok (.iconst (-1), 1) := by decide +kernel
theorem dX2_readPlace_25 : decode cX2_readPlace 25 = .ok (.if_icmp .ne 5, 3) := by decide +kernel
theorem dX2_readPlace_28 : decode cX2_readPlace 28 = .ok (.iconst 0, 1) := by decide +kernel
theorem dX2_readPlace_29 : decode cX2_readPlace 29 = .ok (.ireturn, 1) := by decide +kernel
theorem dX2_readPlace_30 : decode cX2_readPlace 30 = .ok (.aload_n 0, 1) := by decide +kernel
theorem dX2_readPlace_31 : decode cX2_readPlace 31 = .ok (.iload_n 1, 1) := by decide +kernel
theorem dX2_readPlace_32 : decode cX2_readPlace 32 = .ok (.bipush 9, 2) := by decide +kernel
theorem dX2_readPlace_34 : decode cX2_readPlace 34 = .ok (.isub, 1) := by decide +kernel
theorem dX2_readPlace_35 : decode cX2_readPlace 35 = .ok (.putfield 61, 3) := by decide +kernel
theorem dX2_readPlace_38 : decode cX2_readPlace 38 = .ok (.aload_n 0, 1) := by decide +kernel
theorem dX2_readPlace_39 : decode cX2_readPlace 39 = .ok (.iload_n 2, 1) := by decide +kernel
theorem dX2_readPlace_40 : decode cX2_readPlace 40 = .ok (.bipush 9, 2) := by decide +kernel
theorem dX2_readPlace_42 : decode cX2_readPlace 42 = .ok (.isub, 1) := by decide +kernel
theorem dX2_readPlace_43 : decode cX2_readPlace 43 = .ok (.putfield 64, 3) := by decide +kernel
theorem dX2_readPlace_46 : decode cX2_readPlace 46 = .ok (.iconst 1, 1) := by decide +kernel
theorem dX2_readPlace_47 : decode cX2_readPlace 47 = .ok (.ireturn, 1) := by decide +kernel
theorem dX2_readWind_0 : decode cX2_readWind 0 = .ok (.aload_n 0, 1) := by decide +kernel
theorem dX2_readWind_1 : decode cX2_readWind 1 = .ok (.dup, 1) := by decide +kernel
theorem dX2_readWind_2 : decode cX2_readWind 2 = .ok (.getfield 24, 3) := by decide +kernel
theorem dX2_readWind_5 : decode cX2_readWind 5 = .ok (.iconst 1, 1) := by decide +kernel
theorem dX2_readWind_6 : decode cX2_readWind 6 = .ok (.iadd, 1) := by decide +kernel
theorem dX2_readWind_7 : decode cX2_readWind 7 = .ok (.putfield 24, 3) := by decide +kernel
theorem dX2_readWind_10 : decode cX2_readWind 10 = .ok (.aload_n 0, 1) := by decide +kernel
theorem dX2_readWind_11 : decode cX2_readWind 11 = .ok (.iconst 0, 1) := by decide +kernel
theorem dX2_readWind_12 : decode cX2_readWind 12 = .ok (.sipush 198, 3) := by decide +kernel
theorem dX2_readWind_15 : decode cX2_readWind 15 = .ok (.invokevirtual 74, 3) := by decide +kernel
theorem dX2_readWind_18 : decode cX2_readWind 18 = .ok (.istore_n 2, 1) := by decide +kernel
theorem dX2_readWind_19 : decode cX2_readWind 19 = .ok (.iload_n 2, 1) := by decide +kernel
theorem dX2_readWind_20 : decode cX2_readWind 20 = .ok (.iconst (-1), 1) := by decide +kernel
theorem dX2_readWind_21 : decode cX2_readWind 21 = .ok (.if_icmp .ne 5, 3) := by decide +kernel
theorem dX2_readWind_24 : decode cX2_readWind 24 = .ok (.iconst 0, 1) := by decide +kernel
theorem dX2_readWind_25 : decode cX2_readWind 25 = .ok (.ireturn, 1) := by decide +kernel
theorem dX2_readWind_26 : decode cX2_readWind 26 = .ok (.aload_n 0, 1) := by decide +kernel
theorem dX2_readWind_27 : decode cX2_readWind 27 = .ok (.iconst 0, 1) := by decide +kernel
theorem dX2_readWind_28 : decode cX2_readWind 28 = .ok (.sipush 198, 3) := by decide +kernel
theorem dX2_readWind_31 : decode cX2_readWind 31 = .ok (.invokevirtual 74, 3) := by decide +kernel
theorem dX2_readWind_34 : decode cX2_readWind 34 = .ok (.istore_n 3, 1) := by decide +kernel
theorem dX2_readWind_35 : decode cX2_readWind 35 = .ok (.iload_n 3, 1) := by decide +kernel
theorem dX2_readWind_36 : decode cX2_readWind 36 = .ok (.iconst (-1), 1) := by decide +kernel
theorem dX2_readWind_37 : decode cX2_readWind 37 = .ok (.if_icmp .eq 10, 3) := by decide +kernel
theorem dX2_readWind_40 : decode cX2_readWind 40 = .ok (.aload_n 0, 1) := by decide +kernel
theorem dX2_readWind_41 : decode cX2_readWind 41 = .ok (.invokevirtual 78, 3) := by decide +kernel
theorem dX2_readWind_44 : decode cX2_readWind 44 = .ok (.ifCond .ne 5, 3) := by decide +kernel
theorem dX2_readWind_47 : decode cX2_readWind 47 = .ok (.iconst 0, 1) := by decide +kernel
theorem dX2_readWind_48 : decode cX2_readWind 48 = .ok (.ireturn, 1) := by decide +kernel
theorem dX2_readWind_49 : decode cX2_readWind 49 = .ok (.aload_n 1, 1) := by decide +kernel
theorem dX2_readWind_50 : decode cX2_readWind 50 = .ok (.iload_n 2, 1) := by decide +kernel
theorem dX2_readWind_51 : decode cX2_readWind 51 = .ok (.bipush 99, 2) := by decide +kernel
theorem dX2_readWind_53 : decode cX2_readWind 53 = .ok (.isub, 1) := by decide +kernel
theorem dX2_readWind_54 : decode cX2_readWind 54 = .ok (.putfield 89, 3) := by decide +kernel
theorem dX2_readWind_57 : decode cX2_readWind 57 = .ok (.aload_n 1, 1) := by decide +kernel
theorem dX2_readWind_58 : decode cX2_readWind 58 = .ok (.iload_n 3, 1) := by decide +kernel
theorem dX2_readWind_59 : decode cX2_readWind 59 = .ok (.bipush 99, 2) := by decide +kernel
theorem dX2_readWind_61 : decode cX2_readWind 61 = .ok (.isub, 1) := by decide +kernel
theorem dX2_readWind_62 : decode cX2_readWind 62 = .ok (.putfield 92, 3) := by decide +kernel
theorem dX2_readWind_65 : decode cX2_readWind 65 = .ok (.aload_n 0, 1) := by decide +kernel
theorem dX2_readWind_66 : decode cX2_readWind 66 = .ok (.iconst 1, 1) := by decide +kernel
theorem dX2_readWind_67 : decode cX2_readWind 67 = .ok (.putfield 27, 3) := by decide +kernel
theorem dX2_readWind_70 : decode cX2_readWind 70 = .ok (.iconst 1, 1) := by decide +kernel
theorem dX2_readWind_71 : decode cX2_readWind 71 = .ok (.ireturn, 1) := by decide +kernel
theorem dX2_readNumber_0 : decode cX2_readNumber 0 = .ok (.aload_n 0, 1) := by decide +kernel
theorem dX2_readNumber_1 : decode cX2_readNumber 1 = .ok (.invokevirtual 31, 3) := by decide +kernel
theorem dX2_readNumber_4 : decode cX2_readNumber 4 = .ok (.aload_n 0, 1) := by decide +kernel
theorem dX2_readNumber_5 : decode cX2_readNumber 5 = .ok (.aload_n 0, 1) := by decide +kernel
theorem dX2_readNumber_6 : decode cX2_readNumber 6 = .ok (.getfield 24, 3) := by decide +kernel
theorem dX2_readNumber_9 : decode cX2_readNumber 9 = .ok (.putfield 71, 3) := by decide +kernel
theorem dX2_readNumber_12 : decode cX2_readNumber 12 = .ok (.iconst 0, 1) := by decide +kernel
theorem dX2_readNumber_13 : decode cX2_readNumber 13 = .ok (.istore_n 3, 1) := by decide +kernel
theorem dX2_readNumber_14 : decode cX2_readNumber 14 = .ok (.iconst 0, 1) := by decide +kernel
theorem dX2_readNumber_15 : decode cX2_readNumber 15 = .ok (.istore 4, 2) := by decide +kernel
theorem dX2_readNumber_17 : decode cX2_readNumber 17 = .ok (.aload_n 0, 1) := by decide +kernel
theorem dX2_readNumber_18 : decode cX2_readNumber 18 = .ok (.getfield 24, 3) := by decide +kernel
theorem dX2_readNumber_21 : decode cX2_readNumber 21 = .ok (.istore 5, 2) := by decide +kernel
theorem dX2_readNumber_23 : decode cX2_readNumber 23 = .ok (.iload 5, 2) := by decide +kernel
theorem dX2_readNumber_25 : decode cX2_readNumber 25 = .ok (.aload_n 0, 1) := by decide +kernel
theorem dX2_readNumber_26 : decode cX2_readNumber 26 = .ok (.getfield 15, 3) := by decide +kernel
theorem dX2_readNumber_29 : decode cX2_readNumber 29 = .ok (.if_icmp .ge 47, 3) := by decide +kernel
theorem dX2_readNumber_32 : decode cX2_readNumber 32 = .ok (.aload_n 0, 1) := by decide +kernel
theorem dX2_readNumber_33 : decode cX2_readNumber 33 = .ok (.getfield 9, 3) := by decide +kernel
theorem dX2_readNumber_36 : decode cX2_readNumber 36 = .ok (.iload 5, 2) := by decide +kernel
theorem dX2_readNumber_38 : decode cX2_readNumber 38 = .ok (.iaload, 1) := by decide +kernel
theorem dX2_readNumber_39 : decode cX2_readNumber 39 = .ok (.invokestatic 95, 3) := by decide +kernel
theorem dX2_readNumber_42 : decode cX2_readNumber 42 = .ok (.ifCond .eq 34, 3) := by decide +kernel
theorem dX2_readNumber_45 : decode cX2_readNumber 45 = .ok (.bipush 10, 2) := by decide +kernel
theorem dX2_readNumber_47 : decode cX2_readNumber 47 = .ok (.iload_n 3, 1) := by decide +kernel
theorem dX2_readNumber_48 : decode cX2_readNumber 48 = .ok (.imul, 1) := by decide +kernel
theorem dX2_readNumber_49 : decode cX2_readNumber 49 = .ok (.aload_n 0, 1) := by decide +kernel
theorem dX2_readNumber_50 : decode cX2_readNumber 50 = .ok (.getfield 9, 3) := by decide +kernel
theorem dX2_readNumber_53 : decode cX2_readNumber 53 = .ok (.iload 5, 2) := by decide +kernel
theorem dX2_readNumber_55 : decode cX2_readNumber 55 = .ok (.iaload, 1) := by decide +kernel
theorem dX2_readNumber_56 : decode cX2_readNumber 56 = .ok (.iadd, 1) := by decide +kernel
theorem dX2_readNumber_57 : decode cX2_readNumber 57 = .ok (.bipush 48, 2) := by decide +kernel
theorem dX2_readNumber_59 : decode cX2_readNumber 59 = .ok (.isub, 1) := by decide +kernel
theorem dX2_readNumber_60 : decode cX2_readNumber 60 = .ok (.sipush 199, 3) := by decide +kernel
theorem dX2_readNumber_63 : decode cX2_readNumber 63 = .ok (.invokestatic 99, 3) := by decide +kernel
theorem dX2_readNumber_66 : decode cX2_readNumber 66 = .ok (.istore_n 3, 1) := by decide +kernel
theorem dX2_readNumber_67 : decode cX2_readNumber 67 = .ok (.iinc 4 1, 3) := by decide +kernel
theorem dX2_readNumber_70 : decode cX2_readNumber 70 = .ok (.iinc 5 1, 3) := by decide +kernel
theorem dX2_readNumber_73 : decode cX2_readNumber 73 = .ok (.goto (-50), 3) := by decide +kernel
theorem dX2_readNumber_76 : decode cX2_readNumber 76 = .ok (.iload 4, 2) := by decide +kernel
theorem dX2_readNumber_78 : decode cX2_readNumber 78 = .ok (.iconst 1, 1) := by decide +kernel
theorem dX2_readNumber_79 : decode cX2_readNumber 79 = .ok (.if_icmp .le 16, 3) := by decide +kernel
theorem dX2_readNumber_82 : decode cX2_readNumber 82 = .ok (.aload_n 0, 1) := by decide +kernel
theorem dX2_readNumber_83 : decode cX2_readNumber 83 = .ok (.invokevirtual 38, 3) := by decide +kernel
theorem dX2_readNumber_86 : decode cX2_readNumber 86 = .ok (.bipush 48, 2) := by decide +kernel
theorem dX2_readNumber_88 : decode cX2_readNumber 88 = .ok (.if_icmp .ne 7, 3) := by decide +kernel
theorem dX2_readNumber_91 : decode cX2_readNumber 91 = .ok (.iconst 1, 1) := by decide +kernel
theorem dX2_readNumber_92 : decode cX2_readNumber 92 = .ok (.goto 4, 3) := by decide +kernel
theorem dX2_readNumber_95 : decode cX2_readNumber 95 = .ok (.iconst 0, 1) := by decide +kernel
theorem dX2_readNumber_96 : decode cX2_readNumber 96 = .ok (.istore 5, 2) := by decide +kernel
theorem dX2_readNumber_98 : decode cX2_readNumber 98 = .ok (.iload 4, 2) := by decide +kernel
theorem dX2_readNumber_100 : decode cX2_readNumber 100 = .ok (.ifCond .eq 18, 3) := by decide +kernel
theorem dX2_readNumber_103 : decode cX2_readNumber 103 = .ok (.iload 5, 2) := by decide +kernel
theorem dX2_readNumber_105 : decode cX2_readNumber 105 = .ok (.ifCond .ne 13, 3) := by decide +kernel
theorem dX2_readNumber_108 : decode cX2_readNumber 108 = .ok (.iload_n 3, 1) := by decide +kernel
theorem dX2_readNumber_109 : decode cX2_readNumber 109 = .ok (.iload_n 1, 1) := by decide +kernel
theorem dX2_readNumber_110 : decode cX2_readNumber 110 = .ok (.if_icmp .lt 8, 3) := by decide +kernel
theorem dX2_readNumber_113 : decode cX2_readNumber 113 = .ok (.iload_n 3, 1) := by decide +kernel
theorem dX2_readNumber_114 : decode cX2_readNumber 114 = .ok (.iload_n 2, 1) := by decide +kernel
theorem dX2_readNumber_115 : decode cX2_readNumber 115 = .ok (.if_icmp .le 5, 3) := by decide +kernel
theorem dX2_readNumber_118 : decode cX2_readNumber 118 = .ok (.iconst (-1), 1) := by decide +kernel
theorem dX2_readNumber_119 : decode cX2_readNumber 119 = .ok (.ireturn, 1) := by decide +kernel
theorem dX2_readNumber_120 : decode cX2_readNumber 120 = .ok (.aload_n 0, 1) := by decide +kernel
theorem dX2_readNumber_121 : decode cX2_readNumber 121 = .ok (.dup, 1) := by decide +kernel
theorem dX2_readNumber_122 : decode cX2_readNumber 122 = .ok (.getfield 24, 3) := by decide +kernel
theorem dX2_readNumber_125 : decode cX2_readNumber 125 = .ok (.iload 4, 2) := by decide +kernel
theorem dX2_readNumber_127 : decode cX2_readNumber 127 = .ok (.iadd, 1) := by decide +kernel
theorem dX2_readNumber_128 : decode cX2_readNumber 128 = .ok (.putfield 24, 3) := by decide +kernel
theorem dX2_readNumber_131 : decode cX2_readNumber 131 = .ok (.iload_n 3, 1) := by decide +kernel
theorem dX2_readNumber_132 : decode cX2_readNumber 132 = .ok (.ireturn, 1) := by decide +kernel
theorem dX2_readSemicolon_0 : decode cX2_readSemicolon 0 = .ok (.aload_n 0, 1) := by decide +kernel
theorem dX2_readSemicolon_1 : decode cX2_readSemicolon 1 = .ok (.invokevirtual 31, 3) := by decide +kernel
theorem dX2_readSemicolon_4 : decode cX2_readSemicolon 4 = .ok (.aload_n 0, 1) := by decide +kernel
theorem dX2_readSemicolon_5 : decode cX2_readSemicolon 5 = .ok (.invokevirtual 38, 3) := by decide +kernel
theorem dX2_readSemicolon_8 : decode cX2_readSemicolon 8 = .ok (.bipush 59, 2) := by decide +kernel
theorem dX2_readSemicolon_10 : decode cX2_readSemicolon 10 = .ok (.if_icmp .eq 5, 3) := by decide +kernel
theorem dX2_readSemicolon_13 : decode cX2_readSemicolon 13 = .ok (.iconst 0, 1) := by decide +kernel
theorem dX2_readSemicolon_14 : decode cX2_readSemicolon 14 = .ok (.ireturn, 1) := by decide +kernel
theorem dX2_readSemicolon_15 : decode cX2_readSemicolon 15 = .ok (.aload_n 0, 1) := by decide +kernel
theorem dX2_readSemicolon_16 : decode cX2_readSemicolon 16 = .ok (.dup, 1) := by decide +kernel
theorem dX2_readSemicolon_17 : decode cX2_readSemicolon 17 = .ok (.getfield 24, 3) := by decide +kernel
theorem dX2_readSemicolon_20 : decode cX2_readSemicolon 20 = .ok (.iconst 1, 1) := by decide +kernel
theorem dX2_readSemicolon_21 : decode cX2_readSemicolon 21 = .ok (.iadd, 1) := by decide +kernel
theorem dX2_readSemicolon_22 : decode cX2_readSemicolon 22 = .ok (.putfield 24, 3) := by decide +kernel
theorem dX2_readSemicolon_25 : decode cX2_readSemicolon 25 = .ok (.iconst 1, 1) := by decide +kernel
theorem dX2_readSemicolon_26 : decode cX2_readSemicolon 26 = .ok (.ireturn, 1) := by decide +kernel
theorem dX2_skipBlanks_0 : decode cX2_skipBlanks 0 = .ok (.aload_n 0, 1) := by decide +kernel
theorem dX2_skipBlanks_1 : decode cX2_skipBlanks 1 = .ok (.getfield 24, 3) := by decide +kernel
theorem dX2_skipBlanks_4 : decode cX2_skipBlanks 4 = .ok (.istore_n 1, 1) := by decide +kernel
theorem dX2_skipBlanks_5 : decode cX2_skipBlanks 5 = .ok (.iload_n 1, 1) := by decide +kernel
theorem dX2_skipBlanks_6 : decode cX2_skipBlanks 6 = .ok (.aload_n 0, 1) := by decide +kernel
theorem dX2_skipBlanks_7 : decode cX2_skipBlanks 7 = .ok (.getfield 15, 3) := by decide +kernel
theorem dX2_skipBlanks_10 : decode cX2_skipBlanks 10 = .ok (.if_icmp .ge 27, 3) := by decide +kernel
theorem dX2_skipBlanks_13 : decode cX2_skipBlanks 13 = .ok (.aload_n 0, 1) := by decide +kernel
theorem dX2_skipBlanks_14 : decode cX2_skipBlanks 14 = .ok (.getfield 9, 3) := by decide +kernel
theorem dX2_skipBlanks_17 : decode cX2_skipBlanks 17 = .ok (.iload_n 1, 1) := by decide +kernel
theorem dX2_skipBlanks_18 : decode cX2_skipBlanks 18 = .ok (.iaload, 1) := by decide +kernel
theorem dX2_skipBlanks_19 : decode cX2_skipBlanks 19 = .ok (.bipush 32, 2) := by decide +kernel
theorem dX2_skipBlanks_21 : decode cX2_skipBlanks 21 = .ok (.if_icmp .ne 16, 3) := by decide +kernel
theorem dX2_skipBlanks_24 : decode cX2_skipBlanks 24 = .ok (.aload_n 0, 1) := by decide +kernel
theorem dX2_skipBlanks_25 : decode cX2_skipBlanks 25 = .ok (.iload_n 1, 1) := by decide +kernel
theorem dX2_skipBlanks_26 : decode cX2_skipBlanks 26 = .ok (.iconst 1, 1) := by decide +kernel
theorem dX2_skipBlanks_27 : decode cX2_skipBlanks 27 = .ok (.iadd, 1) := by decide +kernel
theorem dX2_skipBlanks_28 : decode cX2_skipBlanks 28 = .ok (.putfield 24, 3) := by decide +kernel
theorem dX2_skipBlanks_31 : decode cX2_skipBlanks 31 = .ok (.iinc 1 1, 3) := by decide +kernel
theorem dX2_skipBlanks_34 : decode cX2_skipBlanks 34 = .ok (.goto (-29), 3) := by decide +kernel
theorem dX2_skipBlanks_37 : decode cX2_skipBlanks 37 = .ok (.return_, 1) := by decide +kernel
theorem dX2_letterHere_0 : decode cX2_letterHere 0 = .ok (.aload_n 0, 1) := by decide +kernel
theorem dX2_letterHere_1 : decode cX2_letterHere 1 = .ok (.getfield 24, 3) := by decide +kernel
theorem dX2_letterHere_4 : decode cX2_letterHere 4 = .ok (.ifCond .lt 26, 3) := by decide +kernel
theorem dX2_letterHere_7 : decode cX2_letterHere 7 = .ok (.aload_n 0, 1) := by decide +kernel
theorem dX2_letterHere_8 : decode cX2_letterHere 8 = .ok (.getfield 24, 3) := by decide +kernel
theorem dX2_letterHere_11 : decode cX2_letterHere 11 = .ok (.aload_n 0, 1) := by decide +kernel
theorem dX2_letterHere_12 : decode cX2_letterHere 12 = .ok (.getfield 15, 3) := by decide +kernel
theorem dX2_letterHere_15 : decode cX2_letterHere 15 = .ok (.if_icmp .ge 15, 3) := by decide +kernel
theorem dX2_letterHere_18 : decode cX2_letterHere 18 = .ok (.aload_n 0, 1) := by decide +kernel
theorem dX2_letterHere_19 : decode cX2_letterHere 19 = .ok (.getfield 9, 3) := by decide +kernel
theorem dX2_letterHere_22 : decode cX2_letterHere 22 = .ok (.aload_n 0, 1) := by decide +kernel
theorem dX2_letterHere_23 : decode cX2_letterHere 23 = .ok (.getfield 24, 3) := by decide +kernel
theorem dX2_letterHere_26 : decode cX2_letterHere 26 = .ok (.iaload, 1) := by decide +kernel
theorem dX2_letterHere_27 : decode cX2_letterHere 27 = .ok (.goto 4, 3) := by decide +kernel
theorem dX2_letterHere_30 : decode cX2_letterHere 30 = .ok (.iconst (-1), 1) := by decide +kernel
theorem dX2_letterHere_31 : decode cX2_letterHere 31 = .ok (.ireturn, 1) := by decide +kernel
theorem dX2_isDigit_0 : decode cX2_isDigit 0 = .ok (.iload_n 0, 1) := by decide +kernel
theorem dX2_isDigit_1 : decode cX2_isDigit 1 = .ok (.bipush 48, 2) := by decide +kernel
theorem dX2_isDigit_3 : decode cX2_isDigit 3 = .ok (.if_icmp .lt 13, 3) := by decide +kernel
theorem dX2_isDigit_6 : decode cX2_isDigit 6 = .ok (.iload_n 0, 1) := by decide +kernel
theorem dX2_isDigit_7 : decode cX2_isDigit 7 = .ok (.bipush 57, 2) := by decide +kernel
theorem dX2_isDigit_9 : decode cX2_isDigit 9 = .ok (.if_icmp .gt 7, 3) := by decide +kernel
theorem dX2_isDigit_12 : decode cX2_isDigit 12 = .ok (.iconst 1, 1) := by decide +kernel
theorem dX2_isDigit_13 : decode cX2_isDigit 13 = .ok (.goto 4, 3) := by decide +kernel
theorem dX2_isDigit_16 : decode cX2_isDigit 16 = .ok (.iconst 0, 1) := by decide +kernel
theorem dX2_isDigit_17 : decode cX2_isDigit 17 = .ok (.ireturn, 1) := by decide +kernel
theorem dX3_init_0 : decode cX3_init 0 = .ok (.aload_n 0, 1) := by decide +kernel
theorem dX3_init_1 : decode cX3_init 1 = .ok (.invokespecial 3, 3) := by decide +kernel
theorem dX3_init_4 : decode cX3_init 4 = .ok (.aload_n 0, 1) := by decide +kernel
theorem dX3_init_5 : decode cX3_init 5 = .ok (.bipush 8, 2) := by decide +kernel
theorem dX3_init_7 : decode cX3_init 7 = .ok (.newarray .int, 2) := by decide +kernel
theorem dX3_init_9 : decode cX3_init 9 = .ok (.putfield 9, 3) := by decide +kernel
theorem dX3_init_12 : decode cX3_init 12 = .ok (.aload_n 0, 1) := by decide +kernel
theorem dX3_init_13 : decode cX3_init 13 = .ok (.bipush 8, 2) := by decide +kernel
theorem dX3_init_15 : decode cX3_init 15 = .ok (.newarray .int, 2) := by decide +kernel
theorem dX3_init_17 : decode cX3_init 17 = .ok (.putfield 15, 3) := by decide +kernel
theorem dX3_init_20 : decode cX3_init 20 = .ok (.aload_n 0, 1) := by decide +kernel
theorem dX3_init_21 : decode cX3_init 21 = .ok (.bipush 8, 2) := by decide +kernel
theorem dX3_init_23 : decode cX3_init 23 = .ok (.newarray .int, 2) := by decide +kernel
theorem dX3_init_25 : decode cX3_init 25 = .ok (.putfield 18, 3) := by decide +kernel
theorem dX3_init_28 : decode cX3_init 28 = .ok (.aload_n 0, 1) := by decide +kernel
theorem dX3_init_29 : decode cX3_init 29 = .ok (.bipush 8, 2) := by decide +kernel
theorem dX3_init_31 : decode cX3_init 31 = .ok (.newarray .int, 2) := by decide +kernel
theorem dX3_init_33 : decode cX3_init 33 = .ok (.putfield 21, 3) := by decide +kernel
theorem dX3_init_36 : decode cX3_init 36 = .ok (.aload_n 0, 1) := by decide +kernel
theorem dX3_init_37 : decode cX3_init 37 = .ok (.iconst 5, 1) := by decide +kernel
theorem dX3_init_38 : decode cX3_init 38 = .ok (.newarray .int, 2) := by decide +kernel
theorem dX3_init_40 : decode cX3_init 40 = .ok (.putfield 24, 3) := by decide +kernel
theorem dX3_init_43 : decode cX3_init 43 = .ok (.aload_n 0, 1) := by decide +kernel
theorem dX3_init_44 : decode cX3_init 44 = .ok (.iconst 5, 1) := by decide +kernel
theorem dX3_init_45 : decode cX3_init 45 = .ok (.newarray .int, 2) := by decide +kernel
theorem dX3_init_47 : decode cX3_init 47 = .ok (.putfield 27, 3) := by decide +kernel
theorem dX3_init_50 : decode cX3_init 50 = .ok (.aload_n 0, 1) := by decide +kernel
theorem dX3_init_51 : decode cX3_init 51 = .ok (.iconst 5, 1) := by decide +kernel
theorem dX3_init_52 : decode cX3_init 52 = .ok (.newarray .int, 2) := by decide +kernel
theorem dX3_init_54 : decode cX3_init 54 = .ok (.putfield 30, 3) := by decide +kernel
theorem dX3_init_57 : decode cX3_init 57 = .ok (.return_, 1) := by decide +kernel
theorem dX3_empty_0 : decode cX3_empty 0 = .ok (.aload_n 0, 1) := by decide +kernel
theorem dX3_empty_1 : decode cX3_empty 1 = .ok (.iconst 0, 1) := by decide +kernel
theorem dX3_empty_2 : decode cX3_empty 2 = .ok (.putfield 33, 3) := by decide +kernel
theorem dX3_empty_5 : decode cX3_empty 5 = .ok (.aload_n 0, 1) := by decide +kernel
theorem dX3_empty_6 : decode cX3_empty 6 = .ok (.iconst 0, 1) := by decide +kernel
theorem dX3_empty_7 : decode cX3_empty 7 = .ok (.putfield 37, 3) := by decide +kernel
theorem dX3_empty_10 : decode cX3_empty 10 = .ok (.aload_n 0, 1) := by decide +kernel
theorem dX3_empty_11 : decode cX3_empty 11 = .ok (.iconst 0, 1) := by decide +kernel
theorem dX3_empty_12 : decode cX3_empty 12 = .ok (.putfield 40, 3) := by decide +kernel
theorem dX3_empty_15 : decode cX3_empty 15 = .ok (.aload_n 0, 1) := by decide +kernel
theorem dX3_empty_16 : decode cX3_empty 16 = .ok (.iconst 0, 1) := by decide +kernel
theorem dX3_empty_17 : decode cX3_empty 17 = .ok (.putfield 43, 3) := by decide +kernel
theorem dX3_empty_20 : decode cX3_empty 20 = .ok (.aload_n 0, 1) := by decide +kernel
theorem dX3_empty_21 : decode cX3_empty 21 = .ok (.iconst 0, 1) := by decide +kernel
theorem dX3_empty_22 : decode cX3_empty 22 = .ok (.putfield 46, 3) := by decide +kernel
theorem dX3_empty_25 : decode cX3_empty 25 = .ok (.return_, 1) := by decide +kernel
theorem dX3_copy_0 : decode cX3_copy 0 = .ok (.aload_n 0, 1) := by decide +kernel
theorem dX3_copy_1 : decode cX3_copy 1 = .ok (.ifnull 7, 3) := by decide +kernel
theorem dX3_copy_4 : decode cX3_copy 4 = .ok (.aload_n 1, 1) := by decide +kernel
theorem dX3_copy_5 : decode cX3_copy 5 = .ok (.ifnonnull 4, 3) := by decide +kernel
theorem dX3_copy_8 : decode cX3_copy 8 = .ok (.return_, 1) := by decide +kernel
theorem dX3_copy_9 : decode cX3_copy 9 = .ok (.aload_n 0, 1) := by decide +kernel
theorem dX3_copy_10 : decode cX3_copy 10 = .ok (.getfield 9, 3) := by decide +kernel
theorem dX3_copy_13 : decode cX3_copy 13 = .ok (.iconst 0, 1) := by decide +kernel
theorem dX3_copy_14 : decode cX3_copy 14 = .ok (.aload_n 1, 1) := by decide +kernel
theorem dX3_copy_15 : decode cX3_copy 15 = .ok (.getfield 9, 3) := by decide +kernel
theorem dX3_copy_18 : decode cX3_copy 18 = .ok (.iconst 0, 1) := by decide +kernel
theorem dX3_copy_19 : decode cX3_copy 19 = .ok (.bipush 8, 2) := by decide +kernel
theorem dX3_copy_21 : decode cX3_copy 21 = .ok (.invokestatic 49, 3) := by decide +kernel
theorem dX3_copy_24 : decode cX3_copy 24 = .ok (.aload_n 0, 1) := by decide +kernel
theorem dX3_copy_25 : decode cX3_copy 25 = .ok (.getfield 15, 3) := by decide +kernel
theorem dX3_copy_28 : decode cX3_copy 28 = .ok (.iconst 0, 1) := by decide +kernel
theorem dX3_copy_29 : decode cX3_copy 29 = .ok (.aload_n 1, 1) := by decide +kernel
theorem dX3_copy_30 : decode cX3_copy 30 = .ok (.getfield 15, 3) := by decide +kernel
theorem dX3_copy_33 : decode cX3_copy 33 = .ok (.iconst 0, 1) := by decide +kernel
theorem dX3_copy_34 : decode cX3_copy 34 = .ok (.bipush 8, 2) := by decide +kernel
theorem dX3_copy_36 : decode cX3_copy 36 = .ok (.invokestatic 49, 3) := by decide +kernel
theorem dX3_copy_39 : decode cX3_copy 39 = .ok (.aload_n 0, 1) := by decide +kernel
theorem dX3_copy_40 : decode cX3_copy 40 = .ok (.getfield 18, 3) := by decide +kernel
theorem dX3_copy_43 : decode cX3_copy 43 = .ok (.iconst 0, 1) := by decide +kernel
theorem dX3_copy_44 : decode cX3_copy 44 = .ok (.aload_n 1, 1) := by decide +kernel
theorem dX3_copy_45 : decode cX3_copy 45 = .ok (.getfield 18, 3) := by decide +kernel
theorem dX3_copy_48 : decode cX3_copy 48 = .ok (.iconst 0, 1) := by decide +kernel
theorem dX3_copy_49 : decode cX3_copy 49 = .ok (.bipush 8, 2) := by decide +kernel
theorem dX3_copy_51 : decode cX3_copy 51 = .ok (.invokestatic 49, 3) := by decide +kernel
theorem dX3_copy_54 : decode cX3_copy 54 = .ok (.aload_n 0, 1) := by decide +kernel
theorem dX3_copy_55 : decode cX3_copy 55 = .ok (.getfield 21, 3) := by decide +kernel
theorem dX3_copy_58 : decode cX3_copy 58 = .ok (.iconst 0, 1) := by decide +kernel
theorem dX3_copy_59 : decode cX3_copy 59 = .ok (.aload_n 1, 1) := by decide +kernel
theorem dX3_copy_60 : decode cX3_copy 60 = .ok (.getfield 21, 3) := by decide +kernel
theorem dX3_copy_63 : decode cX3_copy 63 = .ok (.iconst 0, 1) := by decide +kernel
theorem dX3_copy_64 : decode cX3_copy 64 = .ok (.bipush 8, 2) := by decide +kernel
theorem dX3_copy_66 : decode cX3_copy 66 = .ok (.invokestatic 49, 3) := by decide +kernel
theorem dX3_copy_69 : decode cX3_copy 69 = .ok (.aload_n 1, 1) := by decide +kernel
theorem dX3_copy_70 : decode cX3_copy 70 = .ok (.aload_n 0, 1) := by decide +kernel
theorem dX3_copy_71 : decode cX3_copy 71 = .ok (.getfield 33, 3) := by decide +kernel
theorem dX3_copy_74 : decode cX3_copy 74 = .ok (.putfield 33, 3) := by decide +kernel
theorem dX3_copy_77 : decode cX3_copy 77 = .ok (.aload_n 1, 1) := by decide +kernel
theorem dX3_copy_78 : decode cX3_copy 78 = .ok (.aload_n 0, 1) := by decide +kernel
theorem dX3_copy_79 : decode cX3_copy 79 = .ok (.getfield 37, 3) := by decide +kernel
theorem dX3_copy_82 : decode cX3_copy 82 = .ok (.putfield 37, 3) := by decide +kernel
theorem dX3_copy_85 : decode cX3_copy 85 = .ok (.aload_n 0, 1) := by decide +kernel
theorem dX3_copy_86 : decode cX3_copy 86 = .ok (.getfield 24, 3) := by decide +kernel
theorem dX3_copy_89 : decode cX3_copy 89 = .ok (.iconst 0, 1) := by decide +kernel
theorem dX3_copy_90 : decode cX3_copy 90 = .ok (.aload_n 1, 1) := by decide +kernel
theorem dX3_copy_91 : decode cX3_copy 91 = .ok (.getfield 24, 3) := by decide +kernel
theorem dX3_copy_94 : decode cX3_copy 94 = .ok (.iconst 0, 1) := by decide +kernel
theorem dX3_copy_95 : decode cX3_copy 95 = .ok (.iconst 5, 1) := by decide +kernel
theorem dX3_copy_96 : decode cX3_copy 96 = .ok (.invokestatic 49, 3) := by decide +kernel
theorem dX3_copy_99 : decode cX3_copy 99 = .ok (.aload_n 0, 1) := by decide +kernel
theorem dX3_copy_100 : decode cX3_copy 100 = .ok (.getfield 27, 3) := by decide +kernel
theorem dX3_copy_103 : decode cX3_copy 103 = .ok (.iconst 0, 1) := by decide +kernel
theorem dX3_copy_104 : decode cX3_copy 104 = .ok (.aload_n 1, 1) := by decide +kernel
theorem dX3_copy_105 : decode cX3_copy 105 = .ok (.getfield 27, 3) := by decide +kernel
theorem dX3_copy_108 : decode cX3_copy 108 = .ok (.iconst 0, 1) := by decide +kernel
theorem dX3_copy_109 : decode cX3_copy 109 = .ok (.iconst 5, 1) := by decide +kernel
theorem dX3_copy_110 : decode cX3_copy 110 = .ok (.invokestatic 49, 3) := by decide +kernel
theorem dX3_copy_113 : decode cX3_copy 113 = .ok (.aload_n 0, 1) := by decide +kernel
theorem dX3_copy_114 : decode cX3_copy 114 = .ok (.getfield 30, 3) := by decide +kernel
theorem dX3_copy_117 : decode cX3_copy 117 = .ok (.iconst 0, 1) := by decide +kernel
theorem dX3_copy_118 : decode cX3_copy 118 = .ok (.aload_n 1, 1) := by decide +kernel
theorem dX3_copy_119 : decode cX3_copy 119 = .ok (.getfield 30, 3) := by decide +kernel
theorem dX3_copy_122 : decode cX3_copy 122 = .ok (.iconst 0, 1) := by decide +kernel
theorem dX3_copy_123 : decode cX3_copy 123 = .ok (.iconst 5, 1) := by decide +kernel
theorem dX3_copy_124 : decode cX3_copy 124 = .ok (.invokestatic 49, 3) := by decide +kernel
theorem dX3_copy_127 : decode cX3_copy 127 = .ok (.aload_n 1, 1) := by decide +kernel
theorem dX3_copy_128 : decode cX3_copy 128 = .ok (.aload_n 0, 1) := by decide +kernel
theorem dX3_copy_129 : decode cX3_copy 129 = .ok (.getfield 40, 3) := by decide +kernel
theorem dX3_copy_132 : decode cX3_copy 132 = .ok (.putfield 40, 3) := by decide +kernel
theorem dX3_copy_135 : decode cX3_copy 135 = .ok (.aload_n 1, 1) := by decide +kernel
theorem dX3_copy_136 : decode cX3_copy 136 = .ok (.aload_n 0, 1) := by decide +kernel
theorem dX3_copy_137 : decode cX3_copy 137 = .ok (.getfield 43, 3) := by decide +kernel
theorem dX3_copy_140 : decode cX3_copy 140 = .ok (.putfield 43, 3) := by decide +kernel
theorem dX3_copy_143 : decode cX3_copy 143 = .ok (.aload_n 1, 1) := by decide +kernel
theorem dX3_copy_144 : decode cX3_copy 144 = .ok (.aload_n 0, 1) := by decide +kernel
theorem dX3_copy_145 : decode cX3_copy 145 = .ok (.getfield 46, 3) := by decide +kernel
theorem dX3_copy_148 : decode cX3_copy 148 = .ok (.putfield 46, 3) := by decide +kernel
theorem dX3_copy_151 : decode cX3_copy 151 = .ok (.return_, 1) := by decide +kernel
theorem dX3_hasPileAt_0 : decode cX3_hasPileAt 0 = .ok (.iconst 0, 1) := by decide +kernel
theorem dX3_hasPileAt_1 : decode cX3_hasPileAt 1 = .ok (.istore_n 3, 1) := by decide +kernel
theorem dX3_hasPileAt_2 : decode cX3_hasPileAt 2 = .ok (.iload_n 3, 1) := by decide +kernel
theorem dX3_hasPileAt_3 : decode cX3_hasPileAt 3 = .ok (.aload_n 0, 1) := by decide +kernel
theorem dX3_hasPileAt_4 : decode cX3_hasPileAt 4 = .ok (.getfield 33, 3) := by decide +kernel
theorem dX3_hasPileAt_7 : decode cX3_hasPileAt 7 = .ok (.if_icmp .ge 31, 3) := by decide +kernel
theorem dX3_hasPileAt_10 : decode cX3_hasPileAt 10 = .ok (.aload_n 0, 1) := by decide +kernel
theorem dX3_hasPileAt_11 : decode cX3_hasPileAt 11 = .ok (.getfield 9, 3) := by decide +kernel
theorem dX3_hasPileAt_14 : decode cX3_hasPileAt 14 = .ok (.iload_n 3, 1) := by decide +kernel
theorem dX3_hasPileAt_15 : decode cX3_hasPileAt 15 = .ok (.iaload, 1) := by decide +kernel
theorem dX3_hasPileAt_16 : decode cX3_hasPileAt 16 = .ok (.iload_n 1, 1) := by decide +kernel
theorem dX3_hasPileAt_17 : decode cX3_hasPileAt 17 = .ok (.if_icmp .ne 15, 3) := by decide +kernel
theorem dX3_hasPileAt_20 : decode cX3_hasPileAt 20 = .ok (.aload_n 0, 1) := by decide +kernel
theorem dX3_hasPileAt_21 : decode cX3_hasPileAt 21 = .ok (.getfield 15, 3) := by decide +kernel
theorem dX3_hasPileAt_24 : decode cX3_hasPileAt 24 = .ok (.iload_n 3, 1) := by decide +kernel
theorem dX3_hasPileAt_25 : decode cX3_hasPileAt 25 = .ok (.iaload, 1) := by decide +kernel
theorem dX3_hasPileAt_26 : decode cX3_hasPileAt 26 = .ok (.iload_n 2, 1) := by decide +kernel
theorem dX3_hasPileAt_27 : decode cX3_hasPileAt 27 = .ok (.if_icmp .ne 5, 3) := by decide +kernel
theorem dX3_hasPileAt_30 : decode cX3_hasPileAt 30 = .ok (.iconst 1, 1) := by decide +kernel
theorem dX3_hasPileAt_31 : decode cX3_hasPileAt 31 = .ok (.ireturn, 1) := by decide +kernel
theorem dX3_hasPileAt_32 : decode cX3_hasPileAt 32 = .ok (.iinc 3 1, 3) := by decide +kernel
theorem dX3_hasPileAt_35 : decode cX3_hasPileAt 35 = .ok (.goto (-33), 3) := by decide +kernel
theorem dX3_hasPileAt_38 : decode cX3_hasPileAt 38 = .ok (.iconst 0, 1) := by decide +kernel
theorem dX3_hasPileAt_39 : decode cX3_hasPileAt 39 = .ok (.ireturn, 1) := by decide +kernel
theorem dX3_isIntact_0 : decode cX3_isIntact 0 = .ok (.aload_n 0, 1) := by decide +kernel
theorem dX3_isIntact_1 : decode cX3_isIntact 1 = .ok (.getfield 37, 3) := by decide +kernel
theorem dX3_isIntact_4 : decode cX3_isIntact 4 = .ok (.iload_n 1, 1) := by decide +kernel
theorem dX3_isIntact_5 : decode cX3_isIntact 5 = .ok (.ishr, 1) := by decide +kernel
theorem dX3_isIntact_6 : decode cX3_isIntact 6 = .ok (.iconst 1, 1) := by decide +kernel
theorem dX3_isIntact_7 : decode cX3_isIntact 7 = .ok (.iand, 1) := by decide +kernel
theorem dX3_isIntact_8 : decode cX3_isIntact 8 = .ok (.iconst 1, 1) := by decide +kernel
theorem dX3_isIntact_9 : decode cX3_isIntact 9 = .ok (.if_icmp .ne 7, 3) := by decide +kernel
theorem dX3_isIntact_12 : decode cX3_isIntact 12 = .ok (.iconst 1, 1) := by decide +kernel
theorem dX3_isIntact_13 : decode cX3_isIntact 13 = .ok (.goto 4, 3) := by decide +kernel
theorem dX3_isIntact_16 : decode cX3_isIntact 16 = .ok (.iconst 0, 1) := by decide +kernel
theorem dX3_isIntact_17 : decode cX3_isIntact 17 = .ok (.ireturn, 1) := by decide +kernel
theorem dX3_addPile_0 : decode cX3_addPile 0 = .ok (.aload_n 0, 1) := by decide +kernel
theorem dX3_addPile_1 : decode cX3_addPile 1 = .ok (.getfield 33, 3) := by decide +kernel
theorem dX3_addPile_4 : decode cX3_addPile 4 = .ok (.ifCond .lt 12, 3) := by decide +kernel
theorem dX3_addPile_7 : decode cX3_addPile 7 = .ok (.aload_n 0, 1) := by decide +kernel
theorem dX3_addPile_8 : decode cX3_addPile 8 = .ok (.getfield 33, 3) := by decide +kernel
theorem dX3_addPile_11 : decode cX3_addPile 11 = .ok (.bipush 8, 2) := by decide +kernel
theorem dX3_addPile_13 : decode cX3_addPile 13 = .ok (.if_icmp .lt 4, 3) := by decide +kernel
theorem dX3_addPile_16 : decode cX3_addPile 16 = .ok (.return_, 1) := by decide +kernel
theorem dX3_addPile_17 : decode cX3_addPile 17 = .ok (.aload_n 0, 1) := by decide +kernel
theorem dX3_addPile_18 : decode cX3_addPile 18 = .ok (.getfield 9, 3) := by decide +kernel
theorem dX3_addPile_21 : decode cX3_addPile 21 = .ok (.aload_n 0, 1) := by decide +kernel
theorem dX3_addPile_22 : decode cX3_addPile 22 = .ok (.getfield 33, 3) := by decide +kernel
theorem dX3_addPile_25 : decode cX3_addPile 25 = .ok (.iload_n 1, 1) := by decide +kernel
theorem dX3_addPile_26 : decode cX3_addPile 26 = .ok (.iastore, 1) := by decide +kernel
theorem dX3_addPile_27 : decode cX3_addPile 27 = .ok (.aload_n 0, 1) := by decide +kernel
theorem dX3_addPile_28 : decode cX3_addPile 28 = .ok (.getfield 15, 3) := by decide +kernel
theorem dX3_addPile_31 : decode cX3_addPile 31 = .ok (.aload_n 0, 1) := by decide +kernel
theorem dX3_addPile_32 : decode cX3_addPile 32 = .ok (.getfield 33, 3) := by decide +kernel
theorem dX3_addPile_35 : decode cX3_addPile 35 = .ok (.iload_n 2, 1) := by decide +kernel
theorem dX3_addPile_36 : decode cX3_addPile 36 = .ok (.iastore, 1) := by decide +kernel
theorem dX3_addPile_37 : decode cX3_addPile 37 = .ok (.aload_n 0, 1) := by decide +kernel
theorem dX3_addPile_38 : decode cX3_addPile 38 = .ok (.getfield 18, 3) := by decide +kernel
theorem dX3_addPile_41 : decode cX3_addPile 41 = .ok (.aload_n 0, 1) := by decide +kernel
theorem dX3_addPile_42 : decode cX3_addPile 42 = .ok (.getfield 33, 3) := by decide +kernel
theorem dX3_addPile_45 : decode cX3_addPile 45 = .ok (.iload_n 3, 1) := by decide +kernel
theorem dX3_addPile_46 : decode cX3_addPile 46 = .ok (.iastore, 1) := by decide +kernel
theorem dX3_addPile_47 : decode cX3_addPile 47 = .ok (.aload_n 0, 1) := by decide +kernel
theorem dX3_addPile_48 : decode cX3_addPile 48 = .ok (.getfield 21, 3) := by decide +kernel
theorem dX3_addPile_51 : decode cX3_addPile 51 = .ok (.aload_n 0, 1) := by decide +kernel
theorem dX3_addPile_52 : decode cX3_addPile 52 = .ok (.getfield 33, 3) := by decide +kernel
theorem dX3_addPile_55 : decode cX3_addPile 55 = .ok (.iload 4, 2) := by decide +kernel
theorem dX3_addPile_57 : decode cX3_addPile 57 = .ok (.iastore, 1) := by decide +kernel
theorem dX3_addPile_58 : decode cX3_addPile 58 = .ok (.aload_n 0, 1) := by decide +kernel
theorem dX3_addPile_59 : decode cX3_addPile 59 = .ok (.dup, 1) := by decide +kernel
theorem dX3_addPile_60 : decode cX3_addPile 60 = .ok (.getfield 37, 3) := by decide +kernel
theorem dX3_addPile_63 : decode cX3_addPile 63 = .ok (.iconst 1, 1) := by decide +kernel
theorem dX3_addPile_64 : decode cX3_addPile 64 = .ok (.aload_n 0, 1) := by decide +kernel
theorem dX3_addPile_65 : decode cX3_addPile 65 = .ok (.getfield 33, 3) := by decide +kernel
theorem dX3_addPile_68 : decode cX3_addPile 68 = .ok (.ishl, 1) := by decide +kernel
theorem dX3_addPile_69 : decode cX3_addPile 69 = .ok (.ior, 1) := by decide +kernel
theorem dX3_addPile_70 : decode cX3_addPile 70 = .ok (.putfield 37, 3) := by decide +kernel
theorem dX3_addPile_73 : decode cX3_addPile 73 = .ok (.aload_n 0, 1) := by decide +kernel
theorem dX3_addPile_74 : decode cX3_addPile 74 = .ok (.dup, 1) := by decide +kernel
theorem dX3_addPile_75 : decode cX3_addPile 75 = .ok (.getfield 33, 3) := by decide +kernel
theorem dX3_addPile_78 : decode cX3_addPile 78 = .ok (.iconst 1, 1) := by decide +kernel
theorem dX3_addPile_79 : decode cX3_addPile 79 = .ok (.iadd, 1) := by decide +kernel
theorem dX3_addPile_80 : decode cX3_addPile 80 = .ok (.putfield 33, 3) := by decide +kernel
theorem dX3_addPile_83 : decode cX3_addPile 83 = .ok (.return_, 1) := by decide +kernel
theorem dX3_addColumn_0 : decode cX3_addColumn 0 = .ok (.aload_n 0, 1) := by decide +kernel
theorem dX3_addColumn_1 : decode cX3_addColumn 1 = .ok (.getfield 40, 3) := by decide +kernel
theorem dX3_addColumn_4 : decode cX3_addColumn 4 = .ok (.ifCond .lt 11, 3) := by decide +kernel
theorem dX3_addColumn_7 : decode cX3_addColumn 7 = .ok (.aload_n 0, 1) := by decide +kernel
theorem dX3_addColumn_8 : decode cX3_addColumn 8 = .ok (.getfield 40, 3) := by decide +kernel
theorem dX3_addColumn_11 : decode cX3_addColumn 11 = .ok (.iconst 5, 1) := by decide +kernel
theorem dX3_addColumn_12 : decode cX3_addColumn 12 = .ok (.if_icmp .lt 4, 3) := by decide +kernel
theorem dX3_addColumn_15 : decode cX3_addColumn 15 = .ok (.return_, 1) := by decide +kernel
theorem dX3_addColumn_16 : decode cX3_addColumn 16 = .ok (.aload_n 0, 1) := by decide +kernel
theorem dX3_addColumn_17 : decode cX3_addColumn 17 = .ok (.getfield 24, 3) := by decide +kernel
theorem dX3_addColumn_20 : decode cX3_addColumn 20 = .ok (.aload_n 0, 1) := by decide +kernel
theorem dX3_addColumn_21 : decode cX3_addColumn 21 = .ok (.getfield 40, 3) := by decide +kernel
theorem dX3_addColumn_24 : decode cX3_addColumn 24 = .ok (.iload_n 1, 1) := by decide +kernel
theorem dX3_addColumn_25 : decode cX3_addColumn 25 = .ok (.iastore, 1) := by decide +kernel
theorem dX3_addColumn_26 : decode cX3_addColumn 26 = .ok (.aload_n 0, 1) := by decide +kernel
theorem dX3_addColumn_27 : decode cX3_addColumn 27 = .ok (.getfield 27, 3) := by decide +kernel
theorem dX3_addColumn_30 : decode cX3_addColumn 30 = .ok (.aload_n 0, 1) := by decide +kernel
theorem dX3_addColumn_31 : decode cX3_addColumn 31 = .ok (.getfield 40, 3) := by decide +kernel
theorem dX3_addColumn_34 : decode cX3_addColumn 34 = .ok (.iload_n 2, 1) := by decide +kernel
theorem dX3_addColumn_35 : decode cX3_addColumn 35 = .ok (.iastore, 1) := by decide +kernel
theorem dX3_addColumn_36 : decode cX3_addColumn 36 = .ok (.aload_n 0, 1) := by decide +kernel
theorem dX3_addColumn_37 : decode cX3_addColumn 37 = .ok (.getfield 30, 3) := by decide +kernel
theorem dX3_addColumn_40 : decode cX3_addColumn 40 = .ok (.aload_n 0, 1) := by decide +kernel
theorem dX3_addColumn_41 : decode cX3_addColumn 41 = .ok (.getfield 40, 3) := by decide +kernel
theorem dX3_addColumn_44 : decode cX3_addColumn 44 = .ok (.iload_n 3, 1) := by decide +kernel
theorem dX3_addColumn_45 : decode cX3_addColumn 45 = .ok (.iastore, 1) := by decide +kernel
theorem dX3_addColumn_46 : decode cX3_addColumn 46 = .ok (.aload_n 0, 1) := by decide +kernel
theorem dX3_addColumn_47 : decode cX3_addColumn 47 = .ok (.dup, 1) := by decide +kernel
theorem dX3_addColumn_48 : decode cX3_addColumn 48 = .ok (.getfield 40, 3) := by decide +kernel
theorem dX3_addColumn_51 : decode cX3_addColumn 51 = .ok (.iconst 1, 1) := by decide +kernel
theorem dX3_addColumn_52 : decode cX3_addColumn 52 = .ok (.iadd, 1) := by decide +kernel
theorem dX3_addColumn_53 : decode cX3_addColumn 53 = .ok (.putfield 40, 3) := by decide +kernel
theorem dX3_addColumn_56 : decode cX3_addColumn 56 = .ok (.return_, 1) := by decide +kernel
theorem dX3_weight_0 : decode cX3_weight 0 = .ok (.iconst 0, 1) := by decide +kernel
theorem dX3_weight_1 : decode cX3_weight 1 = .ok (.istore_n 1, 1) := by decide +kernel
theorem dX3_weight_2 : decode cX3_weight 2 = .ok (.iconst 0, 1) := by decide +kernel
theorem dX3_weight_3 : decode cX3_weight 3 = .ok (.istore_n 2, 1) := by decide +kernel
theorem dX3_weight_4 : decode cX3_weight 4 = .ok (.iload_n 2, 1) := by decide +kernel
theorem dX3_weight_5 : decode cX3_weight 5 = .ok (.aload_n 0, 1) := by decide +kernel
theorem dX3_weight_6 : decode cX3_weight 6 = .ok (.getfield 40, 3) := by decide +kernel
theorem dX3_weight_9 : decode cX3_weight 9 = .ok (.if_icmp .ge 18, 3) := by decide +kernel
theorem dX3_weight_12 : decode cX3_weight 12 = .ok (.iload_n 1, 1) := by decide +kernel
theorem dX3_weight_13 : decode cX3_weight 13 = .ok (.aload_n 0, 1) := by decide +kernel
theorem dX3_weight_14 : decode cX3_weight 14 = .ok (.getfield 30, 3) := by decide +kernel
theorem dX3_weight_17 : decode cX3_weight 17 = .ok (.iload_n 2, 1) := by decide +kernel
theorem dX3_weight_18 : decode cX3_weight 18 = .ok (.iaload, 1) := by decide +kernel
theorem dX3_weight_19 : decode cX3_weight 19 = .ok (.iadd, 1) := by decide +kernel
theorem dX3_weight_20 : decode cX3_weight 20 = .ok (.istore_n 1, 1) := by decide +kernel
theorem dX3_weight_21 : decode cX3_weight 21 = .ok (.iinc 2 1, 3) := by decide +kernel
theorem dX3_weight_24 : decode cX3_weight 24 = .ok (.goto (-20), 3) := by decide +kernel
theorem dX3_weight_27 : decode cX3_weight 27 = .ok (.iload_n 1, 1) := by decide +kernel
theorem dX3_weight_28 : decode cX3_weight 28 = .ok (.ireturn, 1) := by decide +kernel
theorem dX3_momentX_0 : decode cX3_momentX 0 = .ok (.aload_n 0, 1) := by decide +kernel
theorem dX3_momentX_1 : decode cX3_momentX 1 = .ok (.getfield 43, 3) := by decide +kernel
theorem dX3_momentX_4 : decode cX3_momentX 4 = .ok (.istore_n 1, 1) := by decide +kernel
theorem dX3_momentX_5 : decode cX3_momentX 5 = .ok (.iconst 0, 1) := by decide +kernel
theorem dX3_momentX_6 : decode cX3_momentX 6 = .ok (.istore_n 2, 1) := by decide +kernel
theorem dX3_momentX_7 : decode cX3_momentX 7 = .ok (.iload_n 2, 1) := by decide +kernel
theorem dX3_momentX_8 : decode cX3_momentX 8 = .ok (.aload_n 0, 1) := by decide +kernel
theorem dX3_momentX_9 : decode cX3_momentX 9 = .ok (.getfield 40, 3) := by decide +kernel
theorem dX3_momentX_12 : decode cX3_momentX 12 = .ok (.if_icmp .ge 25, 3) := by decide +kernel
theorem dX3_momentX_15 : decode cX3_momentX 15 = .ok (.iload_n 1, 1) := by decide +kernel
theorem dX3_momentX_16 : decode cX3_momentX 16 = .ok (.aload_n 0, 1) := by decide +kernel
theorem dX3_momentX_17 : decode cX3_momentX 17 = .ok (.getfield 30, 3) := by decide +kernel
theorem dX3_momentX_20 : decode cX3_momentX 20 = .ok (.iload_n 2, 1) := by decide +kernel
theorem dX3_momentX_21 : decode cX3_momentX 21 = .ok (.iaload, 1) := by decide +kernel
theorem dX3_momentX_22 : decode cX3_momentX 22 = .ok (.aload_n 0, 1) := by decide +kernel
theorem dX3_momentX_23 : decode cX3_momentX 23 = .ok (.getfield 24, 3) := by decide +kernel
theorem dX3_momentX_26 : decode cX3_momentX 26 = .ok (.iload_n 2, 1) := by decide +kernel
theorem dX3_momentX_27 : decode cX3_momentX 27 = .ok (.iaload, 1) := by decide +kernel
theorem dX3_momentX_28 : decode cX3_momentX 28 = .ok (.imul, 1) := by decide +kernel
theorem dX3_momentX_29 : decode cX3_momentX 29 = .ok (.iadd, 1) := by decide +kernel
theorem dX3_momentX_30 : decode cX3_momentX 30 = .ok (.istore_n 1, 1) := by decide +kernel
theorem dX3_momentX_31 : decode cX3_momentX 31 = .ok (.iinc 2 1, 3) := by decide +kernel
theorem dX3_momentX_34 : decode cX3_momentX 34 = .ok (.goto (-27), 3) := by decide +kernel
theorem dX3_momentX_37 : decode cX3_momentX 37 = .ok (.iload_n 1, 1) := by decide +kernel
theorem dX3_momentX_38 : decode cX3_momentX 38 = .ok (.ireturn, 1) := by decide +kernel
theorem dX3_momentY_0 : decode cX3_momentY 0 = .ok (.aload_n 0, 1) := by decide +kernel
theorem dX3_momentY_1 : decode cX3_momentY 1 = .ok (.getfield 46, 3) := by decide +kernel
theorem dX3_momentY_4 : decode cX3_momentY 4 = .ok (.istore_n 1, 1) := by decide +kernel
theorem dX3_momentY_5 : decode cX3_momentY 5 = .ok (.iconst 0, 1) := by decide +kernel
theorem dX3_momentY_6 : decode cX3_momentY 6 = .ok (.istore_n 2, 1) := by decide +kernel
theorem dX3_momentY_7 : decode cX3_momentY 7 = .ok (.iload_n 2, 1) := by decide +kernel
theorem dX3_momentY_8 : decode cX3_momentY 8 = .ok (.aload_n 0, 1) := by decide +kernel
theorem dX3_momentY_9 : decode cX3_momentY 9 = .ok (.getfield 40, 3) := by decide +kernel
theorem dX3_momentY_12 : decode cX3_momentY 12 = .ok (.if_icmp .ge 25, 3) := by decide +kernel
theorem dX3_momentY_15 : decode cX3_momentY 15 = .ok (.iload_n 1, 1) := by decide +kernel
theorem dX3_momentY_16 : decode cX3_momentY 16 = .ok (.aload_n 0, 1) := by decide +kernel
theorem dX3_momentY_17 : decode cX3_momentY 17 = .ok (.getfield 30, 3) := by decide +kernel
theorem dX3_momentY_20 : decode cX3_momentY 20 = .ok (.iload_n 2, 1) := by decide +kernel
theorem dX3_momentY_21 : decode cX3_momentY 21 = .ok (.iaload, 1) := by decide +kernel
theorem dX3_momentY_22 : decode cX3_momentY 22 = .ok (.aload_n 0, 1) := by decide +kernel
theorem dX3_momentY_23 : decode cX3_momentY 23 = .ok (.getfield 27, 3) := by decide +kernel
theorem dX3_momentY_26 : decode cX3_momentY 26 = .ok (.iload_n 2, 1) := by decide +kernel
theorem dX3_momentY_27 : decode cX3_momentY 27 = .ok (.iaload, 1) := by decide +kernel
theorem dX3_momentY_28 : decode cX3_momentY 28 = .ok (.imul, 1) := by decide +kernel
theorem dX3_momentY_29 : decode cX3_momentY 29 = .ok (.iadd, 1) := by decide +kernel
theorem dX3_momentY_30 : decode cX3_momentY 30 = .ok (.istore_n 1, 1) := by decide +kernel
theorem dX3_momentY_31 : decode cX3_momentY 31 = .ok (.iinc 2 1, 3) := by decide +kernel
theorem dX3_momentY_34 : decode cX3_momentY 34 = .ok (.goto (-27), 3) := by decide +kernel
theorem dX3_momentY_37 : decode cX3_momentY 37 = .ok (.iload_n 1, 1) := by decide +kernel
theorem dX3_momentY_38 : decode cX3_momentY 38 = .ok (.ireturn, 1) := by decide +kernel
theorem dJ6_bitCount_0f7a4_0 : decode cJ6_bitCount_0f7a4 0 = .ok (.iload_n 0, 1) := by decide +kernel
theorem dJ6_bitCount_0f7a4_1 : decode cJ6_bitCount_0f7a4 1 = .ok (.iload_n 0, 1) := by decide +kernel
theorem dJ6_bitCount_0f7a4_2 : decode cJ6_bitCount_0f7a4 2 = .ok (.iconst 1, 1) := by decide +kernel
theorem dJ6_bitCount_0f7a4_3 : decode cJ6_bitCount_0f7a4 3 = .ok (.iushr, 1) := by decide +kernel
theorem dJ6_bitCount_0f7a4_4 : decode cJ6_bitCount_0f7a4 4 = .ok (.ldc_w 265, 3) := by decide +kernel
theorem dJ6_bitCount_0f7a4_7 : decode cJ6_bitCount_0f7a4 7 = .ok (.iand, 1) := by decide +kernel
theorem dJ6_bitCount_0f7a4_8 : decode cJ6_bitCount_0f7a4 8 = .ok (.isub, 1) := by decide +kernel
theorem dJ6_bitCount_0f7a4_9 : decode cJ6_bitCount_0f7a4 9 = .ok (.istore_n 0, 1) := by decide +kernel
theorem dJ6_bitCount_0f7a4_10 : decode cJ6_bitCount_0f7a4 10 = .ok (.iload_n 0, 1) := by decide +kernel
theorem dJ6_bitCount_0f7a4_11 : decode cJ6_bitCount_0f7a4 11 = .ok (.ldc_w 266, 3) := by decide +kernel
theorem dJ6_bitCount_0f7a4_14 : decode cJ6_bitCount_0f7a4 14 = .ok (.iand, 1) := by decide +kernel
theorem dJ6_bitCount_0f7a4_15 : decode cJ6_bitCount_0f7a4 15 = .ok (.iload_n 0, 1) := by decide +kernel
theorem dJ6_bitCount_0f7a4_16 : decode cJ6_bitCount_0f7a4 16 = .ok (.iconst 2, 1) := by decide +kernel
theorem dJ6_bitCount_0f7a4_17 : decode cJ6_bitCount_0f7a4 17 = .ok (.iushr, 1) := by decide +kernel
theorem dJ6_bitCount_0f7a4_18 : decode cJ6_bitCount_0f7a4 18 = .ok (.ldc_w 266, 3) := by decide +kernel
theorem dJ6_bitCount_0f7a4_21 : decode cJ6_bitCount_0f7a4 21 = .ok (.iand, 1) := by decide +kernel
theorem dJ6_bitCount_0f7a4_22 : decode cJ6_bitCount_0f7a4 22 = .ok (.iadd, 1) := by decide +kernel
theorem dJ6_bitCount_0f7a4_23 : decode cJ6_bitCount_0f7a4 23 = .ok (.istore_n 0, 1) := by decide +kernel
theorem dJ6_bitCount_0f7a4_24 : decode cJ6_bitCount_0f7a4 24 = .ok (.iload_n 0, 1) := by decide +kernel
theorem dJ6_bitCount_0f7a4_25 : decode cJ6_bitCount_0f7a4 25 = .ok (.iload_n 0, 1) := by decide +kernel
theorem dJ6_bitCount_0f7a4_26 : decode cJ6_bitCount_0f7a4 26 = .ok (.iconst 4, 1) := by decide +kernel
theorem dJ6_bitCount_0f7a4_27 : decode cJ6_bitCount_0f7a4 27 = .ok (.iushr, 1) := by decide +kernel
theorem dJ6_bitCount_0f7a4_28 : decode cJ6_bitCount_0f7a4 28 = .ok (.iadd, 1) := by decide +kernel
theorem dJ6_bitCount_0f7a4_29 : decode cJ6_bitCount_0f7a4 29 = .ok (.ldc_w 267, 3) := by decide +kernel
theorem dJ6_bitCount_0f7a4_32 : decode cJ6_bitCount_0f7a4 32 = .ok (.iand, 1) := by decide +kernel
theorem dJ6_bitCount_0f7a4_33 : decode cJ6_bitCount_0f7a4 33 = .ok (.istore_n 0, 1) := by decide +kernel
theorem dJ6_bitCount_0f7a4_34 : decode cJ6_bitCount_0f7a4 34 = .ok (.iload_n 0, 1) := by decide +kernel
theorem dJ6_bitCount_0f7a4_35 : decode cJ6_bitCount_0f7a4 35 = .ok (.iload_n 0, 1) := by decide +kernel
theorem dJ6_bitCount_0f7a4_36 : decode cJ6_bitCount_0f7a4 36 = .ok (.bipush 8, 2) := by decide +kernel
theorem dJ6_bitCount_0f7a4_38 : decode cJ6_bitCount_0f7a4 38 = .ok (.iushr, 1) := by decide +kernel
theorem dJ6_bitCount_0f7a4_39 : decode cJ6_bitCount_0f7a4 39 = .ok (.iadd, 1) := by decide +kernel
theorem dJ6_bitCount_0f7a4_40 : decode cJ6_bitCount_0f7a4 40 = .ok (.istore_n 0, 1) := by decide +kernel
theorem dJ6_bitCount_0f7a4_41 : decode cJ6_bitCount_0f7a4 41 = .ok (.iload_n 0, 1) := by decide +kernel
theorem dJ6_bitCount_0f7a4_42 : decode cJ6_bitCount_0f7a4 42 = .ok (.iload_n 0, 1) := by decide +kernel
theorem dJ6_bitCount_0f7a4_43 : decode cJ6_bitCount_0f7a4 43 = .ok (.bipush 16, 2) := by decide +kernel
theorem dJ6_bitCount_0f7a4_45 : decode cJ6_bitCount_0f7a4 45 = .ok (.iushr, 1) := by decide +kernel
theorem dJ6_bitCount_0f7a4_46 : decode cJ6_bitCount_0f7a4 46 = .ok (.iadd, 1) := by decide +kernel
theorem dJ6_bitCount_0f7a4_47 : decode cJ6_bitCount_0f7a4 47 = .ok (.istore_n 0, 1) := by decide +kernel
theorem dJ6_bitCount_0f7a4_48 : decode cJ6_bitCount_0f7a4 48 = .ok (.iload_n 0, 1) := by decide +kernel
theorem dJ6_bitCount_0f7a4_49 : decode cJ6_bitCount_0f7a4 49 = .ok (.bipush 63, 2) := by decide +kernel
theorem dJ6_bitCount_0f7a4_51 : decode cJ6_bitCount_0f7a4 51 = .ok (.iand, 1) := by decide +kernel
theorem dJ6_bitCount_0f7a4_52 : decode cJ6_bitCount_0f7a4 52 = .ok (.ireturn, 1) := by decide +kernel
theorem dJ13_compare_74951_0 : decode cJ13_compare_74951 0 = .ok (.lload_n 0, 1) := by decide +kernel
theorem dJ13_compare_74951_1 : decode cJ13_compare_74951 1 = .ok (.lload_n 2, 1) := by decide +kernel
theorem dJ13_compare_74951_2 : decode cJ13_compare_74951 2 = .ok (.lcmp, 1) := by decide +kernel
theorem dJ13_compare_74951_3 : decode cJ13_compare_74951 3 = .ok (.ifCond .ge 7, 3) := by decide +kernel
theorem dJ13_compare_74951_6 : decode cJ13_compare_74951 6 = .ok (.iconst (-1), 1) := by decide +kernel
theorem dJ13_compare_74951_7 : decode cJ13_compare_74951 7 = .ok (.goto 14, 3) := by decide +kernel
theorem dJ13_compare_74951_10 : decode cJ13_compare_74951 10 = .ok (.lload_n 0, 1) := by decide +kernel
theorem dJ13_compare_74951_11 : decode cJ13_compare_74951 11 = .ok (.lload_n 2, 1) := by decide +kernel
theorem dJ13_compare_74951_12 : decode cJ13_compare_74951 12 = .ok (.lcmp, 1) := by decide +kernel
theorem dJ13_compare_74951_13 : decode cJ13_compare_74951 13 = .ok (.ifCond .ne 7, 3) := by decide +kernel
theorem dJ13_compare_74951_16 : decode cJ13_compare_74951 16 = .ok (.iconst 0, 1) := by decide +kernel
theorem dJ13_compare_74951_17 : decode cJ13_compare_74951 17 = .ok (.goto 4, 3) := by decide +kernel
theorem dJ13_compare_74951_20 : decode cJ13_compare_74951 20 = .ok (.iconst 1, 1) := by decide +kernel
theorem dJ13_compare_74951_21 : decode cJ13_compare_74951 21 = .ok (.ireturn, 1) := by decide +kernel
theorem dJ9_floorDiv_f86c9_0 : decode cJ9_floorDiv_f86c9 0 = .ok (.lload_n 0, 1) := by decide +kernel
theorem dJ9_floorDiv_f86c9_1 : decode cJ9_floorDiv_f86c9 1 = .ok (.lload_n 2, 1) := by decide +kernel
theorem dJ9_floorDiv_f86c9_2 : decode cJ9_floorDiv_f86c9 2 = .ok (.ldiv, 1) := by decide +kernel
theorem dJ9_floorDiv_f86c9_3 : decode cJ9_floorDiv_f86c9 3 = .ok (.lstore 4, 2) := by decide +kernel
theorem dJ9_floorDiv_f86c9_5 : decode cJ9_floorDiv_f86c9 5 = .ok (.lload_n 0, 1) := by decide +kernel
theorem dJ9_floorDiv_f86c9_6 : decode cJ9_floorDiv_f86c9 6 = .ok (.lload_n 2, 1) := by decide +kernel
theorem dJ9_floorDiv_f86c9_7 : decode cJ9_floorDiv_f86c9 7 = .ok (.lxor, 1) := by decide +kernel
theorem dJ9_floorDiv_f86c9_8 : decode cJ9_floorDiv_f86c9 8 = .ok (.lconst 0, 1) := by decide +kernel
theorem dJ9_floorDiv_f86c9_9 : decode cJ9_floorDiv_f86c9 9 = .ok (.lcmp, 1) := by decide +kernel
theorem dJ9_floorDiv_f86c9_10 : decode cJ9_floorDiv_f86c9 10 = .ok (.ifCond .ge 17, 3) := by decide +kernel
theorem dJ9_floorDiv_f86c9_13 : decode cJ9_floorDiv_f86c9 13 = .ok (.lload 4, 2) := by decide +kernel
theorem dJ9_floorDiv_f86c9_15 : decode cJ9_floorDiv_f86c9 15 = .ok (.lload_n 2, 1) := by decide +kernel
theorem dJ9_floorDiv_f86c9_16 : decode cJ9_floorDiv_f86c9 16 = .ok (.lmul, 1) := by decide +kernel
theorem dJ9_floorDiv_f86c9_17 : decode cJ9_floorDiv_f86c9 17 = .ok (.lload_n 0, 1) := by decide +kernel
theorem dJ9_floorDiv_f86c9_18 : decode cJ9_floorDiv_f86c9 18 = .ok (.lcmp, 1) := by decide +kernel
theorem dJ9_floorDiv_f86c9_19 : decode cJ9_floorDiv_f86c9 19 = .ok (.ifCond .eq 8, 3) := by decide +kernel
theorem dJ9_floorDiv_f86c9_22 : decode cJ9_floorDiv_f86c9 22 = .ok (.lload 4, 2) := by decide +kernel
theorem dJ9_floorDiv_f86c9_24 : decode cJ9_floorDiv_f86c9 24 = .ok (.lconst 1, 1) := by decide +kernel
theorem dJ9_floorDiv_f86c9_25 : decode cJ9_floorDiv_f86c9 25 = .ok (.lsub, 1) := by decide +kernel
theorem dJ9_floorDiv_f86c9_26 : decode cJ9_floorDiv_f86c9 26 = .ok (.lreturn, 1) := by decide +kernel
theorem dJ9_floorDiv_f86c9_27 : decode cJ9_floorDiv_f86c9 27 = .ok (.lload 4, 2) := by decide +kernel
theorem dJ9_floorDiv_f86c9_29 : decode cJ9_floorDiv_f86c9 29 = .ok (.lreturn, 1) := by decide +kernel
theorem dJ9_abs_067f4_0 : decode cJ9_abs_067f4 0 = .ok (.lload_n 0, 1) := by decide +kernel
theorem dJ9_abs_067f4_1 : decode cJ9_abs_067f4 1 = .ok (.lconst 0, 1) := by decide +kernel
theorem dJ9_abs_067f4_2 : decode cJ9_abs_067f4 2 = .ok (.lcmp, 1) := by decide +kernel
theorem dJ9_abs_067f4_3 : decode cJ9_abs_067f4 3 = .ok (.ifCond .ge 8, 3) := by decide +kernel
theorem dJ9_abs_067f4_6 : decode cJ9_abs_067f4 6 = .ok (.lload_n 0, 1) := by decide +kernel
theorem dJ9_abs_067f4_7 : decode cJ9_abs_067f4 7 = .ok (.lneg, 1) := by decide +kernel
theorem dJ9_abs_067f4_8 : decode cJ9_abs_067f4 8 = .ok (.goto 4, 3) := by decide +kernel
theorem dJ9_abs_067f4_11 : decode cJ9_abs_067f4 11 = .ok (.lload_n 0, 1) := by decide +kernel
theorem dJ9_abs_067f4_12 : decode cJ9_abs_067f4 12 = .ok (.lreturn, 1) := by decide +kernel
theorem dJ9_max_7cf53_0 : decode cJ9_max_7cf53 0 = .ok (.iload_n 0, 1) := by decide +kernel
theorem dJ9_max_7cf53_1 : decode cJ9_max_7cf53 1 = .ok (.iload_n 1, 1) := by decide +kernel
theorem dJ9_max_7cf53_2 : decode cJ9_max_7cf53 2 = .ok (.if_icmp .lt 7, 3) := by decide +kernel
theorem dJ9_max_7cf53_5 : decode cJ9_max_7cf53 5 = .ok (.iload_n 0, 1) := by decide +kernel
theorem dJ9_max_7cf53_6 : decode cJ9_max_7cf53 6 = .ok (.goto 4, 3) := by decide +kernel
theorem dJ9_max_7cf53_9 : decode cJ9_max_7cf53 9 = .ok (.iload_n 1, 1) := by decide +kernel
theorem dJ9_max_7cf53_10 : decode cJ9_max_7cf53 10 = .ok (.ireturn, 1) := by decide +kernel
theorem dJ9_min_7cf53_0 : decode cJ9_min_7cf53 0 = .ok (.iload_n 0, 1) := by decide +kernel
theorem dJ9_min_7cf53_1 : decode cJ9_min_7cf53 1 = .ok (.iload_n 1, 1) := by decide +kernel
theorem dJ9_min_7cf53_2 : decode cJ9_min_7cf53 2 = .ok (.if_icmp .gt 7, 3) := by decide +kernel
theorem dJ9_min_7cf53_5 : decode cJ9_min_7cf53 5 = .ok (.iload_n 0, 1) := by decide +kernel
theorem dJ9_min_7cf53_6 : decode cJ9_min_7cf53 6 = .ok (.goto 4, 3) := by decide +kernel
theorem dJ9_min_7cf53_9 : decode cJ9_min_7cf53 9 = .ok (.iload_n 1, 1) := by decide +kernel
theorem dJ9_min_7cf53_10 : decode cJ9_min_7cf53 10 = .ok (.ireturn, 1) := by decide +kernel
theorem dJ7_fill_53178_0 : decode cJ7_fill_53178 0 = .ok (.iconst 0, 1) := by decide +kernel
theorem dJ7_fill_53178_1 : decode cJ7_fill_53178 1 = .ok (.istore_n 2, 1) := by decide +kernel
theorem dJ7_fill_53178_2 : decode cJ7_fill_53178 2 = .ok (.aload_n 0, 1) := by decide +kernel
theorem dJ7_fill_53178_3 : decode cJ7_fill_53178 3 = .ok (.arraylength, 1) := by decide +kernel
theorem dJ7_fill_53178_4 : decode cJ7_fill_53178 4 = .ok (.istore_n 3, 1) := by decide +kernel
theorem dJ7_fill_53178_5 : decode cJ7_fill_53178 5 = .ok (.iload_n 2, 1) := by decide +kernel
theorem dJ7_fill_53178_6 : decode cJ7_fill_53178 6 = .ok (.iload_n 3, 1) := by decide +kernel
theorem dJ7_fill_53178_7 : decode cJ7_fill_53178 7 = .ok (.if_icmp .ge 13, 3) := by decide +kernel
theorem dJ7_fill_53178_10 : decode cJ7_fill_53178 10 = .ok (.aload_n 0, 1) := by decide +kernel
theorem dJ7_fill_53178_11 : decode cJ7_fill_53178 11 = .ok (.iload_n 2, 1) := by decide +kernel
theorem dJ7_fill_53178_12 : decode cJ7_fill_53178 12 = .ok (.iload_n 1, 1) := by decide +kernel
theorem dJ7_fill_53178_13 : decode cJ7_fill_53178 13 = .ok (.iastore, 1) := by decide +kernel
theorem dJ7_fill_53178_14 : decode cJ7_fill_53178 14 = .ok (.iinc 2 1, 3) := by decide +kernel
theorem dJ7_fill_53178_17 : decode cJ7_fill_53178 17 = .ok (.goto (-12), 3) := by decide +kernel
theorem dJ7_fill_53178_20 : decode cJ7_fill_53178 20 = .ok (.return_, 1) := by decide +kernel
