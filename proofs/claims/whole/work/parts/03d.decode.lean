theorem dX12_eats_0 : decode cX12_eats 0 = .ok (.aload_n 0, 1) := by decide +kernel
theorem dX12_eats_1 : decode cX12_eats 1 = .ok (.iload_n 1, 1) := by decide +kernel
theorem dX12_eats_2 : decode cX12_eats 2 = .ok (.invokevirtual 483, 3) := by decide +kernel
theorem dX12_eats_5 : decode cX12_eats 5 = .ok (.istore_n 2, 1) := by decide +kernel
theorem dX12_eats_6 : decode cX12_eats 6 = .ok (.aload_n 0, 1) := by decide +kernel
theorem dX12_eats_7 : decode cX12_eats 7 = .ok (.getfield 127, 3) := by decide +kernel
theorem dX12_eats_10 : decode cX12_eats 10 = .ok (.iload_n 1, 1) := by decide +kernel
theorem dX12_eats_11 : decode cX12_eats 11 = .ok (.iload_n 2, 1) := by decide +kernel
theorem dX12_eats_12 : decode cX12_eats 12 = .ok (.iastore, 1) := by decide +kernel
theorem dX12_eats_13 : decode cX12_eats 13 = .ok (.iload_n 2, 1) := by decide +kernel
theorem dX12_eats_14 : decode cX12_eats 14 = .ok (.iconst (-1), 1) := by decide +kernel
theorem dX12_eats_15 : decode cX12_eats 15 = .ok (.if_icmp .ne 28, 3) := by decide +kernel
theorem dX12_eats_18 : decode cX12_eats 18 = .ok (.aload_n 0, 1) := by decide +kernel
theorem dX12_eats_19 : decode cX12_eats 19 = .ok (.iload_n 1, 1) := by decide +kernel
theorem dX12_eats_20 : decode cX12_eats 20 = .ok (.invokevirtual 459, 3) := by decide +kernel
theorem dX12_eats_23 : decode cX12_eats 23 = .ok (.bipush 9, 2) := by decide +kernel
theorem dX12_eats_25 : decode cX12_eats 25 = .ok (.if_icmp .ge 17, 3) := by decide +kernel
theorem dX12_eats_28 : decode cX12_eats 28 = .ok (.aload_n 0, 1) := by decide +kernel
theorem dX12_eats_29 : decode cX12_eats 29 = .ok (.getfield 118, 3) := by decide +kernel
theorem dX12_eats_32 : decode cX12_eats 32 = .ok (.iconst 3, 1) := by decide +kernel
theorem dX12_eats_33 : decode cX12_eats 33 = .ok (.iconst 3, 1) := by decide +kernel
theorem dX12_eats_34 : decode cX12_eats 34 = .ok (.iload_n 1, 1) := by decide +kernel
theorem dX12_eats_35 : decode cX12_eats 35 = .ok (.imul, 1) := by decide +kernel
theorem dX12_eats_36 : decode cX12_eats 36 = .ok (.iadd, 1) := by decide +kernel
theorem dX12_eats_37 : decode cX12_eats 37 = .ok (.dup2, 1) := by decide +kernel
theorem dX12_eats_38 : decode cX12_eats 38 = .ok (.iaload, 1) := by decide +kernel
theorem dX12_eats_39 : decode cX12_eats 39 = .ok (.iconst 1, 1) := by decide +kernel
theorem dX12_eats_40 : decode cX12_eats 40 = .ok (.iadd, 1) := by decide +kernel
theorem dX12_eats_41 : decode cX12_eats 41 = .ok (.iastore, 1) := by decide +kernel
theorem dX12_eats_42 : decode cX12_eats 42 = .ok (.return_, 1) := by decide +kernel
theorem dX12_eats_43 : decode cX12_eats 43 = .ok (.aload_n 0, 1) := by decide +kernel
theorem dX12_eats_44 : decode cX12_eats 44 = .ok (.getfield 130, 3) := by decide +kernel
theorem dX12_eats_47 : decode cX12_eats 47 = .ok (.iload_n 1, 1) := by decide +kernel
theorem dX12_eats_48 : decode cX12_eats 48 = .ok (.aload_n 0, 1) := by decide +kernel
theorem dX12_eats_49 : decode cX12_eats 49 = .ok (.iload_n 2, 1) := by decide +kernel
theorem dX12_eats_50 : decode cX12_eats 50 = .ok (.iload_n 1, 1) := by decide +kernel
theorem dX12_eats_51 : decode cX12_eats 51 = .ok (.invokevirtual 486, 3) := by decide +kernel
theorem dX12_eats_54 : decode cX12_eats 54 = .ok (.iastore, 1) := by decide +kernel
theorem dX12_eats_55 : decode cX12_eats 55 = .ok (.aload_n 0, 1) := by decide +kernel
theorem dX12_eats_56 : decode cX12_eats 56 = .ok (.getfield 118, 3) := by decide +kernel
theorem dX12_eats_59 : decode cX12_eats 59 = .ok (.iconst 2, 1) := by decide +kernel
theorem dX12_eats_60 : decode cX12_eats 60 = .ok (.iconst 3, 1) := by decide +kernel
theorem dX12_eats_61 : decode cX12_eats 61 = .ok (.iload_n 2, 1) := by decide +kernel
theorem dX12_eats_62 : decode cX12_eats 62 = .ok (.imul, 1) := by decide +kernel
theorem dX12_eats_63 : decode cX12_eats 63 = .ok (.iadd, 1) := by decide +kernel
theorem dX12_eats_64 : decode cX12_eats 64 = .ok (.dup2, 1) := by decide +kernel
theorem dX12_eats_65 : decode cX12_eats 65 = .ok (.iaload, 1) := by decide +kernel
theorem dX12_eats_66 : decode cX12_eats 66 = .ok (.aload_n 0, 1) := by decide +kernel
theorem dX12_eats_67 : decode cX12_eats 67 = .ok (.getfield 93, 3) := by decide +kernel
theorem dX12_eats_70 : decode cX12_eats 70 = .ok (.iconst 2, 1) := by decide +kernel
theorem dX12_eats_71 : decode cX12_eats 71 = .ok (.iaload, 1) := by decide +kernel
theorem dX12_eats_72 : decode cX12_eats 72 = .ok (.isub, 1) := by decide +kernel
theorem dX12_eats_73 : decode cX12_eats 73 = .ok (.iastore, 1) := by decide +kernel
theorem dX12_eats_74 : decode cX12_eats 74 = .ok (.aload_n 0, 1) := by decide +kernel
theorem dX12_eats_75 : decode cX12_eats 75 = .ok (.getfield 118, 3) := by decide +kernel
theorem dX12_eats_78 : decode cX12_eats 78 = .ok (.iconst 3, 1) := by decide +kernel
theorem dX12_eats_79 : decode cX12_eats 79 = .ok (.iconst 3, 1) := by decide +kernel
theorem dX12_eats_80 : decode cX12_eats 80 = .ok (.iload_n 1, 1) := by decide +kernel
theorem dX12_eats_81 : decode cX12_eats 81 = .ok (.imul, 1) := by decide +kernel
theorem dX12_eats_82 : decode cX12_eats 82 = .ok (.iadd, 1) := by decide +kernel
theorem dX12_eats_83 : decode cX12_eats 83 = .ok (.iconst 0, 1) := by decide +kernel
theorem dX12_eats_84 : decode cX12_eats 84 = .ok (.iastore, 1) := by decide +kernel
theorem dX12_eats_85 : decode cX12_eats 85 = .ok (.aload_n 0, 1) := by decide +kernel
theorem dX12_eats_86 : decode cX12_eats 86 = .ok (.dup, 1) := by decide +kernel
theorem dX12_eats_87 : decode cX12_eats 87 = .ok (.getfield 471, 3) := by decide +kernel
theorem dX12_eats_90 : decode cX12_eats 90 = .ok (.iconst 1, 1) := by decide +kernel
theorem dX12_eats_91 : decode cX12_eats 91 = .ok (.iload_n 2, 1) := by decide +kernel
theorem dX12_eats_92 : decode cX12_eats 92 = .ok (.ishl, 1) := by decide +kernel
theorem dX12_eats_93 : decode cX12_eats 93 = .ok (.ior, 1) := by decide +kernel
theorem dX12_eats_94 : decode cX12_eats 94 = .ok (.putfield 471, 3) := by decide +kernel
theorem dX12_eats_97 : decode cX12_eats 97 = .ok (.aload_n 0, 1) := by decide +kernel
theorem dX12_eats_98 : decode cX12_eats 98 = .ok (.getfield 133, 3) := by decide +kernel
theorem dX12_eats_101 : decode cX12_eats 101 = .ok (.iload_n 2, 1) := by decide +kernel
theorem dX12_eats_102 : decode cX12_eats 102 = .ok (.iload_n 1, 1) := by decide +kernel
theorem dX12_eats_103 : decode cX12_eats 103 = .ok (.invokestatic 347, 3) := by decide +kernel
theorem dX12_eats_106 : decode cX12_eats 106 = .ok (.dup2, 1) := by decide +kernel
theorem dX12_eats_107 : decode cX12_eats 107 = .ok (.iaload, 1) := by decide +kernel
theorem dX12_eats_108 : decode cX12_eats 108 = .ok (.iconst 1, 1) := by decide +kernel
theorem dX12_eats_109 : decode cX12_eats 109 = .ok (.iadd, 1) := by decide +kernel
theorem dX12_eats_110 : decode cX12_eats 110 = .ok (.iastore, 1) := by decide +kernel
theorem dX12_eats_111 : decode cX12_eats 111 = .ok (.aload_n 0, 1) := by decide +kernel
theorem dX12_eats_112 : decode cX12_eats 112 = .ok (.dup, 1) := by decide +kernel
theorem dX12_eats_113 : decode cX12_eats 113 = .ok (.getfield 489, 3) := by decide +kernel
theorem dX12_eats_116 : decode cX12_eats 116 = .ok (.iconst 1, 1) := by decide +kernel
theorem dX12_eats_117 : decode cX12_eats 117 = .ok (.iadd, 1) := by decide +kernel
theorem dX12_eats_118 : decode cX12_eats 118 = .ok (.putfield 489, 3) := by decide +kernel
theorem dX12_eats_121 : decode cX12_eats 121 = .ok (.aload_n 0, 1) := by decide +kernel
theorem dX12_eats_122 : decode cX12_eats 122 = .ok (.iload_n 2, 1) := by decide +kernel
theorem dX12_eats_123 : decode cX12_eats 123 = .ok (.iload_n 1, 1) := by decide +kernel
theorem dX12_eats_124 : decode cX12_eats 124 = .ok (.invokevirtual 492, 3) := by decide +kernel
theorem dX12_eats_127 : decode cX12_eats 127 = .ok (.return_, 1) := by decide +kernel
theorem dX12_allEat_0 : decode cX12_allEat 0 = .ok (.aload_n 0, 1) := by decide +kernel
theorem dX12_allEat_1 : decode cX12_allEat 1 = .ok (.iconst 0, 1) := by decide +kernel
theorem dX12_allEat_2 : decode cX12_allEat 2 = .ok (.putfield 471, 3) := by decide +kernel
theorem dX12_allEat_5 : decode cX12_allEat 5 = .ok (.iconst 0, 1) := by decide +kernel
theorem dX12_allEat_6 : decode cX12_allEat 6 = .ok (.istore_n 1, 1) := by decide +kernel
theorem dX12_allEat_7 : decode cX12_allEat 7 = .ok (.iload_n 1, 1) := by decide +kernel
theorem dX12_allEat_8 : decode cX12_allEat 8 = .ok (.bipush 21, 2) := by decide +kernel
theorem dX12_allEat_10 : decode cX12_allEat 10 = .ok (.if_icmp .ge 16, 3) := by decide +kernel
theorem dX12_allEat_13 : decode cX12_allEat 13 = .ok (.aload_n 0, 1) := by decide +kernel
theorem dX12_allEat_14 : decode cX12_allEat 14 = .ok (.getfield 133, 3) := by decide +kernel
theorem dX12_allEat_17 : decode cX12_allEat 17 = .ok (.iload_n 1, 1) := by decide +kernel
theorem dX12_allEat_18 : decode cX12_allEat 18 = .ok (.iconst 0, 1) := by decide +kernel
theorem dX12_allEat_19 : decode cX12_allEat 19 = .ok (.iastore, 1) := by decide +kernel
theorem dX12_allEat_20 : decode cX12_allEat 20 = .ok (.iinc 1 1, 3) := by decide +kernel
theorem dX12_allEat_23 : decode cX12_allEat 23 = .ok (.goto (-16), 3) := by decide +kernel
theorem dX12_allEat_26 : decode cX12_allEat 26 = .ok (.iconst 0, 1) := by decide +kernel
theorem dX12_allEat_27 : decode cX12_allEat 27 = .ok (.istore_n 1, 1) := by decide +kernel
theorem dX12_allEat_28 : decode cX12_allEat 28 = .ok (.iload_n 1, 1) := by decide +kernel
theorem dX12_allEat_29 : decode cX12_allEat 29 = .ok (.aload_n 0, 1) := by decide +kernel
theorem dX12_allEat_30 : decode cX12_allEat 30 = .ok (.invokevirtual 412, 3) := by decide +kernel
theorem dX12_allEat_33 : decode cX12_allEat 33 = .ok (.if_icmp .ge 29, 3) := by decide +kernel
theorem dX12_allEat_36 : decode cX12_allEat 36 = .ok (.aload_n 0, 1) := by decide +kernel
theorem dX12_allEat_37 : decode cX12_allEat 37 = .ok (.getfield 127, 3) := by decide +kernel
theorem dX12_allEat_40 : decode cX12_allEat 40 = .ok (.iload_n 1, 1) := by decide +kernel
theorem dX12_allEat_41 : decode cX12_allEat 41 = .ok (.iconst (-1), 1) := by decide +kernel
theorem dX12_allEat_42 : decode cX12_allEat 42 = .ok (.iastore, 1) := by decide +kernel
theorem dX12_allEat_43 : decode cX12_allEat 43 = .ok (.aload_n 0, 1) := by decide +kernel
theorem dX12_allEat_44 : decode cX12_allEat 44 = .ok (.iload_n 1, 1) := by decide +kernel
theorem dX12_allEat_45 : decode cX12_allEat 45 = .ok (.invokevirtual 462, 3) := by decide +kernel
theorem dX12_allEat_48 : decode cX12_allEat 48 = .ok (.ifCond .eq 8, 3) := by decide +kernel
theorem dX12_allEat_51 : decode cX12_allEat 51 = .ok (.aload_n 0, 1) := by decide +kernel
theorem dX12_allEat_52 : decode cX12_allEat 52 = .ok (.iload_n 1, 1) := by decide +kernel
theorem dX12_allEat_53 : decode cX12_allEat 53 = .ok (.invokevirtual 495, 3) := by decide +kernel
theorem dX12_allEat_56 : decode cX12_allEat 56 = .ok (.iinc 1 1, 3) := by decide +kernel
theorem dX12_allEat_59 : decode cX12_allEat 59 = .ok (.goto (-31), 3) := by decide +kernel
theorem dX12_allEat_62 : decode cX12_allEat 62 = .ok (.return_, 1) := by decide +kernel
theorem dX12_isGone_0 : decode cX12_isGone 0 = .ok (.aload_n 0, 1) := by decide +kernel
theorem dX12_isGone_1 : decode cX12_isGone 1 = .ok (.getfield 118, 3) := by decide +kernel
theorem dX12_isGone_4 : decode cX12_isGone 4 = .ok (.iconst 1, 1) := by decide +kernel
theorem dX12_isGone_5 : decode cX12_isGone 5 = .ok (.iconst 3, 1) := by decide +kernel
theorem dX12_isGone_6 : decode cX12_isGone 6 = .ok (.iload_n 1, 1) := by decide +kernel
theorem dX12_isGone_7 : decode cX12_isGone 7 = .ok (.imul, 1) := by decide +kernel
theorem dX12_isGone_8 : decode cX12_isGone 8 = .ok (.iadd, 1) := by decide +kernel
theorem dX12_isGone_9 : decode cX12_isGone 9 = .ok (.iconst 0, 1) := by decide +kernel
theorem dX12_isGone_10 : decode cX12_isGone 10 = .ok (.iastore, 1) := by decide +kernel
theorem dX12_isGone_11 : decode cX12_isGone 11 = .ok (.iconst 0, 1) := by decide +kernel
theorem dX12_isGone_12 : decode cX12_isGone 12 = .ok (.istore_n 2, 1) := by decide +kernel
theorem dX12_isGone_13 : decode cX12_isGone 13 = .ok (.iload_n 2, 1) := by decide +kernel
theorem dX12_isGone_14 : decode cX12_isGone 14 = .ok (.aload_n 0, 1) := by decide +kernel
theorem dX12_isGone_15 : decode cX12_isGone 15 = .ok (.invokevirtual 412, 3) := by decide +kernel
theorem dX12_isGone_18 : decode cX12_isGone 18 = .ok (.if_icmp .ge 28, 3) := by decide +kernel
theorem dX12_isGone_21 : decode cX12_isGone 21 = .ok (.iload_n 2, 1) := by decide +kernel
theorem dX12_isGone_22 : decode cX12_isGone 22 = .ok (.iload_n 1, 1) := by decide +kernel
theorem dX12_isGone_23 : decode cX12_isGone 23 = .ok (.if_icmp .eq 17, 3) := by decide +kernel
theorem dX12_isGone_26 : decode cX12_isGone 26 = .ok (.aload_n 0, 1) := by decide +kernel
theorem dX12_isGone_27 : decode cX12_isGone 27 = .ok (.getfield 118, 3) := by decide +kernel
theorem dX12_isGone_30 : decode cX12_isGone 30 = .ok (.bipush 22, 2) := by decide +kernel
theorem dX12_isGone_32 : decode cX12_isGone 32 = .ok (.iload_n 1, 1) := by decide +kernel
theorem dX12_isGone_33 : decode cX12_isGone 33 = .ok (.iload_n 2, 1) := by decide +kernel
theorem dX12_isGone_34 : decode cX12_isGone 34 = .ok (.invokestatic 347, 3) := by decide +kernel
theorem dX12_isGone_37 : decode cX12_isGone 37 = .ok (.iadd, 1) := by decide +kernel
theorem dX12_isGone_38 : decode cX12_isGone 38 = .ok (.iconst 0, 1) := by decide +kernel
theorem dX12_isGone_39 : decode cX12_isGone 39 = .ok (.iastore, 1) := by decide +kernel
theorem dX12_isGone_40 : decode cX12_isGone 40 = .ok (.iinc 2 1, 3) := by decide +kernel
theorem dX12_isGone_43 : decode cX12_isGone 43 = .ok (.goto (-30), 3) := by decide +kernel
theorem dX12_isGone_46 : decode cX12_isGone 46 = .ok (.return_, 1) := by decide +kernel
theorem dX12_cool_0 : decode cX12_cool 0 = .ok (.aload_n 0, 1) := by decide +kernel
theorem dX12_cool_1 : decode cX12_cool 1 = .ok (.iload_n 1, 1) := by decide +kernel
theorem dX12_cool_2 : decode cX12_cool 2 = .ok (.iload_n 2, 1) := by decide +kernel
theorem dX12_cool_3 : decode cX12_cool 3 = .ok (.invokevirtual 418, 3) := by decide +kernel
theorem dX12_cool_6 : decode cX12_cool 6 = .ok (.ifCond .eq 11, 3) := by decide +kernel
theorem dX12_cool_9 : decode cX12_cool 9 = .ok (.aload_n 0, 1) := by decide +kernel
theorem dX12_cool_10 : decode cX12_cool 10 = .ok (.iconst 3, 1) := by decide +kernel
theorem dX12_cool_11 : decode cX12_cool 11 = .ok (.invokevirtual 448, 3) := by decide +kernel
theorem dX12_cool_14 : decode cX12_cool 14 = .ok (.ifCond .ne 4, 3) := by decide +kernel
theorem dX12_cool_17 : decode cX12_cool 17 = .ok (.return_, 1) := by decide +kernel
theorem dX12_cool_18 : decode cX12_cool 18 = .ok (.aload_n 0, 1) := by decide +kernel
theorem dX12_cool_19 : decode cX12_cool 19 = .ok (.aload_n 0, 1) := by decide +kernel
theorem dX12_cool_20 : decode cX12_cool 20 = .ok (.iload_n 1, 1) := by decide +kernel
theorem dX12_cool_21 : decode cX12_cool 21 = .ok (.iload_n 2, 1) := by decide +kernel
theorem dX12_cool_22 : decode cX12_cool 22 = .ok (.invokevirtual 415, 3) := by decide +kernel
theorem dX12_cool_25 : decode cX12_cool 25 = .ok (.i2l, 1) := by decide +kernel
theorem dX12_cool_26 : decode cX12_cool 26 = .ok (.putfield 442, 3) := by decide +kernel
theorem dX12_cool_29 : decode cX12_cool 29 = .ok (.aload_n 0, 1) := by decide +kernel
theorem dX12_cool_30 : decode cX12_cool 30 = .ok (.aload_n 0, 1) := by decide +kernel
theorem dX12_cool_31 : decode cX12_cool 31 = .ok (.getfield 133, 3) := by decide +kernel
theorem dX12_cool_34 : decode cX12_cool 34 = .ok (.iload_n 1, 1) := by decide +kernel
theorem dX12_cool_35 : decode cX12_cool 35 = .ok (.iload_n 2, 1) := by decide +kernel
theorem dX12_cool_36 : decode cX12_cool 36 = .ok (.invokestatic 347, 3) := by decide +kernel
theorem dX12_cool_39 : decode cX12_cool 39 = .ok (.iaload, 1) := by decide +kernel
theorem dX12_cool_40 : decode cX12_cool 40 = .ok (.putfield 498, 3) := by decide +kernel
theorem dX12_cool_43 : decode cX12_cool 43 = .ok (.aload_n 0, 1) := by decide +kernel
theorem dX12_cool_44 : decode cX12_cool 44 = .ok (.getfield 118, 3) := by decide +kernel
theorem dX12_cool_47 : decode cX12_cool 47 = .ok (.bipush 22, 2) := by decide +kernel
theorem dX12_cool_49 : decode cX12_cool 49 = .ok (.iload_n 1, 1) := by decide +kernel
theorem dX12_cool_50 : decode cX12_cool 50 = .ok (.iload_n 2, 1) := by decide +kernel
theorem dX12_cool_51 : decode cX12_cool 51 = .ok (.invokestatic 347, 3) := by decide +kernel
theorem dX12_cool_54 : decode cX12_cool 54 = .ok (.iadd, 1) := by decide +kernel
theorem dX12_cool_55 : decode cX12_cool 55 = .ok (.aload_n 0, 1) := by decide +kernel
theorem dX12_cool_56 : decode cX12_cool 56 = .ok (.iconst 3, 1) := by decide +kernel
theorem dX12_cool_57 : decode cX12_cool 57 = .ok (.invokevirtual 451, 3) := by decide +kernel
theorem dX12_cool_60 : decode cX12_cool 60 = .ok (.invokestatic 455, 3) := by decide +kernel
theorem dX12_cool_63 : decode cX12_cool 63 = .ok (.iastore, 1) := by decide +kernel
theorem dX12_cool_64 : decode cX12_cool 64 = .ok (.return_, 1) := by decide +kernel
theorem dX12_grow_0 : decode cX12_grow 0 = .ok (.aload_n 0, 1) := by decide +kernel
theorem dX12_grow_1 : decode cX12_grow 1 = .ok (.iload_n 1, 1) := by decide +kernel
theorem dX12_grow_2 : decode cX12_grow 2 = .ok (.putfield 429, 3) := by decide +kernel
theorem dX12_grow_5 : decode cX12_grow 5 = .ok (.aload_n 0, 1) := by decide +kernel
theorem dX12_grow_6 : decode cX12_grow 6 = .ok (.iload_n 1, 1) := by decide +kernel
theorem dX12_grow_7 : decode cX12_grow 7 = .ok (.putfield 439, 3) := by decide +kernel
theorem dX12_grow_10 : decode cX12_grow 10 = .ok (.aload_n 0, 1) := by decide +kernel
theorem dX12_grow_11 : decode cX12_grow 11 = .ok (.getfield 118, 3) := by decide +kernel
theorem dX12_grow_14 : decode cX12_grow 14 = .ok (.iconst 2, 1) := by decide +kernel
theorem dX12_grow_15 : decode cX12_grow 15 = .ok (.iconst 3, 1) := by decide +kernel
theorem dX12_grow_16 : decode cX12_grow 16 = .ok (.iload_n 1, 1) := by decide +kernel
theorem dX12_grow_17 : decode cX12_grow 17 = .ok (.imul, 1) := by decide +kernel
theorem dX12_grow_18 : decode cX12_grow 18 = .ok (.iadd, 1) := by decide +kernel
theorem dX12_grow_19 : decode cX12_grow 19 = .ok (.aload_n 0, 1) := by decide +kernel
theorem dX12_grow_20 : decode cX12_grow 20 = .ok (.iload_n 1, 1) := by decide +kernel
theorem dX12_grow_21 : decode cX12_grow 21 = .ok (.invokevirtual 465, 3) := by decide +kernel
theorem dX12_grow_24 : decode cX12_grow 24 = .ok (.i2l, 1) := by decide +kernel
theorem dX12_grow_25 : decode cX12_grow 25 = .ok (.aload_n 0, 1) := by decide +kernel
theorem dX12_grow_26 : decode cX12_grow 26 = .ok (.iconst 4, 1) := by decide +kernel
theorem dX12_grow_27 : decode cX12_grow 27 = .ok (.invokevirtual 448, 3) := by decide +kernel
theorem dX12_grow_30 : decode cX12_grow 30 = .ok (.ifCond .eq 11, 3) := by decide +kernel
theorem dX12_grow_33 : decode cX12_grow 33 = .ok (.aload_n 0, 1) := by decide +kernel
theorem dX12_grow_34 : decode cX12_grow 34 = .ok (.iconst 4, 1) := by decide +kernel
theorem dX12_grow_35 : decode cX12_grow 35 = .ok (.invokevirtual 451, 3) := by decide +kernel
theorem dX12_grow_38 : decode cX12_grow 38 = .ok (.goto 4, 3) := by decide +kernel
theorem dX12_grow_41 : decode cX12_grow 41 = .ok (.lconst 1, 1) := by decide +kernel
theorem dX12_grow_42 : decode cX12_grow 42 = .ok (.ladd, 1) := by decide +kernel
theorem dX12_grow_43 : decode cX12_grow 43 = .ok (.invokestatic 455, 3) := by decide +kernel
theorem dX12_grow_46 : decode cX12_grow 46 = .ok (.iastore, 1) := by decide +kernel
theorem dX12_grow_47 : decode cX12_grow 47 = .ok (.return_, 1) := by decide +kernel
theorem dX12_dayGoes_0 : decode cX12_dayGoes 0 = .ok (.aload_n 0, 1) := by decide +kernel
theorem dX12_dayGoes_1 : decode cX12_dayGoes 1 = .ok (.invokevirtual 501, 3) := by decide +kernel
theorem dX12_dayGoes_4 : decode cX12_dayGoes 4 = .ok (.iconst 0, 1) := by decide +kernel
theorem dX12_dayGoes_5 : decode cX12_dayGoes 5 = .ok (.istore_n 1, 1) := by decide +kernel
theorem dX12_dayGoes_6 : decode cX12_dayGoes 6 = .ok (.iload_n 1, 1) := by decide +kernel
theorem dX12_dayGoes_7 : decode cX12_dayGoes 7 = .ok (.aload_n 0, 1) := by decide +kernel
theorem dX12_dayGoes_8 : decode cX12_dayGoes 8 = .ok (.invokevirtual 412, 3) := by decide +kernel
theorem dX12_dayGoes_11 : decode cX12_dayGoes 11 = .ok (.if_icmp .ge 30, 3) := by decide +kernel
theorem dX12_dayGoes_14 : decode cX12_dayGoes 14 = .ok (.aload_n 0, 1) := by decide +kernel
theorem dX12_dayGoes_15 : decode cX12_dayGoes 15 = .ok (.iload_n 1, 1) := by decide +kernel
theorem dX12_dayGoes_16 : decode cX12_dayGoes 16 = .ok (.invokevirtual 462, 3) := by decide +kernel
theorem dX12_dayGoes_19 : decode cX12_dayGoes 19 = .ok (.ifCond .eq 16, 3) := by decide +kernel
theorem dX12_dayGoes_22 : decode cX12_dayGoes 22 = .ok (.aload_n 0, 1) := by decide +kernel
theorem dX12_dayGoes_23 : decode cX12_dayGoes 23 = .ok (.iload_n 1, 1) := by decide +kernel
theorem dX12_dayGoes_24 : decode cX12_dayGoes 24 = .ok (.invokevirtual 504, 3) := by decide +kernel
theorem dX12_dayGoes_27 : decode cX12_dayGoes 27 = .ok (.ifCond .eq 8, 3) := by decide +kernel
theorem dX12_dayGoes_30 : decode cX12_dayGoes 30 = .ok (.aload_n 0, 1) := by decide +kernel
theorem dX12_dayGoes_31 : decode cX12_dayGoes 31 = .ok (.iload_n 1, 1) := by decide +kernel
theorem dX12_dayGoes_32 : decode cX12_dayGoes 32 = .ok (.invokevirtual 507, 3) := by decide +kernel
theorem dX12_dayGoes_35 : decode cX12_dayGoes 35 = .ok (.iinc 1 1, 3) := by decide +kernel
theorem dX12_dayGoes_38 : decode cX12_dayGoes 38 = .ok (.goto (-32), 3) := by decide +kernel
theorem dX12_dayGoes_41 : decode cX12_dayGoes 41 = .ok (.iconst 0, 1) := by decide +kernel
theorem dX12_dayGoes_42 : decode cX12_dayGoes 42 = .ok (.istore_n 1, 1) := by decide +kernel
theorem dX12_dayGoes_43 : decode cX12_dayGoes 43 = .ok (.iload_n 1, 1) := by decide +kernel
theorem dX12_dayGoes_44 : decode cX12_dayGoes 44 = .ok (.aload_n 0, 1) := by decide +kernel
theorem dX12_dayGoes_45 : decode cX12_dayGoes 45 = .ok (.invokevirtual 412, 3) := by decide +kernel
theorem dX12_dayGoes_48 : decode cX12_dayGoes 48 = .ok (.if_icmp .ge 33, 3) := by decide +kernel
theorem dX12_dayGoes_51 : decode cX12_dayGoes 51 = .ok (.iload_n 1, 1) := by decide +kernel
theorem dX12_dayGoes_52 : decode cX12_dayGoes 52 = .ok (.iconst 1, 1) := by decide +kernel
theorem dX12_dayGoes_53 : decode cX12_dayGoes 53 = .ok (.iadd, 1) := by decide +kernel
theorem dX12_dayGoes_54 : decode cX12_dayGoes 54 = .ok (.istore_n 2, 1) := by decide +kernel
theorem dX12_dayGoes_55 : decode cX12_dayGoes 55 = .ok (.iload_n 2, 1) := by decide +kernel
theorem dX12_dayGoes_56 : decode cX12_dayGoes 56 = .ok (.aload_n 0, 1) := by decide +kernel
theorem dX12_dayGoes_57 : decode cX12_dayGoes 57 = .ok (.invokevirtual 412, 3) := by decide +kernel
theorem dX12_dayGoes_60 : decode cX12_dayGoes 60 = .ok (.if_icmp .ge 15, 3) := by decide +kernel
theorem dX12_dayGoes_63 : decode cX12_dayGoes 63 = .ok (.aload_n 0, 1) := by decide +kernel
theorem dX12_dayGoes_64 : decode cX12_dayGoes 64 = .ok (.iload_n 1, 1) := by decide +kernel
theorem dX12_dayGoes_65 : decode cX12_dayGoes 65 = .ok (.iload_n 2, 1) := by decide +kernel
theorem dX12_dayGoes_66 : decode cX12_dayGoes 66 = .ok (.invokevirtual 510, 3) := by decide +kernel
theorem dX12_dayGoes_69 : decode cX12_dayGoes 69 = .ok (.iinc 2 1, 3) := by decide +kernel
theorem dX12_dayGoes_72 : decode cX12_dayGoes 72 = .ok (.goto (-17), 3) := by decide +kernel
theorem dX12_dayGoes_75 : decode cX12_dayGoes 75 = .ok (.iinc 1 1, 3) := by decide +kernel
theorem dX12_dayGoes_78 : decode cX12_dayGoes 78 = .ok (.goto (-35), 3) := by decide +kernel
theorem dX12_dayGoes_81 : decode cX12_dayGoes 81 = .ok (.iconst 0, 1) := by decide +kernel
theorem dX12_dayGoes_82 : decode cX12_dayGoes 82 = .ok (.istore_n 1, 1) := by decide +kernel
theorem dX12_dayGoes_83 : decode cX12_dayGoes 83 = .ok (.iload_n 1, 1) := by decide +kernel
theorem dX12_dayGoes_84 : decode cX12_dayGoes 84 = .ok (.aload_n 0, 1) := by decide +kernel
theorem dX12_dayGoes_85 : decode cX12_dayGoes 85 = .ok (.invokevirtual 412, 3) := by decide +kernel
theorem dX12_dayGoes_88 : decode cX12_dayGoes 88 = .ok (.if_icmp .ge 22, 3) := by decide +kernel
theorem dX12_dayGoes_91 : decode cX12_dayGoes 91 = .ok (.aload_n 0, 1) := by decide +kernel
theorem dX12_dayGoes_92 : decode cX12_dayGoes 92 = .ok (.iload_n 1, 1) := by decide +kernel
theorem dX12_dayGoes_93 : decode cX12_dayGoes 93 = .ok (.invokevirtual 462, 3) := by decide +kernel
theorem dX12_dayGoes_96 : decode cX12_dayGoes 96 = .ok (.ifCond .eq 8, 3) := by decide +kernel
theorem dX12_dayGoes_99 : decode cX12_dayGoes 99 = .ok (.aload_n 0, 1) := by decide +kernel
theorem dX12_dayGoes_100 : decode cX12_dayGoes 100 = .ok (.iload_n 1, 1) := by decide +kernel
theorem dX12_dayGoes_101 : decode cX12_dayGoes 101 = .ok (.invokevirtual 513, 3) := by decide +kernel
theorem dX12_dayGoes_104 : decode cX12_dayGoes 104 = .ok (.iinc 1 1, 3) := by decide +kernel
theorem dX12_dayGoes_107 : decode cX12_dayGoes 107 = .ok (.goto (-24), 3) := by decide +kernel
theorem dX12_dayGoes_110 : decode cX12_dayGoes 110 = .ok (.aload_n 0, 1) := by decide +kernel
theorem dX12_dayGoes_111 : decode cX12_dayGoes 111 = .ok (.getfield 118, 3) := by decide +kernel
theorem dX12_dayGoes_114 : decode cX12_dayGoes 114 = .ok (.iconst 0, 1) := by decide +kernel
theorem dX12_dayGoes_115 : decode cX12_dayGoes 115 = .ok (.dup2, 1) := by decide +kernel
theorem dX12_dayGoes_116 : decode cX12_dayGoes 116 = .ok (.iaload, 1) := by decide +kernel
theorem dX12_dayGoes_117 : decode cX12_dayGoes 117 = .ok (.iconst 1, 1) := by decide +kernel
theorem dX12_dayGoes_118 : decode cX12_dayGoes 118 = .ok (.iadd, 1) := by decide +kernel
theorem dX12_dayGoes_119 : decode cX12_dayGoes 119 = .ok (.iastore, 1) := by decide +kernel
theorem dX12_dayGoes_120 : decode cX12_dayGoes 120 = .ok (.return_, 1) := by decide +kernel
theorem dX12_daysGo_0 : decode cX12_daysGo 0 = .ok (.iconst 0, 1) := by decide +kernel
theorem dX12_daysGo_1 : decode cX12_daysGo 1 = .ok (.istore_n 2, 1) := by decide +kernel
theorem dX12_daysGo_2 : decode cX12_daysGo 2 = .ok (.iload_n 2, 1) := by decide +kernel
theorem dX12_daysGo_3 : decode cX12_daysGo 3 = .ok (.iload_n 1, 1) := by decide +kernel
theorem dX12_daysGo_4 : decode cX12_daysGo 4 = .ok (.if_icmp .ge 13, 3) := by decide +kernel
theorem dX12_daysGo_7 : decode cX12_daysGo 7 = .ok (.aload_n 0, 1) := by decide +kernel
theorem dX12_daysGo_8 : decode cX12_daysGo 8 = .ok (.invokevirtual 516, 3) := by decide +kernel
theorem dX12_daysGo_11 : decode cX12_daysGo 11 = .ok (.iinc 2 1, 3) := by decide +kernel
theorem dX12_daysGo_14 : decode cX12_daysGo 14 = .ok (.goto (-12), 3) := by decide +kernel
theorem dX12_daysGo_17 : decode cX12_daysGo 17 = .ok (.return_, 1) := by decide +kernel
theorem dX12_putsAside_0 : decode cX12_putsAside 0 = .ok (.aload_n 0, 1) := by decide +kernel
theorem dX12_putsAside_1 : decode cX12_putsAside 1 = .ok (.iconst 1, 1) := by decide +kernel
theorem dX12_putsAside_2 : decode cX12_putsAside 2 = .ok (.putfield 480, 3) := by decide +kernel
theorem dX12_putsAside_5 : decode cX12_putsAside 5 = .ok (.iconst 0, 1) := by decide +kernel
theorem dX12_putsAside_6 : decode cX12_putsAside 6 = .ok (.istore_n 1, 1) := by decide +kernel
theorem dX12_putsAside_7 : decode cX12_putsAside 7 = .ok (.iload_n 1, 1) := by decide +kernel
theorem dX12_putsAside_8 : decode cX12_putsAside 8 = .ok (.bipush 43, 2) := by decide +kernel
theorem dX12_putsAside_10 : decode cX12_putsAside 10 = .ok (.if_icmp .ge 21, 3) := by decide +kernel
theorem dX12_putsAside_13 : decode cX12_putsAside 13 = .ok (.aload_n 0, 1) := by decide +kernel
theorem dX12_putsAside_14 : decode cX12_putsAside 14 = .ok (.getfield 121, 3) := by decide +kernel
theorem dX12_putsAside_17 : decode cX12_putsAside 17 = .ok (.iload_n 1, 1) := by decide +kernel
theorem dX12_putsAside_18 : decode cX12_putsAside 18 = .ok (.aload_n 0, 1) := by decide +kernel
theorem dX12_putsAside_19 : decode cX12_putsAside 19 = .ok (.getfield 118, 3) := by decide +kernel
theorem dX12_putsAside_22 : decode cX12_putsAside 22 = .ok (.iload_n 1, 1) := by decide +kernel
theorem dX12_putsAside_23 : decode cX12_putsAside 23 = .ok (.iaload, 1) := by decide +kernel
theorem dX12_putsAside_24 : decode cX12_putsAside 24 = .ok (.iastore, 1) := by decide +kernel
theorem dX12_putsAside_25 : decode cX12_putsAside 25 = .ok (.iinc 1 1, 3) := by decide +kernel
theorem dX12_putsAside_28 : decode cX12_putsAside 28 = .ok (.goto (-21), 3) := by decide +kernel
theorem dX12_putsAside_31 : decode cX12_putsAside 31 = .ok (.return_, 1) := by decide +kernel
theorem dX12_triesAnew_0 : decode cX12_triesAnew 0 = .ok (.iconst 0, 1) := by decide +kernel
theorem dX12_triesAnew_1 : decode cX12_triesAnew 1 = .ok (.istore_n 1, 1) := by decide +kernel
theorem dX12_triesAnew_2 : decode cX12_triesAnew 2 = .ok (.iload_n 1, 1) := by decide +kernel
theorem dX12_triesAnew_3 : decode cX12_triesAnew 3 = .ok (.bipush 43, 2) := by decide +kernel
theorem dX12_triesAnew_5 : decode cX12_triesAnew 5 = .ok (.if_icmp .ge 21, 3) := by decide +kernel
theorem dX12_triesAnew_8 : decode cX12_triesAnew 8 = .ok (.aload_n 0, 1) := by decide +kernel
theorem dX12_triesAnew_9 : decode cX12_triesAnew 9 = .ok (.getfield 118, 3) := by decide +kernel
theorem dX12_triesAnew_12 : decode cX12_triesAnew 12 = .ok (.iload_n 1, 1) := by decide +kernel
theorem dX12_triesAnew_13 : decode cX12_triesAnew 13 = .ok (.aload_n 0, 1) := by decide +kernel
theorem dX12_triesAnew_14 : decode cX12_triesAnew 14 = .ok (.getfield 121, 3) := by decide +kernel
theorem dX12_triesAnew_17 : decode cX12_triesAnew 17 = .ok (.iload_n 1, 1) := by decide +kernel
theorem dX12_triesAnew_18 : decode cX12_triesAnew 18 = .ok (.iaload, 1) := by decide +kernel
theorem dX12_triesAnew_19 : decode cX12_triesAnew 19 = .ok (.iastore, 1) := by decide +kernel
theorem dX12_triesAnew_20 : decode cX12_triesAnew 20 = .ok (.iinc 1 1, 3) := by decide +kernel
theorem dX12_triesAnew_23 : decode cX12_triesAnew 23 = .ok (.goto (-21), 3) := by decide +kernel
theorem dX12_triesAnew_26 : decode cX12_triesAnew 26 = .ok (.return_, 1) := by decide +kernel
theorem dX12_takesBack_0 : decode cX12_takesBack 0 = .ok (.aload_n 0, 1) := by decide +kernel
theorem dX12_takesBack_1 : decode cX12_takesBack 1 = .ok (.invokevirtual 519, 3) := by decide +kernel
theorem dX12_takesBack_4 : decode cX12_takesBack 4 = .ok (.aload_n 0, 1) := by decide +kernel
theorem dX12_takesBack_5 : decode cX12_takesBack 5 = .ok (.iconst 0, 1) := by decide +kernel
theorem dX12_takesBack_6 : decode cX12_takesBack 6 = .ok (.putfield 468, 3) := by decide +kernel
theorem dX12_takesBack_9 : decode cX12_takesBack 9 = .ok (.aload_n 0, 1) := by decide +kernel
theorem dX12_takesBack_10 : decode cX12_takesBack 10 = .ok (.iconst 0, 1) := by decide +kernel
theorem dX12_takesBack_11 : decode cX12_takesBack 11 = .ok (.putfield 480, 3) := by decide +kernel
theorem dX12_takesBack_14 : decode cX12_takesBack 14 = .ok (.return_, 1) := by decide +kernel
theorem dX12_isAhead_0 : decode cX12_isAhead 0 = .ok (.aload_n 0, 1) := by decide +kernel
theorem dX12_isAhead_1 : decode cX12_isAhead 1 = .ok (.getfield 399, 3) := by decide +kernel
theorem dX12_isAhead_4 : decode cX12_isAhead 4 = .ok (.ifCond .eq 33, 3) := by decide +kernel
theorem dX12_isAhead_7 : decode cX12_isAhead 7 = .ok (.iload_n 1, 1) := by decide +kernel
theorem dX12_isAhead_8 : decode cX12_isAhead 8 = .ok (.i2l, 1) := by decide +kernel
theorem dX12_isAhead_9 : decode cX12_isAhead 9 = .ok (.iload_n 2, 1) := by decide +kernel
theorem dX12_isAhead_10 : decode cX12_isAhead 10 = .ok (.i2l, 1) := by decide +kernel
theorem dX12_isAhead_11 : decode cX12_isAhead 11 = .ok (.iload_n 3, 1) := by decide +kernel
theorem dX12_isAhead_12 : decode cX12_isAhead 12 = .ok (.i2l, 1) := by decide +kernel
theorem dX12_isAhead_13 : decode cX12_isAhead 13 = .ok (.invokestatic 303, 3) := by decide +kernel
theorem dX12_isAhead_16 : decode cX12_isAhead 16 = .ok (.ifCond .eq 21, 3) := by decide +kernel
theorem dX12_isAhead_19 : decode cX12_isAhead 19 = .ok (.aload_n 0, 1) := by decide +kernel
theorem dX12_isAhead_20 : decode cX12_isAhead 20 = .ok (.getfield 118, 3) := by decide +kernel
theorem dX12_isAhead_23 : decode cX12_isAhead 23 = .ok (.iconst 0, 1) := by decide +kernel
theorem dX12_isAhead_24 : decode cX12_isAhead 24 = .ok (.iaload, 1) := by decide +kernel
theorem dX12_isAhead_25 : decode cX12_isAhead 25 = .ok (.iload_n 1, 1) := by decide +kernel
theorem dX12_isAhead_26 : decode cX12_isAhead 26 = .ok (.iadd, 1) := by decide +kernel
theorem dX12_isAhead_27 : decode cX12_isAhead 27 = .ok (.sipush 999, 3) := by decide +kernel
theorem dX12_isAhead_30 : decode cX12_isAhead 30 = .ok (.if_icmp .gt 7, 3) := by decide +kernel
theorem dX12_isAhead_33 : decode cX12_isAhead 33 = .ok (.iconst 1, 1) := by decide +kernel
theorem dX12_isAhead_34 : decode cX12_isAhead 34 = .ok (.goto 4, 3) := by decide +kernel
theorem dX12_isAhead_37 : decode cX12_isAhead 37 = .ok (.iconst 0, 1) := by decide +kernel
theorem dX12_isAhead_38 : decode cX12_isAhead 38 = .ok (.ireturn, 1) := by decide +kernel
theorem dX12_bits_0 : decode cX12_bits 0 = .ok (.iconst 0, 1) := by decide +kernel
theorem dX12_bits_1 : decode cX12_bits 1 = .ok (.istore_n 1, 1) := by decide +kernel
theorem dX12_bits_2 : decode cX12_bits 2 = .ok (.iload_n 0, 1) := by decide +kernel
theorem dX12_bits_3 : decode cX12_bits 3 = .ok (.istore_n 2, 1) := by decide +kernel
theorem dX12_bits_4 : decode cX12_bits 4 = .ok (.iload_n 2, 1) := by decide +kernel
theorem dX12_bits_5 : decode cX12_bits 5 = .ok (.ifCond .eq 15, 3) := by decide +kernel
theorem dX12_bits_8 : decode cX12_bits 8 = .ok (.iinc 1 1, 3) := by decide +kernel
theorem dX12_bits_11 : decode cX12_bits 11 = .ok (.iload_n 2, 1) := by decide +kernel
theorem dX12_bits_12 : decode cX12_bits 12 = .ok (.iload_n 2, 1) := by decide +kernel
theorem dX12_bits_13 : decode cX12_bits 13 = .ok (.iconst 1, 1) := by decide +kernel
theorem dX12_bits_14 : decode cX12_bits 14 = .ok (.isub, 1) := by decide +kernel
theorem dX12_bits_15 : decode cX12_bits 15 = .ok (.iand, 1) := by decide +kernel
theorem dX12_bits_16 : decode cX12_bits 16 = .ok (.istore_n 2, 1) := by decide +kernel
theorem dX12_bits_17 : decode cX12_bits 17 = .ok (.goto (-13), 3) := by decide +kernel
theorem dX12_bits_20 : decode cX12_bits 20 = .ok (.iload_n 1, 1) := by decide +kernel
theorem dX12_bits_21 : decode cX12_bits 21 = .ok (.ireturn, 1) := by decide +kernel
theorem dX12_thereSet_0 : decode cX12_thereSet 0 = .ok (.iconst 0, 1) := by decide +kernel
theorem dX12_thereSet_1 : decode cX12_thereSet 1 = .ok (.istore_n 1, 1) := by decide +kernel
theorem dX12_thereSet_2 : decode cX12_thereSet 2 = .ok (.iconst 0, 1) := by decide +kernel
theorem dX12_thereSet_3 : decode cX12_thereSet 3 = .ok (.istore_n 2, 1) := by decide +kernel
theorem dX12_thereSet_4 : decode cX12_thereSet 4 = .ok (.iload_n 2, 1) := by decide +kernel
theorem dX12_thereSet_5 : decode cX12_thereSet 5 = .ok (.aload_n 0, 1) := by decide +kernel
theorem dX12_thereSet_6 : decode cX12_thereSet 6 = .ok (.invokevirtual 412, 3) := by decide +kernel
theorem dX12_thereSet_9 : decode cX12_thereSet 9 = .ok (.if_icmp .ge 23, 3) := by decide +kernel
theorem dX12_thereSet_12 : decode cX12_thereSet 12 = .ok (.aload_n 0, 1) := by decide +kernel
theorem dX12_thereSet_13 : decode cX12_thereSet 13 = .ok (.iload_n 2, 1) := by decide +kernel
theorem dX12_thereSet_14 : decode cX12_thereSet 14 = .ok (.invokevirtual 462, 3) := by decide +kernel
theorem dX12_thereSet_17 : decode cX12_thereSet 17 = .ok (.ifCond .eq 9, 3) := by decide +kernel
theorem dX12_thereSet_20 : decode cX12_thereSet 20 = .ok (.iload_n 1, 1) := by decide +kernel
theorem dX12_thereSet_21 : decode cX12_thereSet 21 = .ok (.iconst 1, 1) := by decide +kernel
theorem dX12_thereSet_22 : decode cX12_thereSet 22 = .ok (.iload_n 2, 1) := by decide +kernel
theorem dX12_thereSet_23 : decode cX12_thereSet 23 = .ok (.ishl, 1) := by decide +kernel
theorem dX12_thereSet_24 : decode cX12_thereSet 24 = .ok (.ior, 1) := by decide +kernel
theorem dX12_thereSet_25 : decode cX12_thereSet 25 = .ok (.istore_n 1, 1) := by decide +kernel
theorem dX12_thereSet_26 : decode cX12_thereSet 26 = .ok (.iinc 2 1, 3) := by decide +kernel
theorem dX12_thereSet_29 : decode cX12_thereSet 29 = .ok (.goto (-25), 3) := by decide +kernel
theorem dX12_thereSet_32 : decode cX12_thereSet 32 = .ok (.iload_n 1, 1) := by decide +kernel
theorem dX12_thereSet_33 : decode cX12_thereSet 33 = .ok (.ireturn, 1) := by decide +kernel
theorem dX12_feudMany_0 : decode cX12_feudMany 0 = .ok (.iconst 0, 1) := by decide +kernel
theorem dX12_feudMany_1 : decode cX12_feudMany 1 = .ok (.istore_n 1, 1) := by decide +kernel
theorem dX12_feudMany_2 : decode cX12_feudMany 2 = .ok (.iconst 0, 1) := by decide +kernel
theorem dX12_feudMany_3 : decode cX12_feudMany 3 = .ok (.istore_n 2, 1) := by decide +kernel
theorem dX12_feudMany_4 : decode cX12_feudMany 4 = .ok (.iload_n 2, 1) := by decide +kernel
theorem dX12_feudMany_5 : decode cX12_feudMany 5 = .ok (.bipush 21, 2) := by decide +kernel
theorem dX12_feudMany_7 : decode cX12_feudMany 7 = .ok (.if_icmp .ge 24, 3) := by decide +kernel
theorem dX12_feudMany_10 : decode cX12_feudMany 10 = .ok (.aload_n 0, 1) := by decide +kernel
theorem dX12_feudMany_11 : decode cX12_feudMany 11 = .ok (.getfield 118, 3) := by decide +kernel
theorem dX12_feudMany_14 : decode cX12_feudMany 14 = .ok (.bipush 22, 2) := by decide +kernel
theorem dX12_feudMany_16 : decode cX12_feudMany 16 = .ok (.iload_n 2, 1) := by decide +kernel
theorem dX12_feudMany_17 : decode cX12_feudMany 17 = .ok (.iadd, 1) := by decide +kernel
theorem dX12_feudMany_18 : decode cX12_feudMany 18 = .ok (.iaload, 1) := by decide +kernel
theorem dX12_feudMany_19 : decode cX12_feudMany 19 = .ok (.ifCond .le 6, 3) := by decide +kernel
theorem dX12_feudMany_22 : decode cX12_feudMany 22 = .ok (.iinc 1 1, 3) := by decide +kernel
theorem dX12_feudMany_25 : decode cX12_feudMany 25 = .ok (.iinc 2 1, 3) := by decide +kernel
theorem dX12_feudMany_28 : decode cX12_feudMany 28 = .ok (.goto (-24), 3) := by decide +kernel
theorem dX12_feudMany_31 : decode cX12_feudMany 31 = .ok (.iload_n 1, 1) := by decide +kernel
theorem dX12_feudMany_32 : decode cX12_feudMany 32 = .ok (.ireturn, 1) := by decide +kernel
theorem dX12_flourAll_0 : decode cX12_flourAll 0 = .ok (.iconst 0, 1) := by decide +kernel
theorem dX12_flourAll_1 : decode cX12_flourAll 1 = .ok (.istore_n 1, 1) := by decide +kernel
theorem dX12_flourAll_2 : decode cX12_flourAll 2 = .ok (.iconst 0, 1) := by decide +kernel
theorem dX12_flourAll_3 : decode cX12_flourAll 3 = .ok (.istore_n 2, 1) := by decide +kernel
theorem dX12_flourAll_4 : decode cX12_flourAll 4 = .ok (.iload_n 2, 1) := by decide +kernel
theorem dX12_flourAll_5 : decode cX12_flourAll 5 = .ok (.aload_n 0, 1) := by decide +kernel
theorem dX12_flourAll_6 : decode cX12_flourAll 6 = .ok (.invokevirtual 412, 3) := by decide +kernel
theorem dX12_flourAll_9 : decode cX12_flourAll 9 = .ok (.if_icmp .ge 25, 3) := by decide +kernel
theorem dX12_flourAll_12 : decode cX12_flourAll 12 = .ok (.aload_n 0, 1) := by decide +kernel
theorem dX12_flourAll_13 : decode cX12_flourAll 13 = .ok (.iload_n 2, 1) := by decide +kernel
theorem dX12_flourAll_14 : decode cX12_flourAll 14 = .ok (.invokevirtual 462, 3) := by decide +kernel
theorem dX12_flourAll_17 : decode cX12_flourAll 17 = .ok (.ifCond .eq 11, 3) := by decide +kernel
theorem dX12_flourAll_20 : decode cX12_flourAll 20 = .ok (.iload_n 1, 1) := by decide +kernel
theorem dX12_flourAll_21 : decode cX12_flourAll 21 = .ok (.aload_n 0, 1) := by decide +kernel
theorem dX12_flourAll_22 : decode cX12_flourAll 22 = .ok (.iload_n 2, 1) := by decide +kernel
theorem dX12_flourAll_23 : decode cX12_flourAll 23 = .ok (.invokevirtual 465, 3) := by decide +kernel
theorem dX12_flourAll_26 : decode cX12_flourAll 26 = .ok (.iadd, 1) := by decide +kernel
theorem dX12_flourAll_27 : decode cX12_flourAll 27 = .ok (.istore_n 1, 1) := by decide +kernel
theorem dX12_flourAll_28 : decode cX12_flourAll 28 = .ok (.iinc 2 1, 3) := by decide +kernel
theorem dX12_flourAll_31 : decode cX12_flourAll 31 = .ok (.goto (-27), 3) := by decide +kernel
theorem dX12_flourAll_34 : decode cX12_flourAll 34 = .ok (.iload_n 1, 1) := by decide +kernel
theorem dX12_flourAll_35 : decode cX12_flourAll 35 = .ok (.ireturn, 1) := by decide +kernel
theorem dX12_has_0 : decode cX12_has 0 = .ok (.iload_n 1, 1) := by decide +kernel
theorem dX12_has_1 : decode cX12_has 1 = .ok (.tableswitch 106 0 8 #[51, 58, 63, 70, 78, 83, 88, 96, 101], 51) := by decide +kernel
theorem dX12_has_52 : decode cX12_has 52 = .ok (.aload_n 0, 1) := by decide +kernel
theorem dX12_has_53 : decode cX12_has 53 = .ok (.getfield 93, 3) := by decide +kernel
theorem dX12_has_56 : decode cX12_has 56 = .ok (.iconst 2, 1) := by decide +kernel
theorem dX12_has_57 : decode cX12_has 57 = .ok (.iaload, 1) := by decide +kernel
theorem dX12_has_58 : decode cX12_has 58 = .ok (.ireturn, 1) := by decide +kernel
theorem dX12_has_59 : decode cX12_has 59 = .ok (.aload_n 0, 1) := by decide +kernel
theorem dX12_has_60 : decode cX12_has 60 = .ok (.invokevirtual 412, 3) := by decide +kernel
theorem dX12_has_63 : decode cX12_has 63 = .ok (.ireturn, 1) := by decide +kernel
theorem dX12_has_64 : decode cX12_has 64 = .ok (.aload_n 0, 1) := by decide +kernel
theorem dX12_has_65 : decode cX12_has 65 = .ok (.getfield 118, 3) := by decide +kernel
theorem dX12_has_68 : decode cX12_has 68 = .ok (.iconst 0, 1) := by decide +kernel
theorem dX12_has_69 : decode cX12_has 69 = .ok (.iaload, 1) := by decide +kernel
theorem dX12_has_70 : decode cX12_has 70 = .ok (.ireturn, 1) := by decide +kernel
theorem dX12_has_71 : decode cX12_has 71 = .ok (.aload_n 0, 1) := by decide +kernel
theorem dX12_has_72 : decode cX12_has 72 = .ok (.invokevirtual 522, 3) := by decide +kernel
theorem dX12_has_75 : decode cX12_has 75 = .ok (.invokestatic 525, 3) := by decide +kernel
theorem dX12_has_78 : decode cX12_has 78 = .ok (.ireturn, 1) := by decide +kernel
theorem dX12_has_79 : decode cX12_has 79 = .ok (.aload_n 0, 1) := by decide +kernel
theorem dX12_has_80 : decode cX12_has 80 = .ok (.invokevirtual 528, 3) := by decide +kernel
theorem dX12_has_83 : decode cX12_has 83 = .ok (.ireturn, 1) := by decide +kernel
theorem dX12_has_84 : decode cX12_has 84 = .ok (.aload_n 0, 1) := by decide +kernel
theorem dX12_has_85 : decode cX12_has 85 = .ok (.invokevirtual 531, 3) := by decide +kernel
theorem dX12_has_88 : decode cX12_has 88 = .ok (.ireturn, 1) := by decide +kernel
theorem dX12_has_89 : decode cX12_has 89 = .ok (.aload_n 0, 1) := by decide +kernel
theorem dX12_has_90 : decode cX12_has 90 = .ok (.getfield 118, 3) := by decide +kernel
theorem dX12_has_93 : decode cX12_has 93 = .ok (.bipush 43, 2) := by decide +kernel
theorem dX12_has_95 : decode cX12_has 95 = .ok (.iaload, 1) := by decide +kernel
theorem dX12_has_96 : decode cX12_has 96 = .ok (.ireturn, 1) := by decide +kernel
theorem dX12_has_97 : decode cX12_has 97 = .ok (.aload_n 0, 1) := by decide +kernel
theorem dX12_has_98 : decode cX12_has 98 = .ok (.getfield 409, 3) := by decide +kernel
theorem dX12_has_101 : decode cX12_has 101 = .ok (.ireturn, 1) := by decide +kernel
theorem dX12_has_102 : decode cX12_has 102 = .ok (.aload_n 0, 1) := by decide +kernel
theorem dX12_has_103 : decode cX12_has 103 = .ok (.getfield 406, 3) := by decide +kernel
theorem dX12_has_106 : decode cX12_has 106 = .ok (.ireturn, 1) := by decide +kernel
theorem dX12_has_107 : decode cX12_has 107 = .ok (.iconst (-1), 1) := by decide +kernel
theorem dX12_has_108 : decode cX12_has 108 = .ok (.ireturn, 1) := by decide +kernel
theorem dX12_letter_0 : decode cX12_letter 0 = .ok (.aload_n 0, 1) := by decide +kernel
theorem dX12_letter_1 : decode cX12_letter 1 = .ok (.iload_n 1, 1) := by decide +kernel
theorem dX12_letter_2 : decode cX12_letter 2 = .ok (.i2l, 1) := by decide +kernel
theorem dX12_letter_3 : decode cX12_letter 3 = .ok (.invokevirtual 534, 3) := by decide +kernel
theorem dX12_letter_6 : decode cX12_letter 6 = .ok (.ifCond .eq 15, 3) := by decide +kernel
theorem dX12_letter_9 : decode cX12_letter 9 = .ok (.iload_n 2, 1) := by decide +kernel
theorem dX12_letter_10 : decode cX12_letter 10 = .ok (.i2l, 1) := by decide +kernel
theorem dX12_letter_11 : decode cX12_letter 11 = .ok (.lconst 0, 1) := by decide +kernel
theorem dX12_letter_12 : decode cX12_letter 12 = .ok (.ldc2_w 323, 3) := by decide +kernel
theorem dX12_letter_15 : decode cX12_letter 15 = .ok (.invokestatic 303, 3) := by decide +kernel
theorem dX12_letter_18 : decode cX12_letter 18 = .ok (.ifCond .ne 5, 3) := by decide +kernel
theorem dX12_letter_21 : decode cX12_letter 21 = .ok (.iconst (-1), 1) := by decide +kernel
theorem dX12_letter_22 : decode cX12_letter 22 = .ok (.ireturn, 1) := by decide +kernel
theorem dX12_letter_23 : decode cX12_letter 23 = .ok (.aload_n 0, 1) := by decide +kernel
theorem dX12_letter_24 : decode cX12_letter 24 = .ok (.getfield 96, 3) := by decide +kernel
theorem dX12_letter_27 : decode cX12_letter 27 = .ok (.bipush 7, 2) := by decide +kernel
theorem dX12_letter_29 : decode cX12_letter 29 = .ok (.iload_n 1, 1) := by decide +kernel
theorem dX12_letter_30 : decode cX12_letter 30 = .ok (.iadd, 1) := by decide +kernel
theorem dX12_letter_31 : decode cX12_letter 31 = .ok (.laload, 1) := by decide +kernel
theorem dX12_letter_32 : decode cX12_letter 32 = .ok (.lstore_n 3, 1) := by decide +kernel
theorem dX12_letter_33 : decode cX12_letter 33 = .ok (.iconst 0, 1) := by decide +kernel
theorem dX12_letter_34 : decode cX12_letter 34 = .ok (.istore 5, 2) := by decide +kernel
theorem dX12_letter_36 : decode cX12_letter 36 = .ok (.lload_n 3, 1) := by decide +kernel
theorem dX12_letter_37 : decode cX12_letter 37 = .ok (.lstore 6, 2) := by decide +kernel
theorem dX12_letter_39 : decode cX12_letter 39 = .ok (.lload 6, 2) := by decide +kernel
theorem dX12_letter_41 : decode cX12_letter 41 = .ok (.lconst 0, 1) := by decide +kernel
theorem dX12_letter_42 : decode cX12_letter 42 = .ok (.lcmp, 1) := by decide +kernel
theorem dX12_letter_43 : decode cX12_letter 43 = .ok (.ifCond .le 17, 3) := by decide +kernel
theorem dX12_letter_46 : decode cX12_letter 46 = .ok (.iinc 5 1, 3) := by decide +kernel
theorem dX12_letter_49 : decode cX12_letter 49 = .ok (.lload 6, 2) := by decide +kernel
theorem dX12_letter_51 : decode cX12_letter 51 = .ok (.ldc2_w 314, 3) := by decide +kernel
theorem dX12_letter_54 : decode cX12_letter 54 = .ok (.ldiv, 1) := by decide +kernel
theorem dX12_letter_55 : decode cX12_letter 55 = .ok (.lstore 6, 2) := by decide +kernel
theorem dX12_letter_57 : decode cX12_letter 57 = .ok (.goto (-18), 3) := by decide +kernel
theorem dX12_letter_60 : decode cX12_letter 60 = .ok (.iload_n 2, 1) := by decide +kernel
theorem dX12_letter_61 : decode cX12_letter 61 = .ok (.iload 5, 2) := by decide +kernel
theorem dX12_letter_63 : decode cX12_letter 63 = .ok (.if_icmp .lt 5, 3) := by decide +kernel
theorem dX12_letter_66 : decode cX12_letter 66 = .ok (.iconst 0, 1) := by decide +kernel
theorem dX12_letter_67 : decode cX12_letter 67 = .ok (.ireturn, 1) := by decide +kernel
theorem dX12_letter_68 : decode cX12_letter 68 = .ok (.iload 5, 2) := by decide +kernel
theorem dX12_letter_70 : decode cX12_letter 70 = .ok (.iconst 1, 1) := by decide +kernel
theorem dX12_letter_71 : decode cX12_letter 71 = .ok (.isub, 1) := by decide +kernel
theorem dX12_letter_72 : decode cX12_letter 72 = .ok (.istore 6, 2) := by decide +kernel
theorem dX12_letter_74 : decode cX12_letter 74 = .ok (.iload 6, 2) := by decide +kernel
theorem dX12_letter_76 : decode cX12_letter 76 = .ok (.iload_n 2, 1) := by decide +kernel
theorem dX12_letter_77 : decode cX12_letter 77 = .ok (.if_icmp .le 15, 3) := by decide +kernel
theorem dX12_letter_80 : decode cX12_letter 80 = .ok (.lload_n 3, 1) := by decide +kernel
theorem dX12_letter_81 : decode cX12_letter 81 = .ok (.ldc2_w 314, 3) := by decide +kernel
theorem dX12_letter_84 : decode cX12_letter 84 = .ok (.ldiv, 1) := by decide +kernel
theorem dX12_letter_85 : decode cX12_letter 85 = .ok (.lstore_n 3, 1) := by decide +kernel
theorem dX12_letter_86 : decode cX12_letter 86 = .ok (.iinc 6 (-1), 3) := by decide +kernel
theorem dX12_letter_89 : decode cX12_letter 89 = .ok (.goto (-15), 3) := by decide +kernel
theorem dX12_letter_92 : decode cX12_letter 92 = .ok (.lload_n 3, 1) := by decide +kernel
theorem dX12_letter_93 : decode cX12_letter 93 = .ok (.ldc2_w 314, 3) := by decide +kernel
theorem dX12_letter_96 : decode cX12_letter 96 = .ok (.lrem, 1) := by decide +kernel
theorem dX12_letter_97 : decode cX12_letter 97 = .ok (.l2i, 1) := by decide +kernel
theorem dX12_letter_98 : decode cX12_letter 98 = .ok (.ireturn, 1) := by decide +kernel
theorem dX12_house_0 : decode cX12_house 0 = .ok (.aload_n 0, 1) := by decide +kernel
theorem dX12_house_1 : decode cX12_house 1 = .ok (.iload_n 1, 1) := by decide +kernel
theorem dX12_house_2 : decode cX12_house 2 = .ok (.i2l, 1) := by decide +kernel
theorem dX12_house_3 : decode cX12_house 3 = .ok (.invokevirtual 534, 3) := by decide +kernel
theorem dX12_house_6 : decode cX12_house 6 = .ok (.ifCond .ne 5, 3) := by decide +kernel
theorem dX12_house_9 : decode cX12_house 9 = .ok (.iconst (-1), 1) := by decide +kernel
theorem dX12_house_10 : decode cX12_house 10 = .ok (.ireturn, 1) := by decide +kernel
theorem dX12_house_11 : decode cX12_house 11 = .ok (.iload_n 2, 1) := by decide +kernel
theorem dX12_house_12 : decode cX12_house 12 = .ok (.tableswitch 75 0 4 #[36, 42, 52, 58, 69], 36) := by decide +kernel
theorem dX12_house_48 : decode cX12_house 48 = .ok (.aload_n 0, 1) := by decide +kernel
theorem dX12_house_49 : decode cX12_house 49 = .ok (.iload_n 1, 1) := by decide +kernel
theorem dX12_house_50 : decode cX12_house 50 = .ok (.invokevirtual 465, 3) := by decide +kernel
theorem dX12_house_53 : decode cX12_house 53 = .ok (.ireturn, 1) := by decide +kernel
theorem dX12_house_54 : decode cX12_house 54 = .ok (.aload_n 0, 1) := by decide +kernel
theorem dX12_house_55 : decode cX12_house 55 = .ok (.getfield 103, 3) := by decide +kernel
theorem dX12_house_58 : decode cX12_house 58 = .ok (.bipush 7, 2) := by decide +kernel
theorem dX12_house_60 : decode cX12_house 60 = .ok (.iload_n 1, 1) := by decide +kernel
theorem dX12_house_61 : decode cX12_house 61 = .ok (.iadd, 1) := by decide +kernel
theorem dX12_house_62 : decode cX12_house 62 = .ok (.iaload, 1) := by decide +kernel
theorem dX12_house_63 : decode cX12_house 63 = .ok (.ireturn, 1) := by decide +kernel
theorem dX12_house_64 : decode cX12_house 64 = .ok (.aload_n 0, 1) := by decide +kernel
theorem dX12_house_65 : decode cX12_house 65 = .ok (.iload_n 1, 1) := by decide +kernel
theorem dX12_house_66 : decode cX12_house 66 = .ok (.invokevirtual 459, 3) := by decide +kernel
theorem dX12_house_69 : decode cX12_house 69 = .ok (.ireturn, 1) := by decide +kernel
theorem dX12_house_70 : decode cX12_house 70 = .ok (.aload_n 0, 1) := by decide +kernel
theorem dX12_house_71 : decode cX12_house 71 = .ok (.getfield 118, 3) := by decide +kernel
theorem dX12_house_74 : decode cX12_house 74 = .ok (.iconst 1, 1) := by decide +kernel
theorem dX12_house_75 : decode cX12_house 75 = .ok (.iconst 3, 1) := by decide +kernel
theorem dX12_house_76 : decode cX12_house 76 = .ok (.iload_n 1, 1) := by decide +kernel
theorem dX12_house_77 : decode cX12_house 77 = .ok (.imul, 1) := by decide +kernel
theorem dX12_house_78 : decode cX12_house 78 = .ok (.iadd, 1) := by decide +kernel
theorem dX12_house_79 : decode cX12_house 79 = .ok (.iaload, 1) := by decide +kernel
theorem dX12_house_80 : decode cX12_house 80 = .ok (.ireturn, 1) := by decide +kernel
theorem dX12_house_81 : decode cX12_house 81 = .ok (.aload_n 0, 1) := by decide +kernel
theorem dX12_house_82 : decode cX12_house 82 = .ok (.iload_n 1, 1) := by decide +kernel
theorem dX12_house_83 : decode cX12_house 83 = .ok (.invokevirtual 538, 3) := by decide +kernel
theorem dX12_house_86 : decode cX12_house 86 = .ok (.ireturn, 1) := by decide +kernel
theorem dX12_house_87 : decode cX12_house 87 = .ok (.iconst (-1), 1) := by decide +kernel
theorem dX12_house_88 : decode cX12_house 88 = .ok (.ireturn, 1) := by decide +kernel
theorem dX12_areTwo_0 : decode cX12_areTwo 0 = .ok (.aload_n 0, 1) := by decide +kernel
theorem dX12_areTwo_1 : decode cX12_areTwo 1 = .ok (.iload_n 1, 1) := by decide +kernel
theorem dX12_areTwo_2 : decode cX12_areTwo 2 = .ok (.i2l, 1) := by decide +kernel
theorem dX12_areTwo_3 : decode cX12_areTwo 3 = .ok (.invokevirtual 534, 3) := by decide +kernel
theorem dX12_areTwo_6 : decode cX12_areTwo 6 = .ok (.ifCond .eq 21, 3) := by decide +kernel
theorem dX12_areTwo_9 : decode cX12_areTwo 9 = .ok (.aload_n 0, 1) := by decide +kernel
theorem dX12_areTwo_10 : decode cX12_areTwo 10 = .ok (.iload_n 2, 1) := by decide +kernel
theorem dX12_areTwo_11 : decode cX12_areTwo 11 = .ok (.i2l, 1) := by decide +kernel
theorem dX12_areTwo_12 : decode cX12_areTwo 12 = .ok (.invokevirtual 534, 3) := by decide +kernel
theorem dX12_areTwo_15 : decode cX12_areTwo 15 = .ok (.ifCond .eq 12, 3) := by decide +kernel
theorem dX12_areTwo_18 : decode cX12_areTwo 18 = .ok (.iload_n 1, 1) := by decide +kernel
theorem dX12_areTwo_19 : decode cX12_areTwo 19 = .ok (.iload_n 2, 1) := by decide +kernel
theorem dX12_areTwo_20 : decode cX12_areTwo 20 = .ok (.if_icmp .eq 7, 3) := by decide +kernel
theorem dX12_areTwo_23 : decode cX12_areTwo 23 = .ok (.iconst 1, 1) := by decide +kernel
theorem dX12_areTwo_24 : decode cX12_areTwo 24 = .ok (.goto 4, 3) := by decide +kernel
theorem dX12_areTwo_27 : decode cX12_areTwo 27 = .ok (.iconst 0, 1) := by decide +kernel
theorem dX12_areTwo_28 : decode cX12_areTwo 28 = .ok (.ireturn, 1) := by decide +kernel
theorem dX12_hate_0 : decode cX12_hate 0 = .ok (.aload_n 0, 1) := by decide +kernel
theorem dX12_hate_1 : decode cX12_hate 1 = .ok (.iload_n 1, 1) := by decide +kernel
theorem dX12_hate_2 : decode cX12_hate 2 = .ok (.iload_n 2, 1) := by decide +kernel
theorem dX12_hate_3 : decode cX12_hate 3 = .ok (.invokevirtual 541, 3) := by decide +kernel
theorem dX12_hate_6 : decode cX12_hate 6 = .ok (.ifCond .eq 12, 3) := by decide +kernel
theorem dX12_hate_9 : decode cX12_hate 9 = .ok (.aload_n 0, 1) := by decide +kernel
theorem dX12_hate_10 : decode cX12_hate 10 = .ok (.iload_n 1, 1) := by decide +kernel
theorem dX12_hate_11 : decode cX12_hate 11 = .ok (.iload_n 2, 1) := by decide +kernel
theorem dX12_hate_12 : decode cX12_hate 12 = .ok (.invokevirtual 415, 3) := by decide +kernel
theorem dX12_hate_15 : decode cX12_hate 15 = .ok (.goto 4, 3) := by decide +kernel
theorem dX12_hate_18 : decode cX12_hate 18 = .ok (.iconst (-1), 1) := by decide +kernel
theorem dX12_hate_19 : decode cX12_hate 19 = .ok (.ireturn, 1) := by decide +kernel
theorem dX12_baker_0 : decode cX12_baker 0 = .ok (.aload_n 0, 1) := by decide +kernel
theorem dX12_baker_1 : decode cX12_baker 1 = .ok (.iload_n 1, 1) := by decide +kernel
theorem dX12_baker_2 : decode cX12_baker 2 = .ok (.i2l, 1) := by decide +kernel
theorem dX12_baker_3 : decode cX12_baker 3 = .ok (.invokevirtual 534, 3) := by decide +kernel
theorem dX12_baker_6 : decode cX12_baker 6 = .ok (.ifCond .eq 11, 3) := by decide +kernel
theorem dX12_baker_9 : decode cX12_baker 9 = .ok (.aload_n 0, 1) := by decide +kernel
theorem dX12_baker_10 : decode cX12_baker 10 = .ok (.iload_n 1, 1) := by decide +kernel
theorem dX12_baker_11 : decode cX12_baker 11 = .ok (.invokevirtual 462, 3) := by decide +kernel
theorem dX12_baker_14 : decode cX12_baker 14 = .ok (.ifCond .ne 5, 3) := by decide +kernel
theorem dX12_baker_17 : decode cX12_baker 17 = .ok (.iconst (-1), 1) := by decide +kernel
theorem dX12_baker_18 : decode cX12_baker 18 = .ok (.ireturn, 1) := by decide +kernel
theorem dX12_baker_19 : decode cX12_baker 19 = .ok (.aload_n 0, 1) := by decide +kernel
theorem dX12_baker_20 : decode cX12_baker 20 = .ok (.invokevirtual 544, 3) := by decide +kernel
theorem dX12_baker_23 : decode cX12_baker 23 = .ok (.aload_n 0, 1) := by decide +kernel
theorem dX12_baker_24 : decode cX12_baker 24 = .ok (.invokevirtual 501, 3) := by decide +kernel
theorem dX12_baker_27 : decode cX12_baker 27 = .ok (.aload_n 0, 1) := by decide +kernel
theorem dX12_baker_28 : decode cX12_baker 28 = .ok (.getfield 127, 3) := by decide +kernel
theorem dX12_baker_31 : decode cX12_baker 31 = .ok (.iload_n 1, 1) := by decide +kernel
theorem dX12_baker_32 : decode cX12_baker 32 = .ok (.iaload, 1) := by decide +kernel
theorem dX12_baker_33 : decode cX12_baker 33 = .ok (.istore_n 2, 1) := by decide +kernel
theorem dX12_baker_34 : decode cX12_baker 34 = .ok (.aload_n 0, 1) := by decide +kernel
theorem dX12_baker_35 : decode cX12_baker 35 = .ok (.invokevirtual 547, 3) := by decide +kernel
theorem dX12_baker_38 : decode cX12_baker 38 = .ok (.iload_n 2, 1) := by decide +kernel
theorem dX12_baker_39 : decode cX12_baker 39 = .ok (.ireturn, 1) := by decide +kernel
theorem dX12_taste_0 : decode cX12_taste 0 = .ok (.aload_n 0, 1) := by decide +kernel
theorem dX12_taste_1 : decode cX12_taste 1 = .ok (.iload_n 1, 1) := by decide +kernel
theorem dX12_taste_2 : decode cX12_taste 2 = .ok (.iload_n 2, 1) := by decide +kernel
theorem dX12_taste_3 : decode cX12_taste 3 = .ok (.invokevirtual 541, 3) := by decide +kernel
theorem dX12_taste_6 : decode cX12_taste 6 = .ok (.ifCond .eq 21, 3) := by decide +kernel
theorem dX12_taste_9 : decode cX12_taste 9 = .ok (.aload_n 0, 1) := by decide +kernel
theorem dX12_taste_10 : decode cX12_taste 10 = .ok (.iload_n 1, 1) := by decide +kernel
theorem dX12_taste_11 : decode cX12_taste 11 = .ok (.iload_n 2, 1) := by decide +kernel
theorem dX12_taste_12 : decode cX12_taste 12 = .ok (.invokevirtual 418, 3) := by decide +kernel
theorem dX12_taste_15 : decode cX12_taste 15 = .ok (.ifCond .eq 12, 3) := by decide +kernel
theorem dX12_taste_18 : decode cX12_taste 18 = .ok (.aload_n 0, 1) := by decide +kernel
theorem dX12_taste_19 : decode cX12_taste 19 = .ok (.iload_n 1, 1) := by decide +kernel
theorem dX12_taste_20 : decode cX12_taste 20 = .ok (.iload_n 2, 1) := by decide +kernel
theorem dX12_taste_21 : decode cX12_taste 21 = .ok (.invokevirtual 486, 3) := by decide +kernel
theorem dX12_taste_24 : decode cX12_taste 24 = .ok (.goto 4, 3) := by decide +kernel
theorem dX12_taste_27 : decode cX12_taste 27 = .ok (.iconst (-1), 1) := by decide +kernel
theorem dX12_taste_28 : decode cX12_taste 28 = .ok (.ireturn, 1) := by decide +kernel
theorem dX12_kept_0 : decode cX12_kept 0 = .ok (.iload_n 1, 1) := by decide +kernel
theorem dX12_kept_1 : decode cX12_kept 1 = .ok (.i2l, 1) := by decide +kernel
theorem dX12_kept_2 : decode cX12_kept 2 = .ok (.lconst 0, 1) := by decide +kernel
theorem dX12_kept_3 : decode cX12_kept 3 = .ok (.aload_n 0, 1) := by decide +kernel
theorem dX12_kept_4 : decode cX12_kept 4 = .ok (.getfield 118, 3) := by decide +kernel
theorem dX12_kept_7 : decode cX12_kept 7 = .ok (.bipush 43, 2) := by decide +kernel
theorem dX12_kept_9 : decode cX12_kept 9 = .ok (.iaload, 1) := by decide +kernel
theorem dX12_kept_10 : decode cX12_kept 10 = .ok (.iconst 1, 1) := by decide +kernel
theorem dX12_kept_11 : decode cX12_kept 11 = .ok (.isub, 1) := by decide +kernel
theorem dX12_kept_12 : decode cX12_kept 12 = .ok (.i2l, 1) := by decide +kernel
theorem dX12_kept_13 : decode cX12_kept 13 = .ok (.invokestatic 303, 3) := by decide +kernel
theorem dX12_kept_16 : decode cX12_kept 16 = .ok (.ifCond .eq 31, 3) := by decide +kernel
theorem dX12_kept_19 : decode cX12_kept 19 = .ok (.iload_n 2, 1) := by decide +kernel
theorem dX12_kept_20 : decode cX12_kept 20 = .ok (.i2l, 1) := by decide +kernel
theorem dX12_kept_21 : decode cX12_kept 21 = .ok (.lconst 0, 1) := by decide +kernel
theorem dX12_kept_22 : decode cX12_kept 22 = .ok (.ldc2_w 321, 3) := by decide +kernel
theorem dX12_kept_25 : decode cX12_kept 25 = .ok (.invokestatic 303, 3) := by decide +kernel
theorem dX12_kept_28 : decode cX12_kept 28 = .ok (.ifCond .eq 19, 3) := by decide +kernel
theorem dX12_kept_31 : decode cX12_kept 31 = .ok (.aload_n 0, 1) := by decide +kernel
theorem dX12_kept_32 : decode cX12_kept 32 = .ok (.getfield 118, 3) := by decide +kernel
theorem dX12_kept_35 : decode cX12_kept 35 = .ok (.bipush 44, 2) := by decide +kernel
theorem dX12_kept_37 : decode cX12_kept 37 = .ok (.iconst 4, 1) := by decide +kernel
theorem dX12_kept_38 : decode cX12_kept 38 = .ok (.iload_n 1, 1) := by decide +kernel
theorem dX12_kept_39 : decode cX12_kept 39 = .ok (.imul, 1) := by decide +kernel
theorem dX12_kept_40 : decode cX12_kept 40 = .ok (.iadd, 1) := by decide +kernel
theorem dX12_kept_41 : decode cX12_kept 41 = .ok (.iload_n 2, 1) := by decide +kernel
theorem dX12_kept_42 : decode cX12_kept 42 = .ok (.iadd, 1) := by decide +kernel
theorem dX12_kept_43 : decode cX12_kept 43 = .ok (.iaload, 1) := by decide +kernel
theorem dX12_kept_44 : decode cX12_kept 44 = .ok (.goto 4, 3) := by decide +kernel
theorem dX12_kept_47 : decode cX12_kept 47 = .ok (.iconst (-1), 1) := by decide +kernel
theorem dX12_kept_48 : decode cX12_kept 48 = .ok (.ireturn, 1) := by decide +kernel
theorem dX12_later_0 : decode cX12_later 0 = .ok (.aload_n 0, 1) := by decide +kernel
theorem dX12_later_1 : decode cX12_later 1 = .ok (.iload_n 1, 1) := by decide +kernel
theorem dX12_later_2 : decode cX12_later 2 = .ok (.i2l, 1) := by decide +kernel
theorem dX12_later_3 : decode cX12_later 3 = .ok (.invokevirtual 534, 3) := by decide +kernel
theorem dX12_later_6 : decode cX12_later 6 = .ok (.ifCond .eq 26, 3) := by decide +kernel
theorem dX12_later_9 : decode cX12_later 9 = .ok (.aload_n 0, 1) := by decide +kernel
theorem dX12_later_10 : decode cX12_later 10 = .ok (.iload_n 2, 1) := by decide +kernel
theorem dX12_later_11 : decode cX12_later 11 = .ok (.iconst 0, 1) := by decide +kernel
theorem dX12_later_12 : decode cX12_later 12 = .ok (.bipush 60, 2) := by decide +kernel
theorem dX12_later_14 : decode cX12_later 14 = .ok (.invokevirtual 550, 3) := by decide +kernel
theorem dX12_later_17 : decode cX12_later 17 = .ok (.ifCond .eq 15, 3) := by decide +kernel
theorem dX12_later_20 : decode cX12_later 20 = .ok (.iload_n 3, 1) := by decide +kernel
theorem dX12_later_21 : decode cX12_later 21 = .ok (.i2l, 1) := by decide +kernel
theorem dX12_later_22 : decode cX12_later 22 = .ok (.lconst 0, 1) := by decide +kernel
theorem dX12_later_23 : decode cX12_later 23 = .ok (.ldc2_w 554, 3) := by decide +kernel
theorem dX12_later_26 : decode cX12_later 26 = .ok (.invokestatic 303, 3) := by decide +kernel
theorem dX12_later_29 : decode cX12_later 29 = .ok (.ifCond .ne 5, 3) := by decide +kernel
theorem dX12_later_32 : decode cX12_later 32 = .ok (.iconst (-1), 1) := by decide +kernel
theorem dX12_later_33 : decode cX12_later 33 = .ok (.ireturn, 1) := by decide +kernel
theorem dX12_later_34 : decode cX12_later 34 = .ok (.aload_n 0, 1) := by decide +kernel
theorem dX12_later_35 : decode cX12_later 35 = .ok (.invokevirtual 544, 3) := by decide +kernel
theorem dX12_later_38 : decode cX12_later 38 = .ok (.aload_n 0, 1) := by decide +kernel
theorem dX12_later_39 : decode cX12_later 39 = .ok (.iload_n 2, 1) := by decide +kernel
theorem dX12_later_40 : decode cX12_later 40 = .ok (.invokevirtual 556, 3) := by decide +kernel
theorem dX12_later_43 : decode cX12_later 43 = .ok (.iload_n 3, 1) := by decide +kernel
theorem dX12_later_44 : decode cX12_later 44 = .ok (.ifCond .ne 11, 3) := by decide +kernel
theorem dX12_later_47 : decode cX12_later 47 = .ok (.aload_n 0, 1) := by decide +kernel
theorem dX12_later_48 : decode cX12_later 48 = .ok (.iload_n 1, 1) := by decide +kernel
theorem dX12_later_49 : decode cX12_later 49 = .ok (.invokevirtual 465, 3) := by decide +kernel
theorem dX12_later_52 : decode cX12_later 52 = .ok (.goto 26, 3) := by decide +kernel
theorem dX12_later_55 : decode cX12_later 55 = .ok (.iload_n 3, 1) := by decide +kernel
theorem dX12_later_56 : decode cX12_later 56 = .ok (.iconst 1, 1) := by decide +kernel
theorem dX12_later_57 : decode cX12_later 57 = .ok (.if_icmp .ne 11, 3) := by decide +kernel
theorem dX12_later_60 : decode cX12_later 60 = .ok (.aload_n 0, 1) := by decide +kernel
theorem dX12_later_61 : decode cX12_later 61 = .ok (.iload_n 1, 1) := by decide +kernel
theorem dX12_later_62 : decode cX12_later 62 = .ok (.invokevirtual 459, 3) := by decide +kernel
theorem dX12_later_65 : decode cX12_later 65 = .ok (.goto 13, 3) := by decide +kernel
theorem dX12_later_68 : decode cX12_later 68 = .ok (.aload_n 0, 1) := by decide +kernel
theorem dX12_later_69 : decode cX12_later 69 = .ok (.getfield 118, 3) := by decide +kernel
theorem dX12_later_72 : decode cX12_later 72 = .ok (.iconst 1, 1) := by decide +kernel
theorem dX12_later_73 : decode cX12_later 73 = .ok (.iconst 3, 1) := by decide +kernel
theorem dX12_later_74 : decode cX12_later 74 = .ok (.iload_n 1, 1) := by decide +kernel
theorem dX12_later_75 : decode cX12_later 75 = .ok (.imul, 1) := by decide +kernel
theorem dX12_later_76 : decode cX12_later 76 = .ok (.iadd, 1) := by decide +kernel
theorem dX12_later_77 : decode cX12_later 77 = .ok (.iaload, 1) := by decide +kernel
theorem dX12_later_78 : decode cX12_later 78 = .ok (.istore 4, 2) := by decide +kernel
theorem dX12_later_80 : decode cX12_later 80 = .ok (.aload_n 0, 1) := by decide +kernel
theorem dX12_later_81 : decode cX12_later 81 = .ok (.invokevirtual 547, 3) := by decide +kernel
theorem dX12_later_84 : decode cX12_later 84 = .ok (.iload 4, 2) := by decide +kernel
theorem dX12_later_86 : decode cX12_later 86 = .ok (.ireturn, 1) := by decide +kernel
theorem dX12_cooled_0 : decode cX12_cooled 0 = .ok (.aload_n 0, 1) := by decide +kernel
theorem dX12_cooled_1 : decode cX12_cooled 1 = .ok (.iload_n 1, 1) := by decide +kernel
theorem dX12_cooled_2 : decode cX12_cooled 2 = .ok (.iload_n 2, 1) := by decide +kernel
theorem dX12_cooled_3 : decode cX12_cooled 3 = .ok (.invokevirtual 541, 3) := by decide +kernel
theorem dX12_cooled_6 : decode cX12_cooled 6 = .ok (.ifCond .eq 14, 3) := by decide +kernel
theorem dX12_cooled_9 : decode cX12_cooled 9 = .ok (.aload_n 0, 1) := by decide +kernel
theorem dX12_cooled_10 : decode cX12_cooled 10 = .ok (.iload_n 3, 1) := by decide +kernel
theorem dX12_cooled_11 : decode cX12_cooled 11 = .ok (.iconst 0, 1) := by decide +kernel
theorem dX12_cooled_12 : decode cX12_cooled 12 = .ok (.bipush 60, 2) := by decide +kernel
theorem dX12_cooled_14 : decode cX12_cooled 14 = .ok (.invokevirtual 550, 3) := by decide +kernel
theorem dX12_cooled_17 : decode cX12_cooled 17 = .ok (.ifCond .ne 5, 3) := by decide +kernel
theorem dX12_cooled_20 : decode cX12_cooled 20 = .ok (.iconst (-1), 1) := by decide +kernel
theorem dX12_cooled_21 : decode cX12_cooled 21 = .ok (.ireturn, 1) := by decide +kernel
theorem dX12_cooled_22 : decode cX12_cooled 22 = .ok (.aload_n 0, 1) := by decide +kernel
theorem dX12_cooled_23 : decode cX12_cooled 23 = .ok (.invokevirtual 544, 3) := by decide +kernel
theorem dX12_cooled_26 : decode cX12_cooled 26 = .ok (.aload_n 0, 1) := by decide +kernel
theorem dX12_cooled_27 : decode cX12_cooled 27 = .ok (.iload_n 3, 1) := by decide +kernel
theorem dX12_cooled_28 : decode cX12_cooled 28 = .ok (.invokevirtual 556, 3) := by decide +kernel
theorem dX12_cooled_31 : decode cX12_cooled 31 = .ok (.aload_n 0, 1) := by decide +kernel
theorem dX12_cooled_32 : decode cX12_cooled 32 = .ok (.iload_n 1, 1) := by decide +kernel
theorem dX12_cooled_33 : decode cX12_cooled 33 = .ok (.iload_n 2, 1) := by decide +kernel
theorem dX12_cooled_34 : decode cX12_cooled 34 = .ok (.invokevirtual 415, 3) := by decide +kernel
theorem dX12_cooled_37 : decode cX12_cooled 37 = .ok (.istore 4, 2) := by decide +kernel
theorem dX12_cooled_39 : decode cX12_cooled 39 = .ok (.aload_n 0, 1) := by decide +kernel
theorem dX12_cooled_40 : decode cX12_cooled 40 = .ok (.invokevirtual 547, 3) := by decide +kernel
theorem dX12_cooled_43 : decode cX12_cooled 43 = .ok (.iload 4, 2) := by decide +kernel
theorem dX12_cooled_45 : decode cX12_cooled 45 = .ok (.ireturn, 1) := by decide +kernel
theorem dX12_starves_0 : decode cX12_starves 0 = .ok (.aload_n 0, 1) := by decide +kernel
theorem dX12_starves_1 : decode cX12_starves 1 = .ok (.iload_n 1, 1) := by decide +kernel
theorem dX12_starves_2 : decode cX12_starves 2 = .ok (.i2l, 1) := by decide +kernel
theorem dX12_starves_3 : decode cX12_starves 3 = .ok (.invokevirtual 534, 3) := by decide +kernel
theorem dX12_starves_6 : decode cX12_starves 6 = .ok (.ifCond .eq 11, 3) := by decide +kernel
theorem dX12_starves_9 : decode cX12_starves 9 = .ok (.aload_n 0, 1) := by decide +kernel
theorem dX12_starves_10 : decode cX12_starves 10 = .ok (.iload_n 1, 1) := by decide +kernel
theorem dX12_starves_11 : decode cX12_starves 11 = .ok (.invokevirtual 462, 3) := by decide +kernel
theorem dX12_starves_14 : decode cX12_starves 14 = .ok (.ifCond .ne 5, 3) := by decide +kernel
theorem dX12_starves_17 : decode cX12_starves 17 = .ok (.iconst (-1), 1) := by decide +kernel
theorem dX12_starves_18 : decode cX12_starves 18 = .ok (.ireturn, 1) := by decide +kernel
theorem dX12_starves_19 : decode cX12_starves 19 = .ok (.iconst 0, 1) := by decide +kernel
theorem dX12_starves_20 : decode cX12_starves 20 = .ok (.istore_n 2, 1) := by decide +kernel
theorem dX12_starves_21 : decode cX12_starves 21 = .ok (.aload_n 0, 1) := by decide +kernel
theorem dX12_starves_22 : decode cX12_starves 22 = .ok (.invokevirtual 544, 3) := by decide +kernel
theorem dX12_starves_25 : decode cX12_starves 25 = .ok (.aload_n 0, 1) := by decide +kernel
theorem dX12_starves_26 : decode cX12_starves 26 = .ok (.iload_n 1, 1) := by decide +kernel
theorem dX12_starves_27 : decode cX12_starves 27 = .ok (.invokevirtual 462, 3) := by decide +kernel
theorem dX12_starves_30 : decode cX12_starves 30 = .ok (.ifCond .eq 31, 3) := by decide +kernel
theorem dX12_starves_33 : decode cX12_starves 33 = .ok (.iload_n 2, 1) := by decide +kernel
theorem dX12_starves_34 : decode cX12_starves 34 = .ok (.bipush 60, 2) := by decide +kernel
theorem dX12_starves_36 : decode cX12_starves 36 = .ok (.if_icmp .ge 25, 3) := by decide +kernel
theorem dX12_starves_39 : decode cX12_starves 39 = .ok (.aload_n 0, 1) := by decide +kernel
theorem dX12_starves_40 : decode cX12_starves 40 = .ok (.getfield 118, 3) := by decide +kernel
theorem dX12_starves_43 : decode cX12_starves 43 = .ok (.iconst 0, 1) := by decide +kernel
theorem dX12_starves_44 : decode cX12_starves 44 = .ok (.iaload, 1) := by decide +kernel
theorem dX12_starves_45 : decode cX12_starves 45 = .ok (.sipush 999, 3) := by decide +kernel
theorem dX12_starves_48 : decode cX12_starves 48 = .ok (.if_icmp .ge 13, 3) := by decide +kernel
theorem dX12_starves_51 : decode cX12_starves 51 = .ok (.aload_n 0, 1) := by decide +kernel
theorem dX12_starves_52 : decode cX12_starves 52 = .ok (.invokevirtual 516, 3) := by decide +kernel
theorem dX12_starves_55 : decode cX12_starves 55 = .ok (.iinc 2 1, 3) := by decide +kernel
theorem dX12_starves_58 : decode cX12_starves 58 = .ok (.goto (-33), 3) := by decide +kernel
theorem dX12_starves_61 : decode cX12_starves 61 = .ok (.aload_n 0, 1) := by decide +kernel
theorem dX12_starves_62 : decode cX12_starves 62 = .ok (.iload_n 1, 1) := by decide +kernel
theorem dX12_starves_63 : decode cX12_starves 63 = .ok (.invokevirtual 462, 3) := by decide +kernel
theorem dX12_starves_66 : decode cX12_starves 66 = .ok (.ifCond .ne 7, 3) := by decide +kernel
theorem dX12_starves_69 : decode cX12_starves 69 = .ok (.iconst 1, 1) := by decide +kernel
theorem dX12_starves_70 : decode cX12_starves 70 = .ok (.goto 4, 3) := by decide +kernel
theorem dX12_starves_73 : decode cX12_starves 73 = .ok (.iconst 0, 1) := by decide +kernel
theorem dX12_starves_74 : decode cX12_starves 74 = .ok (.istore_n 3, 1) := by decide +kernel
theorem dX12_starves_75 : decode cX12_starves 75 = .ok (.aload_n 0, 1) := by decide +kernel
theorem dX12_starves_76 : decode cX12_starves 76 = .ok (.invokevirtual 547, 3) := by decide +kernel
theorem dX12_starves_79 : decode cX12_starves 79 = .ok (.iload_n 3, 1) := by decide +kernel
theorem dX12_starves_80 : decode cX12_starves 80 = .ok (.ifCond .eq 9, 3) := by decide +kernel
theorem dX12_starves_83 : decode cX12_starves 83 = .ok (.iload_n 2, 1) := by decide +kernel
theorem dX12_starves_84 : decode cX12_starves 84 = .ok (.iconst 1, 1) := by decide +kernel
theorem dX12_starves_85 : decode cX12_starves 85 = .ok (.isub, 1) := by decide +kernel
theorem dX12_starves_86 : decode cX12_starves 86 = .ok (.goto 4, 3) := by decide +kernel
theorem dX12_starves_89 : decode cX12_starves 89 = .ok (.iconst (-1), 1) := by decide +kernel
theorem dX12_starves_90 : decode cX12_starves 90 = .ok (.ireturn, 1) := by decide +kernel
theorem dX12_canServe_0 : decode cX12_canServe 0 = .ok (.iload_n 1, 1) := by decide +kernel
theorem dX12_canServe_1 : decode cX12_canServe 1 = .ok (.iload_n 2, 1) := by decide +kernel
theorem dX12_canServe_2 : decode cX12_canServe 2 = .ok (.if_icmp .eq 25, 3) := by decide +kernel
theorem dX12_canServe_5 : decode cX12_canServe 5 = .ok (.aload_n 0, 1) := by decide +kernel
theorem dX12_canServe_6 : decode cX12_canServe 6 = .ok (.iload_n 1, 1) := by decide +kernel
theorem dX12_canServe_7 : decode cX12_canServe 7 = .ok (.invokevirtual 462, 3) := by decide +kernel
theorem dX12_canServe_10 : decode cX12_canServe 10 = .ok (.ifCond .eq 17, 3) := by decide +kernel
theorem dX12_canServe_13 : decode cX12_canServe 13 = .ok (.aload_n 0, 1) := by decide +kernel
theorem dX12_canServe_14 : decode cX12_canServe 14 = .ok (.iload_n 1, 1) := by decide +kernel
theorem dX12_canServe_15 : decode cX12_canServe 15 = .ok (.invokevirtual 465, 3) := by decide +kernel
theorem dX12_canServe_18 : decode cX12_canServe 18 = .ok (.aload_n 0, 1) := by decide +kernel
theorem dX12_canServe_19 : decode cX12_canServe 19 = .ok (.getfield 93, 3) := by decide +kernel
theorem dX12_canServe_22 : decode cX12_canServe 22 = .ok (.iconst 2, 1) := by decide +kernel
theorem dX12_canServe_23 : decode cX12_canServe 23 = .ok (.iaload, 1) := by decide +kernel
theorem dX12_canServe_24 : decode cX12_canServe 24 = .ok (.if_icmp .ge 5, 3) := by decide +kernel
theorem dX12_canServe_27 : decode cX12_canServe 27 = .ok (.iconst 0, 1) := by decide +kernel
theorem dX12_canServe_28 : decode cX12_canServe 28 = .ok (.ireturn, 1) := by decide +kernel
theorem dX12_canServe_29 : decode cX12_canServe 29 = .ok (.aload_n 0, 1) := by decide +kernel
theorem dX12_canServe_30 : decode cX12_canServe 30 = .ok (.iload_n 1, 1) := by decide +kernel
theorem dX12_canServe_31 : decode cX12_canServe 31 = .ok (.iload_n 2, 1) := by decide +kernel
theorem dX12_canServe_32 : decode cX12_canServe 32 = .ok (.invokevirtual 418, 3) := by decide +kernel
theorem dX12_canServe_35 : decode cX12_canServe 35 = .ok (.ifCond .ne 19, 3) := by decide +kernel
theorem dX12_canServe_38 : decode cX12_canServe 38 = .ok (.aload_n 0, 1) := by decide +kernel
theorem dX12_canServe_39 : decode cX12_canServe 39 = .ok (.getfield 559, 3) := by decide +kernel
theorem dX12_canServe_42 : decode cX12_canServe 42 = .ok (.iload_n 1, 1) := by decide +kernel
theorem dX12_canServe_43 : decode cX12_canServe 43 = .ok (.iload_n 2, 1) := by decide +kernel
theorem dX12_canServe_44 : decode cX12_canServe 44 = .ok (.invokestatic 347, 3) := by decide +kernel
theorem dX12_canServe_47 : decode cX12_canServe 47 = .ok (.ishr, 1) := by decide +kernel
theorem dX12_canServe_48 : decode cX12_canServe 48 = .ok (.iconst 1, 1) := by decide +kernel
theorem dX12_canServe_49 : decode cX12_canServe 49 = .ok (.iand, 1) := by decide +kernel
theorem dX12_canServe_50 : decode cX12_canServe 50 = .ok (.iconst 1, 1) := by decide +kernel
theorem dX12_canServe_51 : decode cX12_canServe 51 = .ok (.if_icmp .ne 7, 3) := by decide +kernel
theorem dX12_canServe_54 : decode cX12_canServe 54 = .ok (.iconst 1, 1) := by decide +kernel
theorem dX12_canServe_55 : decode cX12_canServe 55 = .ok (.goto 4, 3) := by decide +kernel
theorem dX12_canServe_58 : decode cX12_canServe 58 = .ok (.iconst 0, 1) := by decide +kernel
theorem dX12_canServe_59 : decode cX12_canServe 59 = .ok (.ireturn, 1) := by decide +kernel
theorem dX12_manyBy_0 : decode cX12_manyBy 0 = .ok (.iload_n 3, 1) := by decide +kernel
theorem dX12_manyBy_1 : decode cX12_manyBy 1 = .ok (.iconst (-1), 1) := by decide +kernel
theorem dX12_manyBy_2 : decode cX12_manyBy 2 = .ok (.if_icmp .ne 18, 3) := by decide +kernel
theorem dX12_manyBy_5 : decode cX12_manyBy 5 = .ok (.aload_n 0, 1) := by decide +kernel
theorem dX12_manyBy_6 : decode cX12_manyBy 6 = .ok (.getfield 136, 3) := by decide +kernel
theorem dX12_manyBy_9 : decode cX12_manyBy 9 = .ok (.sipush 128, 3) := by decide +kernel
theorem dX12_manyBy_12 : decode cX12_manyBy 12 = .ok (.iload_n 1, 1) := by decide +kernel
theorem dX12_manyBy_13 : decode cX12_manyBy 13 = .ok (.iconst 1, 1) := by decide +kernel
theorem dX12_manyBy_14 : decode cX12_manyBy 14 = .ok (.iadd, 1) := by decide +kernel
theorem dX12_manyBy_15 : decode cX12_manyBy 15 = .ok (.imul, 1) := by decide +kernel
theorem dX12_manyBy_16 : decode cX12_manyBy 16 = .ok (.iload_n 2, 1) := by decide +kernel
theorem dX12_manyBy_17 : decode cX12_manyBy 17 = .ok (.iadd, 1) := by decide +kernel
theorem dX12_manyBy_18 : decode cX12_manyBy 18 = .ok (.iaload, 1) := by decide +kernel
theorem dX12_manyBy_19 : decode cX12_manyBy 19 = .ok (.ireturn, 1) := by decide +kernel
theorem dX12_manyBy_20 : decode cX12_manyBy 20 = .ok (.aload_n 0, 1) := by decide +kernel
theorem dX12_manyBy_21 : decode cX12_manyBy 21 = .ok (.iload_n 1, 1) := by decide +kernel
theorem dX12_manyBy_22 : decode cX12_manyBy 22 = .ok (.invokevirtual 462, 3) := by decide +kernel
theorem dX12_manyBy_25 : decode cX12_manyBy 25 = .ok (.ifCond .eq 21, 3) := by decide +kernel
theorem dX12_manyBy_28 : decode cX12_manyBy 28 = .ok (.iload_n 2, 1) := by decide +kernel
theorem dX12_manyBy_29 : decode cX12_manyBy 29 = .ok (.iload_n 3, 1) := by decide +kernel
theorem dX12_manyBy_30 : decode cX12_manyBy 30 = .ok (.ishr, 1) := by decide +kernel
theorem dX12_manyBy_31 : decode cX12_manyBy 31 = .ok (.iconst 1, 1) := by decide +kernel
theorem dX12_manyBy_32 : decode cX12_manyBy 32 = .ok (.iand, 1) := by decide +kernel
theorem dX12_manyBy_33 : decode cX12_manyBy 33 = .ok (.iconst 1, 1) := by decide +kernel
theorem dX12_manyBy_34 : decode cX12_manyBy 34 = .ok (.if_icmp .eq 12, 3) := by decide +kernel
theorem dX12_manyBy_37 : decode cX12_manyBy 37 = .ok (.aload_n 0, 1) := by decide +kernel
theorem dX12_manyBy_38 : decode cX12_manyBy 38 = .ok (.iload_n 3, 1) := by decide +kernel
theorem dX12_manyBy_39 : decode cX12_manyBy 39 = .ok (.iload_n 1, 1) := by decide +kernel
theorem dX12_manyBy_40 : decode cX12_manyBy 40 = .ok (.invokevirtual 562, 3) := by decide +kernel
theorem dX12_manyBy_43 : decode cX12_manyBy 43 = .ok (.ifCond .ne 5, 3) := by decide +kernel
theorem dX12_manyBy_46 : decode cX12_manyBy 46 = .ok (.iconst (-1), 1) := by decide +kernel
theorem dX12_manyBy_47 : decode cX12_manyBy 47 = .ok (.ireturn, 1) := by decide +kernel
theorem dX12_manyBy_48 : decode cX12_manyBy 48 = .ok (.iconst 1, 1) := by decide +kernel
theorem dX12_manyBy_49 : decode cX12_manyBy 49 = .ok (.aload_n 0, 1) := by decide +kernel
theorem dX12_manyBy_50 : decode cX12_manyBy 50 = .ok (.getfield 136, 3) := by decide +kernel
theorem dX12_manyBy_53 : decode cX12_manyBy 53 = .ok (.sipush 128, 3) := by decide +kernel
theorem dX12_manyBy_56 : decode cX12_manyBy 56 = .ok (.iload_n 1, 1) := by decide +kernel
theorem dX12_manyBy_57 : decode cX12_manyBy 57 = .ok (.iconst 1, 1) := by decide +kernel
theorem dX12_manyBy_58 : decode cX12_manyBy 58 = .ok (.iadd, 1) := by decide +kernel
theorem dX12_manyBy_59 : decode cX12_manyBy 59 = .ok (.imul, 1) := by decide +kernel
theorem dX12_manyBy_60 : decode cX12_manyBy 60 = .ok (.iload_n 2, 1) := by decide +kernel
theorem dX12_manyBy_61 : decode cX12_manyBy 61 = .ok (.iconst 1, 1) := by decide +kernel
theorem dX12_manyBy_62 : decode cX12_manyBy 62 = .ok (.iload_n 3, 1) := by decide +kernel
theorem dX12_manyBy_63 : decode cX12_manyBy 63 = .ok (.ishl, 1) := by decide +kernel
theorem dX12_manyBy_64 : decode cX12_manyBy 64 = .ok (.ior, 1) := by decide +kernel
theorem dX12_manyBy_65 : decode cX12_manyBy 65 = .ok (.iadd, 1) := by decide +kernel
theorem dX12_manyBy_66 : decode cX12_manyBy 66 = .ok (.iaload, 1) := by decide +kernel
theorem dX12_manyBy_67 : decode cX12_manyBy 67 = .ok (.iadd, 1) := by decide +kernel
theorem dX12_manyBy_68 : decode cX12_manyBy 68 = .ok (.ireturn, 1) := by decide +kernel
theorem dX12_hateBy_0 : decode cX12_hateBy 0 = .ok (.iload_n 3, 1) := by decide +kernel
theorem dX12_hateBy_1 : decode cX12_hateBy 1 = .ok (.iconst (-1), 1) := by decide +kernel
theorem dX12_hateBy_2 : decode cX12_hateBy 2 = .ok (.if_icmp .ne 20, 3) := by decide +kernel
theorem dX12_hateBy_5 : decode cX12_hateBy 5 = .ok (.aload_n 0, 1) := by decide +kernel
theorem dX12_hateBy_6 : decode cX12_hateBy 6 = .ok (.getfield 139, 3) := by decide +kernel
theorem dX12_hateBy_9 : decode cX12_hateBy 9 = .ok (.sipush 128, 3) := by decide +kernel
theorem dX12_hateBy_12 : decode cX12_hateBy 12 = .ok (.iload_n 1, 1) := by decide +kernel
theorem dX12_hateBy_13 : decode cX12_hateBy 13 = .ok (.iconst 1, 1) := by decide +kernel
theorem dX12_hateBy_14 : decode cX12_hateBy 14 = .ok (.iadd, 1) := by decide +kernel
theorem dX12_hateBy_15 : decode cX12_hateBy 15 = .ok (.imul, 1) := by decide +kernel
theorem dX12_hateBy_16 : decode cX12_hateBy 16 = .ok (.iload_n 2, 1) := by decide +kernel
theorem dX12_hateBy_17 : decode cX12_hateBy 17 = .ok (.iadd, 1) := by decide +kernel
theorem dX12_hateBy_18 : decode cX12_hateBy 18 = .ok (.iaload, 1) := by decide +kernel
theorem dX12_hateBy_19 : decode cX12_hateBy 19 = .ok (.goto 28, 3) := by decide +kernel
theorem dX12_hateBy_22 : decode cX12_hateBy 22 = .ok (.aload_n 0, 1) := by decide +kernel
theorem dX12_hateBy_23 : decode cX12_hateBy 23 = .ok (.iload_n 3, 1) := by decide +kernel
theorem dX12_hateBy_24 : decode cX12_hateBy 24 = .ok (.iload_n 1, 1) := by decide +kernel
theorem dX12_hateBy_25 : decode cX12_hateBy 25 = .ok (.invokevirtual 415, 3) := by decide +kernel
theorem dX12_hateBy_28 : decode cX12_hateBy 28 = .ok (.aload_n 0, 1) := by decide +kernel
theorem dX12_hateBy_29 : decode cX12_hateBy 29 = .ok (.getfield 139, 3) := by decide +kernel
theorem dX12_hateBy_32 : decode cX12_hateBy 32 = .ok (.sipush 128, 3) := by decide +kernel
theorem dX12_hateBy_35 : decode cX12_hateBy 35 = .ok (.iload_n 1, 1) := by decide +kernel
theorem dX12_hateBy_36 : decode cX12_hateBy 36 = .ok (.iconst 1, 1) := by decide +kernel
theorem dX12_hateBy_37 : decode cX12_hateBy 37 = .ok (.iadd, 1) := by decide +kernel
theorem dX12_hateBy_38 : decode cX12_hateBy 38 = .ok (.imul, 1) := by decide +kernel
theorem dX12_hateBy_39 : decode cX12_hateBy 39 = .ok (.iload_n 2, 1) := by decide +kernel
theorem dX12_hateBy_40 : decode cX12_hateBy 40 = .ok (.iconst 1, 1) := by decide +kernel
theorem dX12_hateBy_41 : decode cX12_hateBy 41 = .ok (.iload_n 3, 1) := by decide +kernel
theorem dX12_hateBy_42 : decode cX12_hateBy 42 = .ok (.ishl, 1) := by decide +kernel
theorem dX12_hateBy_43 : decode cX12_hateBy 43 = .ok (.ior, 1) := by decide +kernel
theorem dX12_hateBy_44 : decode cX12_hateBy 44 = .ok (.iadd, 1) := by decide +kernel
theorem dX12_hateBy_45 : decode cX12_hateBy 45 = .ok (.iaload, 1) := by decide +kernel
theorem dX12_hateBy_46 : decode cX12_hateBy 46 = .ok (.iadd, 1) := by decide +kernel
theorem dX12_hateBy_47 : decode cX12_hateBy 47 = .ok (.ireturn, 1) := by decide +kernel
theorem dX12_laysTable_0 : decode cX12_laysTable 0 = .ok (.iconst 0, 1) := by decide +kernel
theorem dX12_laysTable_1 : decode cX12_laysTable 1 = .ok (.istore_n 1, 1) := by decide +kernel
theorem dX12_laysTable_2 : decode cX12_laysTable 2 = .ok (.iload_n 1, 1) := by decide +kernel
theorem dX12_laysTable_3 : decode cX12_laysTable 3 = .ok (.sipush 1024, 3) := by decide +kernel
theorem dX12_laysTable_6 : decode cX12_laysTable 6 = .ok (.if_icmp .ge 23, 3) := by decide +kernel
theorem dX12_laysTable_9 : decode cX12_laysTable 9 = .ok (.aload_n 0, 1) := by decide +kernel
theorem dX12_laysTable_10 : decode cX12_laysTable 10 = .ok (.getfield 136, 3) := by decide +kernel
theorem dX12_laysTable_13 : decode cX12_laysTable 13 = .ok (.iload_n 1, 1) := by decide +kernel
theorem dX12_laysTable_14 : decode cX12_laysTable 14 = .ok (.iconst 0, 1) := by decide +kernel
theorem dX12_laysTable_15 : decode cX12_laysTable 15 = .ok (.iastore, 1) := by decide +kernel
theorem dX12_laysTable_16 : decode cX12_laysTable 16 = .ok (.aload_n 0, 1) := by decide +kernel
theorem dX12_laysTable_17 : decode cX12_laysTable 17 = .ok (.getfield 139, 3) := by decide +kernel
theorem dX12_laysTable_20 : decode cX12_laysTable 20 = .ok (.iload_n 1, 1) := by decide +kernel
theorem dX12_laysTable_21 : decode cX12_laysTable 21 = .ok (.iconst 0, 1) := by decide +kernel
theorem dX12_laysTable_22 : decode cX12_laysTable 22 = .ok (.iastore, 1) := by decide +kernel
theorem dX12_laysTable_23 : decode cX12_laysTable 23 = .ok (.iinc 1 1, 3) := by decide +kernel
theorem dX12_laysTable_26 : decode cX12_laysTable 26 = .ok (.goto (-24), 3) := by decide +kernel
theorem dX12_laysTable_29 : decode cX12_laysTable 29 = .ok (.aload_n 0, 1) := by decide +kernel
theorem dX12_laysTable_30 : decode cX12_laysTable 30 = .ok (.invokevirtual 412, 3) := by decide +kernel
theorem dX12_laysTable_33 : decode cX12_laysTable 33 = .ok (.iconst 1, 1) := by decide +kernel
theorem dX12_laysTable_34 : decode cX12_laysTable 34 = .ok (.isub, 1) := by decide +kernel
theorem dX12_laysTable_35 : decode cX12_laysTable 35 = .ok (.istore_n 1, 1) := by decide +kernel
theorem dX12_laysTable_36 : decode cX12_laysTable 36 = .ok (.iload_n 1, 1) := by decide +kernel
theorem dX12_laysTable_37 : decode cX12_laysTable 37 = .ok (.ifCond .lt 132, 3) := by decide +kernel
theorem dX12_laysTable_40 : decode cX12_laysTable 40 = .ok (.iconst 0, 1) := by decide +kernel
theorem dX12_laysTable_41 : decode cX12_laysTable 41 = .ok (.istore_n 2, 1) := by decide +kernel
theorem dX12_laysTable_42 : decode cX12_laysTable 42 = .ok (.iload_n 2, 1) := by decide +kernel
theorem dX12_laysTable_43 : decode cX12_laysTable 43 = .ok (.sipush 128, 3) := by decide +kernel
theorem dX12_laysTable_46 : decode cX12_laysTable 46 = .ok (.if_icmp .ge 117, 3) := by decide +kernel
theorem dX12_laysTable_49 : decode cX12_laysTable 49 = .ok (.iconst (-1), 1) := by decide +kernel
theorem dX12_laysTable_50 : decode cX12_laysTable 50 = .ok (.istore_n 3, 1) := by decide +kernel
theorem dX12_laysTable_51 : decode cX12_laysTable 51 = .ok (.iconst 0, 1) := by decide +kernel
theorem dX12_laysTable_52 : decode cX12_laysTable 52 = .ok (.istore 4, 2) := by decide +kernel
theorem dX12_laysTable_54 : decode cX12_laysTable 54 = .ok (.iconst (-1), 1) := by decide +kernel
theorem dX12_laysTable_55 : decode cX12_laysTable 55 = .ok (.istore 5, 2) := by decide +kernel
theorem dX12_laysTable_57 : decode cX12_laysTable 57 = .ok (.iload 5, 2) := by decide +kernel
theorem dX12_laysTable_59 : decode cX12_laysTable 59 = .ok (.aload_n 0, 1) := by decide +kernel
theorem dX12_laysTable_60 : decode cX12_laysTable 60 = .ok (.invokevirtual 412, 3) := by decide +kernel
theorem dX12_laysTable_63 : decode cX12_laysTable 63 = .ok (.if_icmp .ge 67, 3) := by decide +kernel
theorem dX12_laysTable_66 : decode cX12_laysTable 66 = .ok (.aload_n 0, 1) := by decide +kernel
theorem dX12_laysTable_67 : decode cX12_laysTable 67 = .ok (.iload_n 1, 1) := by decide +kernel
theorem dX12_laysTable_68 : decode cX12_laysTable 68 = .ok (.iload_n 2, 1) := by decide +kernel
theorem dX12_laysTable_69 : decode cX12_laysTable 69 = .ok (.iload 5, 2) := by decide +kernel
theorem dX12_laysTable_71 : decode cX12_laysTable 71 = .ok (.invokevirtual 565, 3) := by decide +kernel
theorem dX12_laysTable_74 : decode cX12_laysTable 74 = .ok (.istore 6, 2) := by decide +kernel
theorem dX12_laysTable_76 : decode cX12_laysTable 76 = .ok (.iload 6, 2) := by decide +kernel
theorem dX12_laysTable_78 : decode cX12_laysTable 78 = .ok (.iload_n 3, 1) := by decide +kernel
theorem dX12_laysTable_79 : decode cX12_laysTable 79 = .ok (.if_icmp .lt 45, 3) := by decide +kernel
theorem dX12_laysTable_82 : decode cX12_laysTable 82 = .ok (.iload 6, 2) := by decide +kernel
theorem dX12_laysTable_84 : decode cX12_laysTable 84 = .ok (.iconst (-1), 1) := by decide +kernel
theorem dX12_laysTable_85 : decode cX12_laysTable 85 = .ok (.if_icmp .ne 6, 3) := by decide +kernel
theorem dX12_laysTable_88 : decode cX12_laysTable 88 = .ok (.goto 36, 3) := by decide +kernel
theorem dX12_laysTable_91 : decode cX12_laysTable 91 = .ok (.aload_n 0, 1) := by decide +kernel
theorem dX12_laysTable_92 : decode cX12_laysTable 92 = .ok (.iload_n 1, 1) := by decide +kernel
theorem dX12_laysTable_93 : decode cX12_laysTable 93 = .ok (.iload_n 2, 1) := by decide +kernel
theorem dX12_laysTable_94 : decode cX12_laysTable 94 = .ok (.iload 5, 2) := by decide +kernel
theorem dX12_laysTable_96 : decode cX12_laysTable 96 = .ok (.invokevirtual 569, 3) := by decide +kernel
theorem dX12_laysTable_99 : decode cX12_laysTable 99 = .ok (.istore 7, 2) := by decide +kernel
theorem dX12_laysTable_101 : decode cX12_laysTable 101 = .ok (.iload 6, 2) := by decide +kernel
theorem dX12_laysTable_103 : decode cX12_laysTable 103 = .ok (.iload_n 3, 1) := by decide +kernel
theorem dX12_laysTable_104 : decode cX12_laysTable 104 = .ok (.if_icmp .ne 13, 3) := by decide +kernel
theorem dX12_laysTable_107 : decode cX12_laysTable 107 = .ok (.iload 7, 2) := by decide +kernel
theorem dX12_laysTable_109 : decode cX12_laysTable 109 = .ok (.iload 4, 2) := by decide +kernel
theorem dX12_laysTable_111 : decode cX12_laysTable 111 = .ok (.if_icmp .lt 6, 3) := by decide +kernel
theorem dX12_laysTable_114 : decode cX12_laysTable 114 = .ok (.goto 10, 3) := by decide +kernel
theorem dX12_laysTable_117 : decode cX12_laysTable 117 = .ok (.iload 6, 2) := by decide +kernel
theorem dX12_laysTable_119 : decode cX12_laysTable 119 = .ok (.istore_n 3, 1) := by decide +kernel
theorem dX12_laysTable_120 : decode cX12_laysTable 120 = .ok (.iload 7, 2) := by decide +kernel
theorem dX12_laysTable_122 : decode cX12_laysTable 122 = .ok (.istore 4, 2) := by decide +kernel
theorem dX12_laysTable_124 : decode cX12_laysTable 124 = .ok (.iinc 5 1, 3) := by decide +kernel
theorem dX12_laysTable_127 : decode cX12_laysTable 127 = .ok (.goto (-70), 3) := by decide +kernel
theorem dX12_laysTable_130 : decode cX12_laysTable 130 = .ok (.aload_n 0, 1) := by decide +kernel
theorem dX12_laysTable_131 : decode cX12_laysTable 131 = .ok (.getfield 136, 3) := by decide +kernel
theorem dX12_laysTable_134 : decode cX12_laysTable 134 = .ok (.sipush 128, 3) := by decide +kernel
theorem dX12_laysTable_137 : decode cX12_laysTable 137 = .ok (.iload_n 1, 1) := by decide +kernel
theorem dX12_laysTable_138 : decode cX12_laysTable 138 = .ok (.imul, 1) := by decide +kernel
theorem dX12_laysTable_139 : decode cX12_laysTable 139 = .ok (.iload_n 2, 1) := by decide +kernel
theorem dX12_laysTable_140 : decode cX12_laysTable 140 = .ok (.iadd, 1) := by decide +kernel
theorem dX12_laysTable_141 : decode cX12_laysTable 141 = .ok (.iload_n 3, 1) := by decide +kernel
theorem dX12_laysTable_142 : decode cX12_laysTable 142 = .ok (.iastore, 1) := by decide +kernel
theorem dX12_laysTable_143 : decode cX12_laysTable 143 = .ok (.aload_n 0, 1) := by decide +kernel
theorem dX12_laysTable_144 : decode cX12_laysTable 144 = .ok (.getfield 139, 3) := by decide +kernel
theorem dX12_laysTable_147 : decode cX12_laysTable 147 = .ok (.sipush 128, 3) := by decide +kernel
theorem dX12_laysTable_150 : decode cX12_laysTable 150 = .ok (.iload_n 1, 1) := by decide +kernel
theorem dX12_laysTable_151 : decode cX12_laysTable 151 = .ok (.imul, 1) := by decide +kernel
theorem dX12_laysTable_152 : decode cX12_laysTable 152 = .ok (.iload_n 2, 1) := by decide +kernel
theorem dX12_laysTable_153 : decode cX12_laysTable 153 = .ok (.iadd, 1) := by decide +kernel
theorem dX12_laysTable_154 : decode cX12_laysTable 154 = .ok (.iload 4, 2) := by decide +kernel
theorem dX12_laysTable_156 : decode cX12_laysTable 156 = .ok (.iastore, 1) := by decide +kernel
theorem dX12_laysTable_157 : decode cX12_laysTable 157 = .ok (.iinc 2 1, 3) := by decide +kernel
theorem dX12_laysTable_160 : decode cX12_laysTable 160 = .ok (.goto (-118), 3) := by decide +kernel
theorem dX12_laysTable_163 : decode cX12_laysTable 163 = .ok (.iinc 1 (-1), 3) := by decide +kernel
theorem dX12_laysTable_166 : decode cX12_laysTable 166 = .ok (.goto (-130), 3) := by decide +kernel
theorem dX12_laysTable_169 : decode cX12_laysTable 169 = .ok (.return_, 1) := by decide +kernel
theorem dX12_laysRow_0 : decode cX12_laysRow 0 = .ok (.iconst 0, 1) := by decide +kernel
theorem dX12_laysRow_1 : decode cX12_laysRow 1 = .ok (.istore_n 1, 1) := by decide +kernel
theorem dX12_laysRow_2 : decode cX12_laysRow 2 = .ok (.iconst 0, 1) := by decide +kernel
theorem dX12_laysRow_3 : decode cX12_laysRow 3 = .ok (.istore_n 2, 1) := by decide +kernel
theorem dX12_laysRow_4 : decode cX12_laysRow 4 = .ok (.iload_n 2, 1) := by decide +kernel
theorem dX12_laysRow_5 : decode cX12_laysRow 5 = .ok (.aload_n 0, 1) := by decide +kernel
theorem dX12_laysRow_6 : decode cX12_laysRow 6 = .ok (.invokevirtual 412, 3) := by decide +kernel
theorem dX12_laysRow_9 : decode cX12_laysRow 9 = .ok (.if_icmp .ge 79, 3) := by decide +kernel
theorem dX12_laysRow_12 : decode cX12_laysRow 12 = .ok (.iconst (-1), 1) := by decide +kernel
theorem dX12_laysRow_13 : decode cX12_laysRow 13 = .ok (.istore_n 3, 1) := by decide +kernel
theorem dX12_laysRow_14 : decode cX12_laysRow 14 = .ok (.aload_n 0, 1) := by decide +kernel
theorem dX12_laysRow_15 : decode cX12_laysRow 15 = .ok (.iload_n 2, 1) := by decide +kernel
theorem dX12_laysRow_16 : decode cX12_laysRow 16 = .ok (.iload_n 1, 1) := by decide +kernel
theorem dX12_laysRow_17 : decode cX12_laysRow 17 = .ok (.iload_n 3, 1) := by decide +kernel
theorem dX12_laysRow_18 : decode cX12_laysRow 18 = .ok (.invokevirtual 565, 3) := by decide +kernel
theorem dX12_laysRow_21 : decode cX12_laysRow 21 = .ok (.aload_n 0, 1) := by decide +kernel
theorem dX12_laysRow_22 : decode cX12_laysRow 22 = .ok (.getfield 136, 3) := by decide +kernel
theorem dX12_laysRow_25 : decode cX12_laysRow 25 = .ok (.sipush 128, 3) := by decide +kernel
theorem dX12_laysRow_28 : decode cX12_laysRow 28 = .ok (.iload_n 2, 1) := by decide +kernel
theorem dX12_laysRow_29 : decode cX12_laysRow 29 = .ok (.imul, 1) := by decide +kernel
theorem dX12_laysRow_30 : decode cX12_laysRow 30 = .ok (.iload_n 1, 1) := by decide +kernel
theorem dX12_laysRow_31 : decode cX12_laysRow 31 = .ok (.iadd, 1) := by decide +kernel
theorem dX12_laysRow_32 : decode cX12_laysRow 32 = .ok (.iaload, 1) := by decide +kernel
theorem dX12_laysRow_33 : decode cX12_laysRow 33 = .ok (.if_icmp .ne 25, 3) := by decide +kernel
theorem dX12_laysRow_36 : decode cX12_laysRow 36 = .ok (.aload_n 0, 1) := by decide +kernel
theorem dX12_laysRow_37 : decode cX12_laysRow 37 = .ok (.iload_n 2, 1) := by decide +kernel
theorem dX12_laysRow_38 : decode cX12_laysRow 38 = .ok (.iload_n 1, 1) := by decide +kernel
theorem dX12_laysRow_39 : decode cX12_laysRow 39 = .ok (.iload_n 3, 1) := by decide +kernel
theorem dX12_laysRow_40 : decode cX12_laysRow 40 = .ok (.invokevirtual 569, 3) := by decide +kernel
theorem dX12_laysRow_43 : decode cX12_laysRow 43 = .ok (.aload_n 0, 1) := by decide +kernel
theorem dX12_laysRow_44 : decode cX12_laysRow 44 = .ok (.getfield 139, 3) := by decide +kernel
theorem dX12_laysRow_47 : decode cX12_laysRow 47 = .ok (.sipush 128, 3) := by decide +kernel
theorem dX12_laysRow_50 : decode cX12_laysRow 50 = .ok (.iload_n 2, 1) := by decide +kernel
theorem dX12_laysRow_51 : decode cX12_laysRow 51 = .ok (.imul, 1) := by decide +kernel
theorem dX12_laysRow_52 : decode cX12_laysRow 52 = .ok (.iload_n 1, 1) := by decide +kernel
theorem dX12_laysRow_53 : decode cX12_laysRow 53 = .ok (.iadd, 1) := by decide +kernel
theorem dX12_laysRow_54 : decode cX12_laysRow 54 = .ok (.iaload, 1) := by decide +kernel
theorem dX12_laysRow_55 : decode cX12_laysRow 55 = .ok (.if_icmp .eq 9, 3) := by decide +kernel
theorem dX12_laysRow_58 : decode cX12_laysRow 58 = .ok (.iinc 3 1, 3) := by decide +kernel
theorem dX12_laysRow_61 : decode cX12_laysRow 61 = .ok (.goto (-47), 3) := by decide +kernel
theorem dX12_laysRow_64 : decode cX12_laysRow 64 = .ok (.aload_n 0, 1) := by decide +kernel
theorem dX12_laysRow_65 : decode cX12_laysRow 65 = .ok (.getfield 142, 3) := by decide +kernel
theorem dX12_laysRow_68 : decode cX12_laysRow 68 = .ok (.iload_n 2, 1) := by decide +kernel
theorem dX12_laysRow_69 : decode cX12_laysRow 69 = .ok (.iload_n 3, 1) := by decide +kernel
theorem dX12_laysRow_70 : decode cX12_laysRow 70 = .ok (.iastore, 1) := by decide +kernel
theorem dX12_laysRow_71 : decode cX12_laysRow 71 = .ok (.iload_n 3, 1) := by decide +kernel
theorem dX12_laysRow_72 : decode cX12_laysRow 72 = .ok (.iconst (-1), 1) := by decide +kernel
theorem dX12_laysRow_73 : decode cX12_laysRow 73 = .ok (.if_icmp .eq 9, 3) := by decide +kernel
theorem dX12_laysRow_76 : decode cX12_laysRow 76 = .ok (.iload_n 1, 1) := by decide +kernel
theorem dX12_laysRow_77 : decode cX12_laysRow 77 = .ok (.iconst 1, 1) := by decide +kernel
theorem dX12_laysRow_78 : decode cX12_laysRow 78 = .ok (.iload_n 3, 1) := by decide +kernel
theorem dX12_laysRow_79 : decode cX12_laysRow 79 = .ok (.ishl, 1) := by decide +kernel
theorem dX12_laysRow_80 : decode cX12_laysRow 80 = .ok (.ior, 1) := by decide +kernel
theorem dX12_laysRow_81 : decode cX12_laysRow 81 = .ok (.istore_n 1, 1) := by decide +kernel
theorem dX12_laysRow_82 : decode cX12_laysRow 82 = .ok (.iinc 2 1, 3) := by decide +kernel
theorem dX12_laysRow_85 : decode cX12_laysRow 85 = .ok (.goto (-81), 3) := by decide +kernel
theorem dX12_laysRow_88 : decode cX12_laysRow 88 = .ok (.return_, 1) := by decide +kernel
theorem dX12_table_0 : decode cX12_table 0 = .ok (.aload_n 0, 1) := by decide +kernel
theorem dX12_table_1 : decode cX12_table 1 = .ok (.getfield 399, 3) := by decide +kernel
theorem dX12_table_4 : decode cX12_table 4 = .ok (.ifCond .eq 19, 3) := by decide +kernel
theorem dX12_table_7 : decode cX12_table 7 = .ok (.iload_n 1, 1) := by decide +kernel
theorem dX12_table_8 : decode cX12_table 8 = .ok (.i2l, 1) := by decide +kernel
theorem dX12_table_9 : decode cX12_table 9 = .ok (.lconst 0, 1) := by decide +kernel
theorem dX12_table_10 : decode cX12_table 10 = .ok (.iconst 1, 1) := by decide +kernel
theorem dX12_table_11 : decode cX12_table 11 = .ok (.aload_n 0, 1) := by decide +kernel
theorem dX12_table_12 : decode cX12_table 12 = .ok (.invokevirtual 412, 3) := by decide +kernel
theorem dX12_table_15 : decode cX12_table 15 = .ok (.iadd, 1) := by decide +kernel
theorem dX12_table_16 : decode cX12_table 16 = .ok (.i2l, 1) := by decide +kernel
theorem dX12_table_17 : decode cX12_table 17 = .ok (.invokestatic 303, 3) := by decide +kernel
theorem dX12_table_20 : decode cX12_table 20 = .ok (.ifCond .ne 5, 3) := by decide +kernel
theorem dX12_table_23 : decode cX12_table 23 = .ok (.iconst (-1), 1) := by decide +kernel
theorem dX12_table_24 : decode cX12_table 24 = .ok (.ireturn, 1) := by decide +kernel
theorem dX12_table_25 : decode cX12_table 25 = .ok (.aload_n 0, 1) := by decide +kernel
theorem dX12_table_26 : decode cX12_table 26 = .ok (.iconst 0, 1) := by decide +kernel
theorem dX12_table_27 : decode cX12_table 27 = .ok (.putfield 559, 3) := by decide +kernel
theorem dX12_table_30 : decode cX12_table 30 = .ok (.aload_n 0, 1) := by decide +kernel
theorem dX12_table_31 : decode cX12_table 31 = .ok (.invokevirtual 572, 3) := by decide +kernel
theorem dX12_table_34 : decode cX12_table 34 = .ok (.iload_n 1, 1) := by decide +kernel
theorem dX12_table_35 : decode cX12_table 35 = .ok (.iconst 2, 1) := by decide +kernel
theorem dX12_table_36 : decode cX12_table 36 = .ok (.if_icmp .ge 23, 3) := by decide +kernel
theorem dX12_table_39 : decode cX12_table 39 = .ok (.iload_n 1, 1) := by decide +kernel
theorem dX12_table_40 : decode cX12_table 40 = .ok (.ifCond .ne 12, 3) := by decide +kernel
theorem dX12_table_43 : decode cX12_table 43 = .ok (.aload_n 0, 1) := by decide +kernel
theorem dX12_table_44 : decode cX12_table 44 = .ok (.getfield 136, 3) := by decide +kernel
theorem dX12_table_47 : decode cX12_table 47 = .ok (.iconst 0, 1) := by decide +kernel
theorem dX12_table_48 : decode cX12_table 48 = .ok (.iaload, 1) := by decide +kernel
theorem dX12_table_49 : decode cX12_table 49 = .ok (.goto 9, 3) := by decide +kernel
theorem dX12_table_52 : decode cX12_table 52 = .ok (.aload_n 0, 1) := by decide +kernel
theorem dX12_table_53 : decode cX12_table 53 = .ok (.getfield 139, 3) := by decide +kernel
theorem dX12_table_56 : decode cX12_table 56 = .ok (.iconst 0, 1) := by decide +kernel
theorem dX12_table_57 : decode cX12_table 57 = .ok (.iaload, 1) := by decide +kernel
theorem dX12_table_58 : decode cX12_table 58 = .ok (.ireturn, 1) := by decide +kernel
theorem dX12_table_59 : decode cX12_table 59 = .ok (.aload_n 0, 1) := by decide +kernel
theorem dX12_table_60 : decode cX12_table 60 = .ok (.invokevirtual 575, 3) := by decide +kernel
theorem dX12_table_63 : decode cX12_table 63 = .ok (.aload_n 0, 1) := by decide +kernel
theorem dX12_table_64 : decode cX12_table 64 = .ok (.getfield 142, 3) := by decide +kernel
theorem dX12_table_67 : decode cX12_table 67 = .ok (.iload_n 1, 1) := by decide +kernel
theorem dX12_table_68 : decode cX12_table 68 = .ok (.iconst 2, 1) := by decide +kernel
theorem dX12_table_69 : decode cX12_table 69 = .ok (.isub, 1) := by decide +kernel
theorem dX12_table_70 : decode cX12_table 70 = .ok (.iaload, 1) := by decide +kernel
theorem dX12_table_71 : decode cX12_table 71 = .ok (.ireturn, 1) := by decide +kernel
theorem dX12_doAllEat_0 : decode cX12_doAllEat 0 = .ok (.aload_n 0, 1) := by decide +kernel
theorem dX12_doAllEat_1 : decode cX12_doAllEat 1 = .ok (.iload_n 1, 1) := by decide +kernel
theorem dX12_doAllEat_2 : decode cX12_doAllEat 2 = .ok (.putfield 559, 3) := by decide +kernel
theorem dX12_doAllEat_5 : decode cX12_doAllEat 5 = .ok (.aload_n 0, 1) := by decide +kernel
theorem dX12_doAllEat_6 : decode cX12_doAllEat 6 = .ok (.invokevirtual 572, 3) := by decide +kernel
theorem dX12_doAllEat_9 : decode cX12_doAllEat 9 = .ok (.aload_n 0, 1) := by decide +kernel
theorem dX12_doAllEat_10 : decode cX12_doAllEat 10 = .ok (.getfield 136, 3) := by decide +kernel
theorem dX12_doAllEat_13 : decode cX12_doAllEat 13 = .ok (.iconst 0, 1) := by decide +kernel
theorem dX12_doAllEat_14 : decode cX12_doAllEat 14 = .ok (.iaload, 1) := by decide +kernel
theorem dX12_doAllEat_15 : decode cX12_doAllEat 15 = .ok (.aload_n 0, 1) := by decide +kernel
theorem dX12_doAllEat_16 : decode cX12_doAllEat 16 = .ok (.invokevirtual 522, 3) := by decide +kernel
theorem dX12_doAllEat_19 : decode cX12_doAllEat 19 = .ok (.invokestatic 525, 3) := by decide +kernel
theorem dX12_doAllEat_22 : decode cX12_doAllEat 22 = .ok (.if_icmp .ne 7, 3) := by decide +kernel
theorem dX12_doAllEat_25 : decode cX12_doAllEat 25 = .ok (.iconst 1, 1) := by decide +kernel
theorem dX12_doAllEat_26 : decode cX12_doAllEat 26 = .ok (.goto 4, 3) := by decide +kernel
theorem dX12_doAllEat_29 : decode cX12_doAllEat 29 = .ok (.iconst 0, 1) := by decide +kernel
theorem dX12_doAllEat_30 : decode cX12_doAllEat 30 = .ok (.ireturn, 1) := by decide +kernel
theorem dX12_bitOf_0 : decode cX12_bitOf 0 = .ok (.iconst 1, 1) := by decide +kernel
theorem dX12_bitOf_1 : decode cX12_bitOf 1 = .ok (.aload_n 0, 1) := by decide +kernel
theorem dX12_bitOf_2 : decode cX12_bitOf 2 = .ok (.getfield 145, 3) := by decide +kernel
theorem dX12_bitOf_5 : decode cX12_bitOf 5 = .ok (.iload_n 1, 1) := by decide +kernel
theorem dX12_bitOf_6 : decode cX12_bitOf 6 = .ok (.iaload, 1) := by decide +kernel
theorem dX12_bitOf_7 : decode cX12_bitOf 7 = .ok (.aload_n 0, 1) := by decide +kernel
theorem dX12_bitOf_8 : decode cX12_bitOf 8 = .ok (.getfield 148, 3) := by decide +kernel
theorem dX12_bitOf_11 : decode cX12_bitOf 11 = .ok (.iload_n 1, 1) := by decide +kernel
theorem dX12_bitOf_12 : decode cX12_bitOf 12 = .ok (.iaload, 1) := by decide +kernel
theorem dX12_bitOf_13 : decode cX12_bitOf 13 = .ok (.invokestatic 347, 3) := by decide +kernel
theorem dX12_bitOf_16 : decode cX12_bitOf 16 = .ok (.ishl, 1) := by decide +kernel
theorem dX12_bitOf_17 : decode cX12_bitOf 17 = .ok (.ireturn, 1) := by decide +kernel
theorem dX12_laysFree_0 : decode cX12_laysFree 0 = .ok (.iconst 0, 1) := by decide +kernel
theorem dX12_laysFree_1 : decode cX12_laysFree 1 = .ok (.istore_n 1, 1) := by decide +kernel
theorem dX12_laysFree_2 : decode cX12_laysFree 2 = .ok (.iconst 0, 1) := by decide +kernel
theorem dX12_laysFree_3 : decode cX12_laysFree 3 = .ok (.istore_n 2, 1) := by decide +kernel
theorem dX12_laysFree_4 : decode cX12_laysFree 4 = .ok (.iload_n 2, 1) := by decide +kernel
theorem dX12_laysFree_5 : decode cX12_laysFree 5 = .ok (.aload_n 0, 1) := by decide +kernel
theorem dX12_laysFree_6 : decode cX12_laysFree 6 = .ok (.invokevirtual 412, 3) := by decide +kernel
theorem dX12_laysFree_9 : decode cX12_laysFree 9 = .ok (.if_icmp .ge 72, 3) := by decide +kernel
theorem dX12_laysFree_12 : decode cX12_laysFree 12 = .ok (.iload_n 2, 1) := by decide +kernel
theorem dX12_laysFree_13 : decode cX12_laysFree 13 = .ok (.iconst 1, 1) := by decide +kernel
theorem dX12_laysFree_14 : decode cX12_laysFree 14 = .ok (.iadd, 1) := by decide +kernel
theorem dX12_laysFree_15 : decode cX12_laysFree 15 = .ok (.istore_n 3, 1) := by decide +kernel
theorem dX12_laysFree_16 : decode cX12_laysFree 16 = .ok (.iload_n 3, 1) := by decide +kernel
theorem dX12_laysFree_17 : decode cX12_laysFree 17 = .ok (.aload_n 0, 1) := by decide +kernel
theorem dX12_laysFree_18 : decode cX12_laysFree 18 = .ok (.invokevirtual 412, 3) := by decide +kernel
theorem dX12_laysFree_21 : decode cX12_laysFree 21 = .ok (.if_icmp .ge 54, 3) := by decide +kernel
theorem dX12_laysFree_24 : decode cX12_laysFree 24 = .ok (.aload_n 0, 1) := by decide +kernel
theorem dX12_laysFree_25 : decode cX12_laysFree 25 = .ok (.iload_n 2, 1) := by decide +kernel
theorem dX12_laysFree_26 : decode cX12_laysFree 26 = .ok (.invokevirtual 462, 3) := by decide +kernel
theorem dX12_laysFree_29 : decode cX12_laysFree 29 = .ok (.ifCond .eq 40, 3) := by decide +kernel
theorem dX12_laysFree_32 : decode cX12_laysFree 32 = .ok (.aload_n 0, 1) := by decide +kernel
theorem dX12_laysFree_33 : decode cX12_laysFree 33 = .ok (.iload_n 3, 1) := by decide +kernel
theorem dX12_laysFree_34 : decode cX12_laysFree 34 = .ok (.invokevirtual 462, 3) := by decide +kernel
theorem dX12_laysFree_37 : decode cX12_laysFree 37 = .ok (.ifCond .eq 32, 3) := by decide +kernel
theorem dX12_laysFree_40 : decode cX12_laysFree 40 = .ok (.aload_n 0, 1) := by decide +kernel
theorem dX12_laysFree_41 : decode cX12_laysFree 41 = .ok (.iload_n 2, 1) := by decide +kernel
theorem dX12_laysFree_42 : decode cX12_laysFree 42 = .ok (.iload_n 3, 1) := by decide +kernel
theorem dX12_laysFree_43 : decode cX12_laysFree 43 = .ok (.invokevirtual 418, 3) := by decide +kernel
theorem dX12_laysFree_46 : decode cX12_laysFree 46 = .ok (.ifCond .eq 6, 3) := by decide +kernel
theorem dX12_laysFree_49 : decode cX12_laysFree 49 = .ok (.goto 20, 3) := by decide +kernel
theorem dX12_laysFree_52 : decode cX12_laysFree 52 = .ok (.aload_n 0, 1) := by decide +kernel
theorem dX12_laysFree_53 : decode cX12_laysFree 53 = .ok (.getfield 145, 3) := by decide +kernel
theorem dX12_laysFree_56 : decode cX12_laysFree 56 = .ok (.iload_n 1, 1) := by decide +kernel
theorem dX12_laysFree_57 : decode cX12_laysFree 57 = .ok (.iload_n 2, 1) := by decide +kernel
theorem dX12_laysFree_58 : decode cX12_laysFree 58 = .ok (.iastore, 1) := by decide +kernel
theorem dX12_laysFree_59 : decode cX12_laysFree 59 = .ok (.aload_n 0, 1) := by decide +kernel
theorem dX12_laysFree_60 : decode cX12_laysFree 60 = .ok (.getfield 148, 3) := by decide +kernel
theorem dX12_laysFree_63 : decode cX12_laysFree 63 = .ok (.iload_n 1, 1) := by decide +kernel
theorem dX12_laysFree_64 : decode cX12_laysFree 64 = .ok (.iload_n 3, 1) := by decide +kernel
theorem dX12_laysFree_65 : decode cX12_laysFree 65 = .ok (.iastore, 1) := by decide +kernel
theorem dX12_laysFree_66 : decode cX12_laysFree 66 = .ok (.iinc 1 1, 3) := by decide +kernel
theorem dX12_laysFree_69 : decode cX12_laysFree 69 = .ok (.iinc 3 1, 3) := by decide +kernel
theorem dX12_laysFree_72 : decode cX12_laysFree 72 = .ok (.goto (-56), 3) := by decide +kernel
theorem dX12_laysFree_75 : decode cX12_laysFree 75 = .ok (.iinc 2 1, 3) := by decide +kernel
theorem dX12_laysFree_78 : decode cX12_laysFree 78 = .ok (.goto (-74), 3) := by decide +kernel
theorem dX12_laysFree_81 : decode cX12_laysFree 81 = .ok (.iload_n 1, 1) := by decide +kernel
theorem dX12_laysFree_82 : decode cX12_laysFree 82 = .ok (.ireturn, 1) := by decide +kernel
theorem dX12_wantingMany_0 : decode cX12_wantingMany 0 = .ok (.aload_n 0, 1) := by decide +kernel
theorem dX12_wantingMany_1 : decode cX12_wantingMany 1 = .ok (.invokevirtual 578, 3) := by decide +kernel
theorem dX12_wantingMany_4 : decode cX12_wantingMany 4 = .ok (.istore_n 1, 1) := by decide +kernel
theorem dX12_wantingMany_5 : decode cX12_wantingMany 5 = .ok (.aload_n 0, 1) := by decide +kernel
theorem dX12_wantingMany_6 : decode cX12_wantingMany 6 = .ok (.iconst 0, 1) := by decide +kernel
theorem dX12_wantingMany_7 : decode cX12_wantingMany 7 = .ok (.invokevirtual 581, 3) := by decide +kernel
theorem dX12_wantingMany_10 : decode cX12_wantingMany 10 = .ok (.ifCond .eq 5, 3) := by decide +kernel
theorem dX12_wantingMany_13 : decode cX12_wantingMany 13 = .ok (.iconst 0, 1) := by decide +kernel
theorem dX12_wantingMany_14 : decode cX12_wantingMany 14 = .ok (.ireturn, 1) := by decide +kernel
theorem dX12_wantingMany_15 : decode cX12_wantingMany 15 = .ok (.iconst 0, 1) := by decide +kernel
theorem dX12_wantingMany_16 : decode cX12_wantingMany 16 = .ok (.istore_n 2, 1) := by decide +kernel
theorem dX12_wantingMany_17 : decode cX12_wantingMany 17 = .ok (.iload_n 2, 1) := by decide +kernel
theorem dX12_wantingMany_18 : decode cX12_wantingMany 18 = .ok (.iload_n 1, 1) := by decide +kernel
theorem dX12_wantingMany_19 : decode cX12_wantingMany 19 = .ok (.if_icmp .ge 30, 3) := by decide +kernel
theorem dX12_wantingMany_22 : decode cX12_wantingMany 22 = .ok (.aload_n 0, 1) := by decide +kernel
theorem dX12_wantingMany_23 : decode cX12_wantingMany 23 = .ok (.getfield 151, 3) := by decide +kernel
theorem dX12_wantingMany_26 : decode cX12_wantingMany 26 = .ok (.iconst 0, 1) := by decide +kernel
theorem dX12_wantingMany_27 : decode cX12_wantingMany 27 = .ok (.iload_n 2, 1) := by decide +kernel
theorem dX12_wantingMany_28 : decode cX12_wantingMany 28 = .ok (.iastore, 1) := by decide +kernel
theorem dX12_wantingMany_29 : decode cX12_wantingMany 29 = .ok (.aload_n 0, 1) := by decide +kernel
theorem dX12_wantingMany_30 : decode cX12_wantingMany 30 = .ok (.aload_n 0, 1) := by decide +kernel
theorem dX12_wantingMany_31 : decode cX12_wantingMany 31 = .ok (.iload_n 2, 1) := by decide +kernel
theorem dX12_wantingMany_32 : decode cX12_wantingMany 32 = .ok (.invokevirtual 584, 3) := by decide +kernel
theorem dX12_wantingMany_35 : decode cX12_wantingMany 35 = .ok (.invokevirtual 581, 3) := by decide +kernel
theorem dX12_wantingMany_38 : decode cX12_wantingMany 38 = .ok (.ifCond .eq 5, 3) := by decide +kernel
theorem dX12_wantingMany_41 : decode cX12_wantingMany 41 = .ok (.iconst 1, 1) := by decide +kernel
theorem dX12_wantingMany_42 : decode cX12_wantingMany 42 = .ok (.ireturn, 1) := by decide +kernel
theorem dX12_wantingMany_43 : decode cX12_wantingMany 43 = .ok (.iinc 2 1, 3) := by decide +kernel
theorem dX12_wantingMany_46 : decode cX12_wantingMany 46 = .ok (.goto (-29), 3) := by decide +kernel
theorem dX12_wantingMany_49 : decode cX12_wantingMany 49 = .ok (.iconst 0, 1) := by decide +kernel
theorem dX12_wantingMany_50 : decode cX12_wantingMany 50 = .ok (.istore_n 2, 1) := by decide +kernel
theorem dX12_wantingMany_51 : decode cX12_wantingMany 51 = .ok (.iload_n 2, 1) := by decide +kernel
theorem dX12_wantingMany_52 : decode cX12_wantingMany 52 = .ok (.iload_n 1, 1) := by decide +kernel
theorem dX12_wantingMany_53 : decode cX12_wantingMany 53 = .ok (.if_icmp .ge 58, 3) := by decide +kernel
theorem dX12_wantingMany_56 : decode cX12_wantingMany 56 = .ok (.iload_n 2, 1) := by decide +kernel
theorem dX12_wantingMany_57 : decode cX12_wantingMany 57 = .ok (.iconst 1, 1) := by decide +kernel
theorem dX12_wantingMany_58 : decode cX12_wantingMany 58 = .ok (.iadd, 1) := by decide +kernel
theorem dX12_wantingMany_59 : decode cX12_wantingMany 59 = .ok (.istore_n 3, 1) := by decide +kernel
theorem dX12_wantingMany_60 : decode cX12_wantingMany 60 = .ok (.iload_n 3, 1) := by decide +kernel
theorem dX12_wantingMany_61 : decode cX12_wantingMany 61 = .ok (.iload_n 1, 1) := by decide +kernel
theorem dX12_wantingMany_62 : decode cX12_wantingMany 62 = .ok (.if_icmp .ge 43, 3) := by decide +kernel
theorem dX12_wantingMany_65 : decode cX12_wantingMany 65 = .ok (.aload_n 0, 1) := by decide +kernel
theorem dX12_wantingMany_66 : decode cX12_wantingMany 66 = .ok (.getfield 151, 3) := by decide +kernel
theorem dX12_wantingMany_69 : decode cX12_wantingMany 69 = .ok (.iconst 0, 1) := by decide +kernel
theorem dX12_wantingMany_70 : decode cX12_wantingMany 70 = .ok (.iload_n 2, 1) := by decide +kernel
theorem dX12_wantingMany_71 : decode cX12_wantingMany 71 = .ok (.iastore, 1) := by decide +kernel
theorem dX12_wantingMany_72 : decode cX12_wantingMany 72 = .ok (.aload_n 0, 1) := by decide +kernel
theorem dX12_wantingMany_73 : decode cX12_wantingMany 73 = .ok (.getfield 151, 3) := by decide +kernel
theorem dX12_wantingMany_76 : decode cX12_wantingMany 76 = .ok (.iconst 1, 1) := by decide +kernel
theorem dX12_wantingMany_77 : decode cX12_wantingMany 77 = .ok (.iload_n 3, 1) := by decide +kernel
theorem dX12_wantingMany_78 : decode cX12_wantingMany 78 = .ok (.iastore, 1) := by decide +kernel
theorem dX12_wantingMany_79 : decode cX12_wantingMany 79 = .ok (.aload_n 0, 1) := by decide +kernel
theorem dX12_wantingMany_80 : decode cX12_wantingMany 80 = .ok (.aload_n 0, 1) := by decide +kernel
theorem dX12_wantingMany_81 : decode cX12_wantingMany 81 = .ok (.iload_n 2, 1) := by decide +kernel
theorem dX12_wantingMany_82 : decode cX12_wantingMany 82 = .ok (.invokevirtual 584, 3) := by decide +kernel
theorem dX12_wantingMany_85 : decode cX12_wantingMany 85 = .ok (.aload_n 0, 1) := by decide +kernel
theorem dX12_wantingMany_86 : decode cX12_wantingMany 86 = .ok (.iload_n 3, 1) := by decide +kernel
theorem dX12_wantingMany_87 : decode cX12_wantingMany 87 = .ok (.invokevirtual 584, 3) := by decide +kernel
theorem dX12_wantingMany_90 : decode cX12_wantingMany 90 = .ok (.ior, 1) := by decide +kernel
theorem dX12_wantingMany_91 : decode cX12_wantingMany 91 = .ok (.invokevirtual 581, 3) := by decide +kernel
theorem dX12_wantingMany_94 : decode cX12_wantingMany 94 = .ok (.ifCond .eq 5, 3) := by decide +kernel
theorem dX12_wantingMany_97 : decode cX12_wantingMany 97 = .ok (.iconst 2, 1) := by decide +kernel
theorem dX12_wantingMany_98 : decode cX12_wantingMany 98 = .ok (.ireturn, 1) := by decide +kernel
theorem dX12_wantingMany_99 : decode cX12_wantingMany 99 = .ok (.iinc 3 1, 3) := by decide +kernel
theorem dX12_wantingMany_102 : decode cX12_wantingMany 102 = .ok (.goto (-42), 3) := by decide +kernel
theorem dX12_wantingMany_105 : decode cX12_wantingMany 105 = .ok (.iinc 2 1, 3) := by decide +kernel
theorem dX12_wantingMany_108 : decode cX12_wantingMany 108 = .ok (.goto (-57), 3) := by decide +kernel
theorem dX12_wantingMany_111 : decode cX12_wantingMany 111 = .ok (.iconst 0, 1) := by decide +kernel
theorem dX12_wantingMany_112 : decode cX12_wantingMany 112 = .ok (.istore_n 2, 1) := by decide +kernel
theorem dX12_wantingMany_113 : decode cX12_wantingMany 113 = .ok (.iload_n 2, 1) := by decide +kernel
theorem dX12_wantingMany_114 : decode cX12_wantingMany 114 = .ok (.iload_n 1, 1) := by decide +kernel
theorem dX12_wantingMany_115 : decode cX12_wantingMany 115 = .ok (.if_icmp .ge 90, 3) := by decide +kernel
theorem dX12_wantingMany_118 : decode cX12_wantingMany 118 = .ok (.iload_n 2, 1) := by decide +kernel
theorem dX12_wantingMany_119 : decode cX12_wantingMany 119 = .ok (.iconst 1, 1) := by decide +kernel
theorem dX12_wantingMany_120 : decode cX12_wantingMany 120 = .ok (.iadd, 1) := by decide +kernel
theorem dX12_wantingMany_121 : decode cX12_wantingMany 121 = .ok (.istore_n 3, 1) := by decide +kernel
theorem dX12_wantingMany_122 : decode cX12_wantingMany 122 = .ok (.iload_n 3, 1) := by decide +kernel
theorem dX12_wantingMany_123 : decode cX12_wantingMany 123 = .ok (.iload_n 1, 1) := by decide +kernel
theorem dX12_wantingMany_124 : decode cX12_wantingMany 124 = .ok (.if_icmp .ge 75, 3) := by decide +kernel
theorem dX12_wantingMany_127 : decode cX12_wantingMany 127 = .ok (.iload_n 3, 1) := by decide +kernel
theorem dX12_wantingMany_128 : decode cX12_wantingMany 128 = .ok (.iconst 1, 1) := by decide +kernel
theorem dX12_wantingMany_129 : decode cX12_wantingMany 129 = .ok (.iadd, 1) := by decide +kernel
theorem dX12_wantingMany_130 : decode cX12_wantingMany 130 = .ok (.istore 4, 2) := by decide +kernel
theorem dX12_wantingMany_132 : decode cX12_wantingMany 132 = .ok (.iload 4, 2) := by decide +kernel
theorem dX12_wantingMany_134 : decode cX12_wantingMany 134 = .ok (.iload_n 1, 1) := by decide +kernel
theorem dX12_wantingMany_135 : decode cX12_wantingMany 135 = .ok (.if_icmp .ge 58, 3) := by decide +kernel
theorem dX12_wantingMany_138 : decode cX12_wantingMany 138 = .ok (.aload_n 0, 1) := by decide +kernel
theorem dX12_wantingMany_139 : decode cX12_wantingMany 139 = .ok (.getfield 151, 3) := by decide +kernel
theorem dX12_wantingMany_142 : decode cX12_wantingMany 142 = .ok (.iconst 0, 1) := by decide +kernel
theorem dX12_wantingMany_143 : decode cX12_wantingMany 143 = .ok (.iload_n 2, 1) := by decide +kernel
theorem dX12_wantingMany_144 : decode cX12_wantingMany 144 = .ok (.iastore, 1) := by decide +kernel
theorem dX12_wantingMany_145 : decode cX12_wantingMany 145 = .ok (.aload_n 0, 1) := by decide +kernel
theorem dX12_wantingMany_146 : decode cX12_wantingMany 146 = .ok (.getfield 151, 3) := by decide +kernel
theorem dX12_wantingMany_149 : decode cX12_wantingMany 149 = .ok (.iconst 1, 1) := by decide +kernel
theorem dX12_wantingMany_150 : decode cX12_wantingMany 150 = .ok (.iload_n 3, 1) := by decide +kernel
theorem dX12_wantingMany_151 : decode cX12_wantingMany 151 = .ok (.iastore, 1) := by decide +kernel
theorem dX12_wantingMany_152 : decode cX12_wantingMany 152 = .ok (.aload_n 0, 1) := by decide +kernel
theorem dX12_wantingMany_153 : decode cX12_wantingMany 153 = .ok (.getfield 151, 3) := by decide +kernel
theorem dX12_wantingMany_156 : decode cX12_wantingMany 156 = .ok (.iconst 2, 1) := by decide +kernel
theorem dX12_wantingMany_157 : decode cX12_wantingMany 157 = .ok (.iload 4, 2) := by decide +kernel
theorem dX12_wantingMany_159 : decode cX12_wantingMany 159 = .ok (.iastore, 1) := by decide +kernel
theorem dX12_wantingMany_160 : decode cX12_wantingMany 160 = .ok (.aload_n 0, 1) := by decide +kernel
theorem dX12_wantingMany_161 : decode cX12_wantingMany 161 = .ok (.aload_n 0, 1) := by decide +kernel
theorem dX12_wantingMany_162 : decode cX12_wantingMany 162 = .ok (.iload_n 2, 1) := by decide +kernel
theorem dX12_wantingMany_163 : decode cX12_wantingMany 163 = .ok (.invokevirtual 584, 3) := by decide +kernel
theorem dX12_wantingMany_166 : decode cX12_wantingMany 166 = .ok (.aload_n 0, 1) := by decide +kernel
theorem dX12_wantingMany_167 : decode cX12_wantingMany 167 = .ok (.iload_n 3, 1) := by decide +kernel
theorem dX12_wantingMany_168 : decode cX12_wantingMany 168 = .ok (.invokevirtual 584, 3) := by decide +kernel
theorem dX12_wantingMany_171 : decode cX12_wantingMany 171 = .ok (.ior, 1) := by decide +kernel
theorem dX12_wantingMany_172 : decode cX12_wantingMany 172 = .ok (.aload_n 0, 1) := by decide +kernel
theorem dX12_wantingMany_173 : decode cX12_wantingMany 173 = .ok (.iload 4, 2) := by decide +kernel
theorem dX12_wantingMany_175 : decode cX12_wantingMany 175 = .ok (.invokevirtual 584, 3) := by decide +kernel
theorem dX12_wantingMany_178 : decode cX12_wantingMany 178 = .ok (.ior, 1) := by decide +kernel
theorem dX12_wantingMany_179 : decode cX12_wantingMany 179 = .ok (.invokevirtual 581, 3) := by decide +kernel
theorem dX12_wantingMany_182 : decode cX12_wantingMany 182 = .ok (.ifCond .eq 5, 3) := by decide +kernel
theorem dX12_wantingMany_185 : decode cX12_wantingMany 185 = .ok (.iconst 3, 1) := by decide +kernel
theorem dX12_wantingMany_186 : decode cX12_wantingMany 186 = .ok (.ireturn, 1) := by decide +kernel
theorem dX12_wantingMany_187 : decode cX12_wantingMany 187 = .ok (.iinc 4 1, 3) := by decide +kernel
theorem dX12_wantingMany_190 : decode cX12_wantingMany 190 = .ok (.goto (-58), 3) := by decide +kernel
theorem dX12_wantingMany_193 : decode cX12_wantingMany 193 = .ok (.iinc 3 1, 3) := by decide +kernel
theorem dX12_wantingMany_196 : decode cX12_wantingMany 196 = .ok (.goto (-74), 3) := by decide +kernel
theorem dX12_wantingMany_199 : decode cX12_wantingMany 199 = .ok (.iinc 2 1, 3) := by decide +kernel
theorem dX12_wantingMany_202 : decode cX12_wantingMany 202 = .ok (.goto (-89), 3) := by decide +kernel
theorem dX12_wantingMany_205 : decode cX12_wantingMany 205 = .ok (.iconst (-1), 1) := by decide +kernel
theorem dX12_wantingMany_206 : decode cX12_wantingMany 206 = .ok (.ireturn, 1) := by decide +kernel
theorem dX12_wanting_0 : decode cX12_wanting 0 = .ok (.aload_n 0, 1) := by decide +kernel
theorem dX12_wanting_1 : decode cX12_wanting 1 = .ok (.getfield 399, 3) := by decide +kernel
theorem dX12_wanting_4 : decode cX12_wanting 4 = .ok (.ifCond .eq 17, 3) := by decide +kernel
theorem dX12_wanting_7 : decode cX12_wanting 7 = .ok (.iload_n 1, 1) := by decide +kernel
theorem dX12_wanting_8 : decode cX12_wanting 8 = .ok (.i2l, 1) := by decide +kernel
theorem dX12_wanting_9 : decode cX12_wanting 9 = .ok (.ldc2_w 587, 3) := by decide +kernel
theorem dX12_wanting_12 : decode cX12_wanting 12 = .ok (.ldc2_w 554, 3) := by decide +kernel
theorem dX12_wanting_15 : decode cX12_wanting 15 = .ok (.invokestatic 303, 3) := by decide +kernel
theorem dX12_wanting_18 : decode cX12_wanting 18 = .ok (.ifCond .ne 5, 3) := by decide +kernel
theorem dX12_wanting_21 : decode cX12_wanting 21 = .ok (.iconst (-1), 1) := by decide +kernel
theorem dX12_wanting_22 : decode cX12_wanting 22 = .ok (.ireturn, 1) := by decide +kernel
theorem dX12_wanting_23 : decode cX12_wanting 23 = .ok (.aload_n 0, 1) := by decide +kernel
theorem dX12_wanting_24 : decode cX12_wanting 24 = .ok (.invokevirtual 589, 3) := by decide +kernel
theorem dX12_wanting_27 : decode cX12_wanting 27 = .ok (.istore_n 2, 1) := by decide +kernel
theorem dX12_wanting_28 : decode cX12_wanting 28 = .ok (.aload_n 0, 1) := by decide +kernel
theorem dX12_wanting_29 : decode cX12_wanting 29 = .ok (.iconst 0, 1) := by decide +kernel
theorem dX12_wanting_30 : decode cX12_wanting 30 = .ok (.putfield 559, 3) := by decide +kernel
theorem dX12_wanting_33 : decode cX12_wanting 33 = .ok (.iload_n 1, 1) := by decide +kernel
theorem dX12_wanting_34 : decode cX12_wanting 34 = .ok (.iconst (-1), 1) := by decide +kernel
theorem dX12_wanting_35 : decode cX12_wanting 35 = .ok (.if_icmp .eq 8, 3) := by decide +kernel
theorem dX12_wanting_38 : decode cX12_wanting 38 = .ok (.iload_n 2, 1) := by decide +kernel
theorem dX12_wanting_39 : decode cX12_wanting 39 = .ok (.iconst (-1), 1) := by decide +kernel
theorem dX12_wanting_40 : decode cX12_wanting 40 = .ok (.if_icmp .ne 5, 3) := by decide +kernel
theorem dX12_wanting_43 : decode cX12_wanting 43 = .ok (.iload_n 2, 1) := by decide +kernel
theorem dX12_wanting_44 : decode cX12_wanting 44 = .ok (.ireturn, 1) := by decide +kernel
theorem dX12_wanting_45 : decode cX12_wanting 45 = .ok (.iload_n 1, 1) := by decide +kernel
theorem dX12_wanting_46 : decode cX12_wanting 46 = .ok (.iload_n 2, 1) := by decide +kernel
theorem dX12_wanting_47 : decode cX12_wanting 47 = .ok (.if_icmp .ge 32, 3) := by decide +kernel
theorem dX12_wanting_50 : decode cX12_wanting 50 = .ok (.bipush 8, 2) := by decide +kernel
theorem dX12_wanting_52 : decode cX12_wanting 52 = .ok (.aload_n 0, 1) := by decide +kernel
theorem dX12_wanting_53 : decode cX12_wanting 53 = .ok (.getfield 145, 3) := by decide +kernel
theorem dX12_wanting_56 : decode cX12_wanting 56 = .ok (.aload_n 0, 1) := by decide +kernel
theorem dX12_wanting_57 : decode cX12_wanting 57 = .ok (.getfield 151, 3) := by decide +kernel
theorem dX12_wanting_60 : decode cX12_wanting 60 = .ok (.iload_n 1, 1) := by decide +kernel
theorem dX12_wanting_61 : decode cX12_wanting 61 = .ok (.iaload, 1) := by decide +kernel
theorem dX12_wanting_62 : decode cX12_wanting 62 = .ok (.iaload, 1) := by decide +kernel
theorem dX12_wanting_63 : decode cX12_wanting 63 = .ok (.imul, 1) := by decide +kernel
theorem dX12_wanting_64 : decode cX12_wanting 64 = .ok (.aload_n 0, 1) := by decide +kernel
theorem dX12_wanting_65 : decode cX12_wanting 65 = .ok (.getfield 148, 3) := by decide +kernel
theorem dX12_wanting_68 : decode cX12_wanting 68 = .ok (.aload_n 0, 1) := by decide +kernel
theorem dX12_wanting_69 : decode cX12_wanting 69 = .ok (.getfield 151, 3) := by decide +kernel
theorem dX12_wanting_72 : decode cX12_wanting 72 = .ok (.iload_n 1, 1) := by decide +kernel
theorem dX12_wanting_73 : decode cX12_wanting 73 = .ok (.iaload, 1) := by decide +kernel
theorem dX12_wanting_74 : decode cX12_wanting 74 = .ok (.iaload, 1) := by decide +kernel
theorem dX12_wanting_75 : decode cX12_wanting 75 = .ok (.iadd, 1) := by decide +kernel
theorem dX12_wanting_76 : decode cX12_wanting 76 = .ok (.goto 4, 3) := by decide +kernel
theorem dX12_wanting_79 : decode cX12_wanting 79 = .ok (.iconst (-1), 1) := by decide +kernel
theorem dX12_wanting_80 : decode cX12_wanting 80 = .ok (.ireturn, 1) := by decide +kernel
theorem dX12_laysFeuds_0 : decode cX12_laysFeuds 0 = .ok (.iconst 0, 1) := by decide +kernel
theorem dX12_laysFeuds_1 : decode cX12_laysFeuds 1 = .ok (.istore_n 1, 1) := by decide +kernel
theorem dX12_laysFeuds_2 : decode cX12_laysFeuds 2 = .ok (.iconst 0, 1) := by decide +kernel
theorem dX12_laysFeuds_3 : decode cX12_laysFeuds 3 = .ok (.istore_n 2, 1) := by decide +kernel
theorem dX12_laysFeuds_4 : decode cX12_laysFeuds 4 = .ok (.iload_n 2, 1) := by decide +kernel
theorem dX12_laysFeuds_5 : decode cX12_laysFeuds 5 = .ok (.aload_n 0, 1) := by decide +kernel
theorem dX12_laysFeuds_6 : decode cX12_laysFeuds 6 = .ok (.invokevirtual 412, 3) := by decide +kernel
theorem dX12_laysFeuds_9 : decode cX12_laysFeuds 9 = .ok (.if_icmp .ge 56, 3) := by decide +kernel
theorem dX12_laysFeuds_12 : decode cX12_laysFeuds 12 = .ok (.iload_n 2, 1) := by decide +kernel
theorem dX12_laysFeuds_13 : decode cX12_laysFeuds 13 = .ok (.iconst 1, 1) := by decide +kernel
theorem dX12_laysFeuds_14 : decode cX12_laysFeuds 14 = .ok (.iadd, 1) := by decide +kernel
theorem dX12_laysFeuds_15 : decode cX12_laysFeuds 15 = .ok (.istore_n 3, 1) := by decide +kernel
theorem dX12_laysFeuds_16 : decode cX12_laysFeuds 16 = .ok (.iload_n 3, 1) := by decide +kernel
theorem dX12_laysFeuds_17 : decode cX12_laysFeuds 17 = .ok (.aload_n 0, 1) := by decide +kernel
theorem dX12_laysFeuds_18 : decode cX12_laysFeuds 18 = .ok (.invokevirtual 412, 3) := by decide +kernel
theorem dX12_laysFeuds_21 : decode cX12_laysFeuds 21 = .ok (.if_icmp .ge 38, 3) := by decide +kernel
theorem dX12_laysFeuds_24 : decode cX12_laysFeuds 24 = .ok (.aload_n 0, 1) := by decide +kernel
theorem dX12_laysFeuds_25 : decode cX12_laysFeuds 25 = .ok (.iload_n 2, 1) := by decide +kernel
theorem dX12_laysFeuds_26 : decode cX12_laysFeuds 26 = .ok (.iload_n 3, 1) := by decide +kernel
theorem dX12_laysFeuds_27 : decode cX12_laysFeuds 27 = .ok (.invokevirtual 418, 3) := by decide +kernel
theorem dX12_laysFeuds_30 : decode cX12_laysFeuds 30 = .ok (.ifCond .ne 6, 3) := by decide +kernel
theorem dX12_laysFeuds_33 : decode cX12_laysFeuds 33 = .ok (.goto 20, 3) := by decide +kernel
theorem dX12_laysFeuds_36 : decode cX12_laysFeuds 36 = .ok (.aload_n 0, 1) := by decide +kernel
theorem dX12_laysFeuds_37 : decode cX12_laysFeuds 37 = .ok (.getfield 145, 3) := by decide +kernel
theorem dX12_laysFeuds_40 : decode cX12_laysFeuds 40 = .ok (.iload_n 1, 1) := by decide +kernel
theorem dX12_laysFeuds_41 : decode cX12_laysFeuds 41 = .ok (.iload_n 2, 1) := by decide +kernel
theorem dX12_laysFeuds_42 : decode cX12_laysFeuds 42 = .ok (.iastore, 1) := by decide +kernel
theorem dX12_laysFeuds_43 : decode cX12_laysFeuds 43 = .ok (.aload_n 0, 1) := by decide +kernel
theorem dX12_laysFeuds_44 : decode cX12_laysFeuds 44 = .ok (.getfield 148, 3) := by decide +kernel
theorem dX12_laysFeuds_47 : decode cX12_laysFeuds 47 = .ok (.iload_n 1, 1) := by decide +kernel
theorem dX12_laysFeuds_48 : decode cX12_laysFeuds 48 = .ok (.iload_n 3, 1) := by decide +kernel
theorem dX12_laysFeuds_49 : decode cX12_laysFeuds 49 = .ok (.iastore, 1) := by decide +kernel
theorem dX12_laysFeuds_50 : decode cX12_laysFeuds 50 = .ok (.iinc 1 1, 3) := by decide +kernel
theorem dX12_laysFeuds_53 : decode cX12_laysFeuds 53 = .ok (.iinc 3 1, 3) := by decide +kernel
theorem dX12_laysFeuds_56 : decode cX12_laysFeuds 56 = .ok (.goto (-40), 3) := by decide +kernel
theorem dX12_laysFeuds_59 : decode cX12_laysFeuds 59 = .ok (.iinc 2 1, 3) := by decide +kernel
theorem dX12_laysFeuds_62 : decode cX12_laysFeuds 62 = .ok (.goto (-58), 3) := by decide +kernel
theorem dX12_laysFeuds_65 : decode cX12_laysFeuds 65 = .ok (.iload_n 1, 1) := by decide +kernel
theorem dX12_laysFeuds_66 : decode cX12_laysFeuds 66 = .ok (.ireturn, 1) := by decide +kernel
theorem dX12_leftBy_0 : decode cX12_leftBy 0 = .ok (.iconst 0, 1) := by decide +kernel
theorem dX12_leftBy_1 : decode cX12_leftBy 1 = .ok (.istore 4, 2) := by decide +kernel
theorem dX12_leftBy_3 : decode cX12_leftBy 3 = .ok (.iload 4, 2) := by decide +kernel
theorem dX12_leftBy_5 : decode cX12_leftBy 5 = .ok (.iload_n 2, 1) := by decide +kernel
theorem dX12_leftBy_6 : decode cX12_leftBy 6 = .ok (.if_icmp .ge 45, 3) := by decide +kernel
theorem dX12_leftBy_9 : decode cX12_leftBy 9 = .ok (.iload_n 1, 1) := by decide +kernel
theorem dX12_leftBy_10 : decode cX12_leftBy 10 = .ok (.iload 4, 2) := by decide +kernel
theorem dX12_leftBy_12 : decode cX12_leftBy 12 = .ok (.ishr, 1) := by decide +kernel
theorem dX12_leftBy_13 : decode cX12_leftBy 13 = .ok (.iconst 1, 1) := by decide +kernel
theorem dX12_leftBy_14 : decode cX12_leftBy 14 = .ok (.iand, 1) := by decide +kernel
theorem dX12_leftBy_15 : decode cX12_leftBy 15 = .ok (.iconst 1, 1) := by decide +kernel
theorem dX12_leftBy_16 : decode cX12_leftBy 16 = .ok (.if_icmp .ne 29, 3) := by decide +kernel
theorem dX12_leftBy_19 : decode cX12_leftBy 19 = .ok (.aload_n 0, 1) := by decide +kernel
theorem dX12_leftBy_20 : decode cX12_leftBy 20 = .ok (.getfield 118, 3) := by decide +kernel
theorem dX12_leftBy_23 : decode cX12_leftBy 23 = .ok (.bipush 22, 2) := by decide +kernel
theorem dX12_leftBy_25 : decode cX12_leftBy 25 = .ok (.aload_n 0, 1) := by decide +kernel
theorem dX12_leftBy_26 : decode cX12_leftBy 26 = .ok (.getfield 145, 3) := by decide +kernel
theorem dX12_leftBy_29 : decode cX12_leftBy 29 = .ok (.iload 4, 2) := by decide +kernel
theorem dX12_leftBy_31 : decode cX12_leftBy 31 = .ok (.iaload, 1) := by decide +kernel
theorem dX12_leftBy_32 : decode cX12_leftBy 32 = .ok (.aload_n 0, 1) := by decide +kernel
theorem dX12_leftBy_33 : decode cX12_leftBy 33 = .ok (.getfield 148, 3) := by decide +kernel
theorem dX12_leftBy_36 : decode cX12_leftBy 36 = .ok (.iload 4, 2) := by decide +kernel
theorem dX12_leftBy_38 : decode cX12_leftBy 38 = .ok (.iaload, 1) := by decide +kernel
theorem dX12_leftBy_39 : decode cX12_leftBy 39 = .ok (.invokestatic 347, 3) := by decide +kernel
theorem dX12_leftBy_42 : decode cX12_leftBy 42 = .ok (.iadd, 1) := by decide +kernel
theorem dX12_leftBy_43 : decode cX12_leftBy 43 = .ok (.iconst 0, 1) := by decide +kernel
theorem dX12_leftBy_44 : decode cX12_leftBy 44 = .ok (.iastore, 1) := by decide +kernel
theorem dX12_leftBy_45 : decode cX12_leftBy 45 = .ok (.iinc 4 1, 3) := by decide +kernel
theorem dX12_leftBy_48 : decode cX12_leftBy 48 = .ok (.goto (-45), 3) := by decide +kernel
theorem dX12_leftBy_51 : decode cX12_leftBy 51 = .ok (.aload_n 0, 1) := by decide +kernel
theorem dX12_leftBy_52 : decode cX12_leftBy 52 = .ok (.iload_n 3, 1) := by decide +kernel
theorem dX12_leftBy_53 : decode cX12_leftBy 53 = .ok (.invokevirtual 556, 3) := by decide +kernel
theorem dX12_leftBy_56 : decode cX12_leftBy 56 = .ok (.aload_n 0, 1) := by decide +kernel
theorem dX12_leftBy_57 : decode cX12_leftBy 57 = .ok (.invokevirtual 522, 3) := by decide +kernel
theorem dX12_leftBy_60 : decode cX12_leftBy 60 = .ok (.istore 4, 2) := by decide +kernel
theorem dX12_leftBy_62 : decode cX12_leftBy 62 = .ok (.aload_n 0, 1) := by decide +kernel
theorem dX12_leftBy_63 : decode cX12_leftBy 63 = .ok (.invokevirtual 519, 3) := by decide +kernel
theorem dX12_leftBy_66 : decode cX12_leftBy 66 = .ok (.iload 4, 2) := by decide +kernel
theorem dX12_leftBy_68 : decode cX12_leftBy 68 = .ok (.ireturn, 1) := by decide +kernel
theorem dX12_spared_0 : decode cX12_spared 0 = .ok (.aload_n 0, 1) := by decide +kernel
theorem dX12_spared_1 : decode cX12_spared 1 = .ok (.iload_n 1, 1) := by decide +kernel
theorem dX12_spared_2 : decode cX12_spared 2 = .ok (.iconst 1, 1) := by decide +kernel
theorem dX12_spared_3 : decode cX12_spared 3 = .ok (.bipush 20, 2) := by decide +kernel
theorem dX12_spared_5 : decode cX12_spared 5 = .ok (.invokevirtual 550, 3) := by decide +kernel
theorem dX12_spared_8 : decode cX12_spared 8 = .ok (.ifCond .eq 8, 3) := by decide +kernel
theorem dX12_spared_11 : decode cX12_spared 11 = .ok (.iload_n 2, 1) := by decide +kernel
theorem dX12_spared_12 : decode cX12_spared 12 = .ok (.iconst (-1), 1) := by decide +kernel
theorem dX12_spared_13 : decode cX12_spared 13 = .ok (.if_icmp .ge 5, 3) := by decide +kernel
theorem dX12_spared_16 : decode cX12_spared 16 = .ok (.iconst (-1), 1) := by decide +kernel
theorem dX12_spared_17 : decode cX12_spared 17 = .ok (.ireturn, 1) := by decide +kernel
theorem dX12_spared_18 : decode cX12_spared 18 = .ok (.aload_n 0, 1) := by decide +kernel
theorem dX12_spared_19 : decode cX12_spared 19 = .ok (.invokevirtual 592, 3) := by decide +kernel
theorem dX12_spared_22 : decode cX12_spared 22 = .ok (.istore_n 3, 1) := by decide +kernel
theorem dX12_spared_23 : decode cX12_spared 23 = .ok (.iload_n 3, 1) := by decide +kernel
theorem dX12_spared_24 : decode cX12_spared 24 = .ok (.bipush 10, 2) := by decide +kernel
theorem dX12_spared_26 : decode cX12_spared 26 = .ok (.if_icmp .le 5, 3) := by decide +kernel
theorem dX12_spared_29 : decode cX12_spared 29 = .ok (.iconst (-1), 1) := by decide +kernel
theorem dX12_spared_30 : decode cX12_spared 30 = .ok (.ireturn, 1) := by decide +kernel
theorem dX12_spared_31 : decode cX12_spared 31 = .ok (.aload_n 0, 1) := by decide +kernel
theorem dX12_spared_32 : decode cX12_spared 32 = .ok (.invokevirtual 544, 3) := by decide +kernel
theorem dX12_spared_35 : decode cX12_spared 35 = .ok (.aload_n 0, 1) := by decide +kernel
theorem dX12_spared_36 : decode cX12_spared 36 = .ok (.iconst 0, 1) := by decide +kernel
theorem dX12_spared_37 : decode cX12_spared 37 = .ok (.iload_n 3, 1) := by decide +kernel
theorem dX12_spared_38 : decode cX12_spared 38 = .ok (.iload_n 1, 1) := by decide +kernel
theorem dX12_spared_39 : decode cX12_spared 39 = .ok (.invokevirtual 595, 3) := by decide +kernel
theorem dX12_spared_42 : decode cX12_spared 42 = .ok (.istore 4, 2) := by decide +kernel
theorem dX12_spared_44 : decode cX12_spared 44 = .ok (.iconst 0, 1) := by decide +kernel
theorem dX12_spared_45 : decode cX12_spared 45 = .ok (.istore 5, 2) := by decide +kernel
theorem dX12_spared_47 : decode cX12_spared 47 = .ok (.iconst 1, 1) := by decide +kernel
theorem dX12_spared_48 : decode cX12_spared 48 = .ok (.istore 6, 2) := by decide +kernel
theorem dX12_spared_50 : decode cX12_spared 50 = .ok (.iload 6, 2) := by decide +kernel
theorem dX12_spared_52 : decode cX12_spared 52 = .ok (.iconst 1, 1) := by decide +kernel
theorem dX12_spared_53 : decode cX12_spared 53 = .ok (.iload_n 3, 1) := by decide +kernel
theorem dX12_spared_54 : decode cX12_spared 54 = .ok (.ishl, 1) := by decide +kernel
theorem dX12_spared_55 : decode cX12_spared 55 = .ok (.if_icmp .ge 42, 3) := by decide +kernel
theorem dX12_spared_58 : decode cX12_spared 58 = .ok (.iload 6, 2) := by decide +kernel
theorem dX12_spared_60 : decode cX12_spared 60 = .ok (.invokestatic 525, 3) := by decide +kernel
theorem dX12_spared_63 : decode cX12_spared 63 = .ok (.iload 5, 2) := by decide +kernel
theorem dX12_spared_65 : decode cX12_spared 65 = .ok (.invokestatic 525, 3) := by decide +kernel
theorem dX12_spared_68 : decode cX12_spared 68 = .ok (.if_icmp .le 23, 3) := by decide +kernel
theorem dX12_spared_71 : decode cX12_spared 71 = .ok (.iload 4, 2) := by decide +kernel
theorem dX12_spared_73 : decode cX12_spared 73 = .ok (.aload_n 0, 1) := by decide +kernel
theorem dX12_spared_74 : decode cX12_spared 74 = .ok (.iload 6, 2) := by decide +kernel
theorem dX12_spared_76 : decode cX12_spared 76 = .ok (.iload_n 3, 1) := by decide +kernel
theorem dX12_spared_77 : decode cX12_spared 77 = .ok (.iload_n 1, 1) := by decide +kernel
theorem dX12_spared_78 : decode cX12_spared 78 = .ok (.invokevirtual 595, 3) := by decide +kernel
theorem dX12_spared_81 : decode cX12_spared 81 = .ok (.iconst (-1), 1) := by decide +kernel
theorem dX12_spared_82 : decode cX12_spared 82 = .ok (.ixor, 1) := by decide +kernel
theorem dX12_spared_83 : decode cX12_spared 83 = .ok (.iand, 1) := by decide +kernel
theorem dX12_spared_84 : decode cX12_spared 84 = .ok (.ifCond .ne 7, 3) := by decide +kernel
theorem dX12_spared_87 : decode cX12_spared 87 = .ok (.iload 6, 2) := by decide +kernel
theorem dX12_spared_89 : decode cX12_spared 89 = .ok (.istore 5, 2) := by decide +kernel
theorem dX12_spared_91 : decode cX12_spared 91 = .ok (.iinc 6 1, 3) := by decide +kernel
theorem dX12_spared_94 : decode cX12_spared 94 = .ok (.goto (-44), 3) := by decide +kernel
theorem dX12_spared_97 : decode cX12_spared 97 = .ok (.aload_n 0, 1) := by decide +kernel
theorem dX12_spared_98 : decode cX12_spared 98 = .ok (.invokevirtual 547, 3) := by decide +kernel
theorem dX12_spared_101 : decode cX12_spared 101 = .ok (.iload_n 2, 1) := by decide +kernel
theorem dX12_spared_102 : decode cX12_spared 102 = .ok (.iconst (-1), 1) := by decide +kernel
theorem dX12_spared_103 : decode cX12_spared 103 = .ok (.if_icmp .ne 9, 3) := by decide +kernel
theorem dX12_spared_106 : decode cX12_spared 106 = .ok (.iload 5, 2) := by decide +kernel
theorem dX12_spared_108 : decode cX12_spared 108 = .ok (.invokestatic 525, 3) := by decide +kernel
theorem dX12_spared_111 : decode cX12_spared 111 = .ok (.ireturn, 1) := by decide +kernel
theorem dX12_spared_112 : decode cX12_spared 112 = .ok (.iconst 0, 1) := by decide +kernel
theorem dX12_spared_113 : decode cX12_spared 113 = .ok (.istore 6, 2) := by decide +kernel
theorem dX12_spared_115 : decode cX12_spared 115 = .ok (.iconst 0, 1) := by decide +kernel
theorem dX12_spared_116 : decode cX12_spared 116 = .ok (.istore 7, 2) := by decide +kernel
theorem dX12_spared_118 : decode cX12_spared 118 = .ok (.iload 7, 2) := by decide +kernel
theorem dX12_spared_120 : decode cX12_spared 120 = .ok (.iload_n 3, 1) := by decide +kernel
theorem dX12_spared_121 : decode cX12_spared 121 = .ok (.if_icmp .ge 50, 3) := by decide +kernel
theorem dX12_spared_124 : decode cX12_spared 124 = .ok (.iload 5, 2) := by decide +kernel
theorem dX12_spared_126 : decode cX12_spared 126 = .ok (.iload 7, 2) := by decide +kernel
theorem dX12_spared_128 : decode cX12_spared 128 = .ok (.ishr, 1) := by decide +kernel
theorem dX12_spared_129 : decode cX12_spared 129 = .ok (.iconst 1, 1) := by decide +kernel
theorem dX12_spared_130 : decode cX12_spared 130 = .ok (.iand, 1) := by decide +kernel
theorem dX12_spared_131 : decode cX12_spared 131 = .ok (.ifCond .ne 6, 3) := by decide +kernel
theorem dX12_spared_134 : decode cX12_spared 134 = .ok (.goto 31, 3) := by decide +kernel
theorem dX12_spared_137 : decode cX12_spared 137 = .ok (.iload 6, 2) := by decide +kernel
theorem dX12_spared_139 : decode cX12_spared 139 = .ok (.iload_n 2, 1) := by decide +kernel
theorem dX12_spared_140 : decode cX12_spared 140 = .ok (.if_icmp .ne 22, 3) := by decide +kernel
theorem dX12_spared_143 : decode cX12_spared 143 = .ok (.bipush 8, 2) := by decide +kernel
theorem dX12_spared_145 : decode cX12_spared 145 = .ok (.aload_n 0, 1) := by decide +kernel
theorem dX12_spared_146 : decode cX12_spared 146 = .ok (.getfield 145, 3) := by decide +kernel
theorem dX12_spared_149 : decode cX12_spared 149 = .ok (.iload 7, 2) := by decide +kernel
theorem dX12_spared_151 : decode cX12_spared 151 = .ok (.iaload, 1) := by decide +kernel
theorem dX12_spared_152 : decode cX12_spared 152 = .ok (.imul, 1) := by decide +kernel
theorem dX12_spared_153 : decode cX12_spared 153 = .ok (.aload_n 0, 1) := by decide +kernel
theorem dX12_spared_154 : decode cX12_spared 154 = .ok (.getfield 148, 3) := by decide +kernel
theorem dX12_spared_157 : decode cX12_spared 157 = .ok (.iload 7, 2) := by decide +kernel
theorem dX12_spared_159 : decode cX12_spared 159 = .ok (.iaload, 1) := by decide +kernel
theorem dX12_spared_160 : decode cX12_spared 160 = .ok (.iadd, 1) := by decide +kernel
theorem dX12_spared_161 : decode cX12_spared 161 = .ok (.ireturn, 1) := by decide +kernel
theorem dX12_spared_162 : decode cX12_spared 162 = .ok (.iinc 6 1, 3) := by decide +kernel
theorem dX12_spared_165 : decode cX12_spared 165 = .ok (.iinc 7 1, 3) := by decide +kernel
theorem dX12_spared_168 : decode cX12_spared 168 = .ok (.goto (-50), 3) := by decide +kernel
theorem dX12_spared_171 : decode cX12_spared 171 = .ok (.iconst (-1), 1) := by decide +kernel
theorem dX12_spared_172 : decode cX12_spared 172 = .ok (.ireturn, 1) := by decide +kernel
theorem dX12_laysHunger_0 : decode cX12_laysHunger 0 = .ok (.aload_n 0, 1) := by decide +kernel
theorem dX12_laysHunger_1 : decode cX12_laysHunger 1 = .ok (.invokevirtual 544, 3) := by decide +kernel
theorem dX12_laysHunger_4 : decode cX12_laysHunger 4 = .ok (.iconst 0, 1) := by decide +kernel
theorem dX12_laysHunger_5 : decode cX12_laysHunger 5 = .ok (.istore_n 2, 1) := by decide +kernel
theorem dX12_laysHunger_6 : decode cX12_laysHunger 6 = .ok (.iload_n 2, 1) := by decide +kernel
theorem dX12_laysHunger_7 : decode cX12_laysHunger 7 = .ok (.iconst 1, 1) := by decide +kernel
theorem dX12_laysHunger_8 : decode cX12_laysHunger 8 = .ok (.aload_n 0, 1) := by decide +kernel
theorem dX12_laysHunger_9 : decode cX12_laysHunger 9 = .ok (.invokevirtual 412, 3) := by decide +kernel
theorem dX12_laysHunger_12 : decode cX12_laysHunger 12 = .ok (.ishl, 1) := by decide +kernel
theorem dX12_laysHunger_13 : decode cX12_laysHunger 13 = .ok (.if_icmp .ge 68, 3) := by decide +kernel
theorem dX12_laysHunger_16 : decode cX12_laysHunger 16 = .ok (.aload_n 0, 1) := by decide +kernel
theorem dX12_laysHunger_17 : decode cX12_laysHunger 17 = .ok (.iload_n 2, 1) := by decide +kernel
theorem dX12_laysHunger_18 : decode cX12_laysHunger 18 = .ok (.putfield 468, 3) := by decide +kernel
theorem dX12_laysHunger_21 : decode cX12_laysHunger 21 = .ok (.aload_n 0, 1) := by decide +kernel
theorem dX12_laysHunger_22 : decode cX12_laysHunger 22 = .ok (.iload_n 1, 1) := by decide +kernel
theorem dX12_laysHunger_23 : decode cX12_laysHunger 23 = .ok (.invokevirtual 556, 3) := by decide +kernel
theorem dX12_laysHunger_26 : decode cX12_laysHunger 26 = .ok (.iconst 0, 1) := by decide +kernel
theorem dX12_laysHunger_27 : decode cX12_laysHunger 27 = .ok (.istore_n 3, 1) := by decide +kernel
theorem dX12_laysHunger_28 : decode cX12_laysHunger 28 = .ok (.iload_n 3, 1) := by decide +kernel
theorem dX12_laysHunger_29 : decode cX12_laysHunger 29 = .ok (.aload_n 0, 1) := by decide +kernel
theorem dX12_laysHunger_30 : decode cX12_laysHunger 30 = .ok (.invokevirtual 412, 3) := by decide +kernel
theorem dX12_laysHunger_33 : decode cX12_laysHunger 33 = .ok (.if_icmp .ge 38, 3) := by decide +kernel
theorem dX12_laysHunger_36 : decode cX12_laysHunger 36 = .ok (.aload_n 0, 1) := by decide +kernel
theorem dX12_laysHunger_37 : decode cX12_laysHunger 37 = .ok (.getfield 154, 3) := by decide +kernel
theorem dX12_laysHunger_40 : decode cX12_laysHunger 40 = .ok (.bipush 7, 2) := by decide +kernel
theorem dX12_laysHunger_42 : decode cX12_laysHunger 42 = .ok (.iload_n 2, 1) := by decide +kernel
theorem dX12_laysHunger_43 : decode cX12_laysHunger 43 = .ok (.imul, 1) := by decide +kernel
theorem dX12_laysHunger_44 : decode cX12_laysHunger 44 = .ok (.iload_n 3, 1) := by decide +kernel
theorem dX12_laysHunger_45 : decode cX12_laysHunger 45 = .ok (.iadd, 1) := by decide +kernel
theorem dX12_laysHunger_46 : decode cX12_laysHunger 46 = .ok (.aload_n 0, 1) := by decide +kernel
theorem dX12_laysHunger_47 : decode cX12_laysHunger 47 = .ok (.iload_n 3, 1) := by decide +kernel
theorem dX12_laysHunger_48 : decode cX12_laysHunger 48 = .ok (.invokevirtual 462, 3) := by decide +kernel
theorem dX12_laysHunger_51 : decode cX12_laysHunger 51 = .ok (.ifCond .eq 11, 3) := by decide +kernel
theorem dX12_laysHunger_54 : decode cX12_laysHunger 54 = .ok (.aload_n 0, 1) := by decide +kernel
theorem dX12_laysHunger_55 : decode cX12_laysHunger 55 = .ok (.iload_n 3, 1) := by decide +kernel
theorem dX12_laysHunger_56 : decode cX12_laysHunger 56 = .ok (.invokevirtual 459, 3) := by decide +kernel
theorem dX12_laysHunger_59 : decode cX12_laysHunger 59 = .ok (.goto 5, 3) := by decide +kernel
theorem dX12_laysHunger_62 : decode cX12_laysHunger 62 = .ok (.bipush 10, 2) := by decide +kernel
theorem dX12_laysHunger_64 : decode cX12_laysHunger 64 = .ok (.iastore, 1) := by decide +kernel
theorem dX12_laysHunger_65 : decode cX12_laysHunger 65 = .ok (.iinc 3 1, 3) := by decide +kernel
theorem dX12_laysHunger_68 : decode cX12_laysHunger 68 = .ok (.goto (-40), 3) := by decide +kernel
theorem dX12_laysHunger_71 : decode cX12_laysHunger 71 = .ok (.aload_n 0, 1) := by decide +kernel
theorem dX12_laysHunger_72 : decode cX12_laysHunger 72 = .ok (.invokevirtual 519, 3) := by decide +kernel
theorem dX12_laysHunger_75 : decode cX12_laysHunger 75 = .ok (.iinc 2 1, 3) := by decide +kernel
theorem dX12_laysHunger_78 : decode cX12_laysHunger 78 = .ok (.goto (-72), 3) := by decide +kernel
theorem dX12_laysHunger_81 : decode cX12_laysHunger 81 = .ok (.aload_n 0, 1) := by decide +kernel
theorem dX12_laysHunger_82 : decode cX12_laysHunger 82 = .ok (.invokevirtual 547, 3) := by decide +kernel
theorem dX12_laysHunger_85 : decode cX12_laysHunger 85 = .ok (.return_, 1) := by decide +kernel
theorem dX12_isRest_0 : decode cX12_isRest 0 = .ok (.iconst 0, 1) := by decide +kernel
theorem dX12_isRest_1 : decode cX12_isRest 1 = .ok (.istore_n 2, 1) := by decide +kernel
theorem dX12_isRest_2 : decode cX12_isRest 2 = .ok (.iload_n 2, 1) := by decide +kernel
theorem dX12_isRest_3 : decode cX12_isRest 3 = .ok (.aload_n 0, 1) := by decide +kernel
theorem dX12_isRest_4 : decode cX12_isRest 4 = .ok (.invokevirtual 412, 3) := by decide +kernel
theorem dX12_isRest_7 : decode cX12_isRest 7 = .ok (.if_icmp .ge 40, 3) := by decide +kernel
theorem dX12_isRest_10 : decode cX12_isRest 10 = .ok (.aload_n 0, 1) := by decide +kernel
theorem dX12_isRest_11 : decode cX12_isRest 11 = .ok (.getfield 154, 3) := by decide +kernel
theorem dX12_isRest_14 : decode cX12_isRest 14 = .ok (.bipush 7, 2) := by decide +kernel
theorem dX12_isRest_16 : decode cX12_isRest 16 = .ok (.iload_n 1, 1) := by decide +kernel
theorem dX12_isRest_17 : decode cX12_isRest 17 = .ok (.iconst 1, 1) := by decide +kernel
theorem dX12_isRest_18 : decode cX12_isRest 18 = .ok (.iload_n 2, 1) := by decide +kernel
theorem dX12_isRest_19 : decode cX12_isRest 19 = .ok (.ishl, 1) := by decide +kernel
theorem dX12_isRest_20 : decode cX12_isRest 20 = .ok (.ixor, 1) := by decide +kernel
theorem dX12_isRest_21 : decode cX12_isRest 21 = .ok (.imul, 1) := by decide +kernel
theorem dX12_isRest_22 : decode cX12_isRest 22 = .ok (.iload_n 2, 1) := by decide +kernel
theorem dX12_isRest_23 : decode cX12_isRest 23 = .ok (.iadd, 1) := by decide +kernel
theorem dX12_isRest_24 : decode cX12_isRest 24 = .ok (.iaload, 1) := by decide +kernel
theorem dX12_isRest_25 : decode cX12_isRest 25 = .ok (.aload_n 0, 1) := by decide +kernel
theorem dX12_isRest_26 : decode cX12_isRest 26 = .ok (.getfield 154, 3) := by decide +kernel
theorem dX12_isRest_29 : decode cX12_isRest 29 = .ok (.bipush 7, 2) := by decide +kernel
theorem dX12_isRest_31 : decode cX12_isRest 31 = .ok (.iload_n 1, 1) := by decide +kernel
theorem dX12_isRest_32 : decode cX12_isRest 32 = .ok (.imul, 1) := by decide +kernel
theorem dX12_isRest_33 : decode cX12_isRest 33 = .ok (.iload_n 2, 1) := by decide +kernel
theorem dX12_isRest_34 : decode cX12_isRest 34 = .ok (.iadd, 1) := by decide +kernel
theorem dX12_isRest_35 : decode cX12_isRest 35 = .ok (.iaload, 1) := by decide +kernel
theorem dX12_isRest_36 : decode cX12_isRest 36 = .ok (.if_icmp .ge 5, 3) := by decide +kernel
theorem dX12_isRest_39 : decode cX12_isRest 39 = .ok (.iconst 0, 1) := by decide +kernel
theorem dX12_isRest_40 : decode cX12_isRest 40 = .ok (.ireturn, 1) := by decide +kernel
theorem dX12_isRest_41 : decode cX12_isRest 41 = .ok (.iinc 2 1, 3) := by decide +kernel
theorem dX12_isRest_44 : decode cX12_isRest 44 = .ok (.goto (-42), 3) := by decide +kernel
theorem dX12_isRest_47 : decode cX12_isRest 47 = .ok (.iconst 1, 1) := by decide +kernel
theorem dX12_isRest_48 : decode cX12_isRest 48 = .ok (.ireturn, 1) := by decide +kernel
theorem dX12_rest_0 : decode cX12_rest 0 = .ok (.aload_n 0, 1) := by decide +kernel
theorem dX12_rest_1 : decode cX12_rest 1 = .ok (.iload_n 1, 1) := by decide +kernel
theorem dX12_rest_2 : decode cX12_rest 2 = .ok (.iconst 1, 1) := by decide +kernel
theorem dX12_rest_3 : decode cX12_rest 3 = .ok (.bipush 20, 2) := by decide +kernel
theorem dX12_rest_5 : decode cX12_rest 5 = .ok (.invokevirtual 550, 3) := by decide +kernel
theorem dX12_rest_8 : decode cX12_rest 8 = .ok (.ifCond .ne 5, 3) := by decide +kernel
theorem dX12_rest_11 : decode cX12_rest 11 = .ok (.iconst (-1), 1) := by decide +kernel
theorem dX12_rest_12 : decode cX12_rest 12 = .ok (.ireturn, 1) := by decide +kernel
theorem dX12_rest_13 : decode cX12_rest 13 = .ok (.aload_n 0, 1) := by decide +kernel
theorem dX12_rest_14 : decode cX12_rest 14 = .ok (.iload_n 1, 1) := by decide +kernel
theorem dX12_rest_15 : decode cX12_rest 15 = .ok (.invokevirtual 598, 3) := by decide +kernel
theorem dX12_rest_18 : decode cX12_rest 18 = .ok (.iconst (-1), 1) := by decide +kernel
theorem dX12_rest_19 : decode cX12_rest 19 = .ok (.istore_n 2, 1) := by decide +kernel
theorem dX12_rest_20 : decode cX12_rest 20 = .ok (.iconst 0, 1) := by decide +kernel
theorem dX12_rest_21 : decode cX12_rest 21 = .ok (.istore_n 3, 1) := by decide +kernel
theorem dX12_rest_22 : decode cX12_rest 22 = .ok (.iload_n 3, 1) := by decide +kernel
theorem dX12_rest_23 : decode cX12_rest 23 = .ok (.iconst 1, 1) := by decide +kernel
theorem dX12_rest_24 : decode cX12_rest 24 = .ok (.aload_n 0, 1) := by decide +kernel
theorem dX12_rest_25 : decode cX12_rest 25 = .ok (.invokevirtual 412, 3) := by decide +kernel
theorem dX12_rest_28 : decode cX12_rest 28 = .ok (.ishl, 1) := by decide +kernel
theorem dX12_rest_29 : decode cX12_rest 29 = .ok (.if_icmp .ge 38, 3) := by decide +kernel
theorem dX12_rest_32 : decode cX12_rest 32 = .ok (.iload_n 2, 1) := by decide +kernel
theorem dX12_rest_33 : decode cX12_rest 33 = .ok (.iconst (-1), 1) := by decide +kernel
theorem dX12_rest_34 : decode cX12_rest 34 = .ok (.if_icmp .eq 17, 3) := by decide +kernel
theorem dX12_rest_37 : decode cX12_rest 37 = .ok (.iload_n 3, 1) := by decide +kernel
theorem dX12_rest_38 : decode cX12_rest 38 = .ok (.invokestatic 525, 3) := by decide +kernel
theorem dX12_rest_41 : decode cX12_rest 41 = .ok (.iload_n 2, 1) := by decide +kernel
theorem dX12_rest_42 : decode cX12_rest 42 = .ok (.invokestatic 525, 3) := by decide +kernel
theorem dX12_rest_45 : decode cX12_rest 45 = .ok (.if_icmp .lt 6, 3) := by decide +kernel
theorem dX12_rest_48 : decode cX12_rest 48 = .ok (.goto 13, 3) := by decide +kernel
theorem dX12_rest_51 : decode cX12_rest 51 = .ok (.aload_n 0, 1) := by decide +kernel
theorem dX12_rest_52 : decode cX12_rest 52 = .ok (.iload_n 3, 1) := by decide +kernel
theorem dX12_rest_53 : decode cX12_rest 53 = .ok (.invokevirtual 601, 3) := by decide +kernel
theorem dX12_rest_56 : decode cX12_rest 56 = .ok (.ifCond .eq 5, 3) := by decide +kernel
theorem dX12_rest_59 : decode cX12_rest 59 = .ok (.iload_n 3, 1) := by decide +kernel
theorem dX12_rest_60 : decode cX12_rest 60 = .ok (.istore_n 2, 1) := by decide +kernel
theorem dX12_rest_61 : decode cX12_rest 61 = .ok (.iinc 3 1, 3) := by decide +kernel
theorem dX12_rest_64 : decode cX12_rest 64 = .ok (.goto (-42), 3) := by decide +kernel
theorem dX12_rest_67 : decode cX12_rest 67 = .ok (.iload_n 2, 1) := by decide +kernel
theorem dX12_rest_68 : decode cX12_rest 68 = .ok (.ireturn, 1) := by decide +kernel
theorem dX12_refuses_0 : decode cX12_refuses 0 = .ok (.aload_n 0, 1) := by decide +kernel
theorem dX12_refuses_1 : decode cX12_refuses 1 = .ok (.getfield 17, 3) := by decide +kernel
theorem dX12_refuses_4 : decode cX12_refuses 4 = .ok (.iload_n 1, 1) := by decide +kernel
theorem dX12_refuses_5 : decode cX12_refuses 5 = .ok (.dup2, 1) := by decide +kernel
theorem dX12_refuses_6 : decode cX12_refuses 6 = .ok (.iaload, 1) := by decide +kernel
theorem dX12_refuses_7 : decode cX12_refuses 7 = .ok (.iconst 1, 1) := by decide +kernel
theorem dX12_refuses_8 : decode cX12_refuses 8 = .ok (.iadd, 1) := by decide +kernel
theorem dX12_refuses_9 : decode cX12_refuses 9 = .ok (.iastore, 1) := by decide +kernel
theorem dX12_refuses_10 : decode cX12_refuses 10 = .ok (.iconst (-1), 1) := by decide +kernel
theorem dX12_refuses_11 : decode cX12_refuses 11 = .ok (.ireturn, 1) := by decide +kernel
theorem dX12_see_0 : decode cX12_see 0 = .ok (.aload_n 0, 1) := by decide +kernel
theorem dX12_see_1 : decode cX12_see 1 = .ok (.getfield 257, 3) := by decide +kernel
theorem dX12_see_4 : decode cX12_see 4 = .ok (.istore_n 1, 1) := by decide +kernel
theorem dX12_see_5 : decode cX12_see 5 = .ok (.aload_n 0, 1) := by decide +kernel
theorem dX12_see_6 : decode cX12_see 6 = .ok (.iconst 0, 1) := by decide +kernel
theorem dX12_see_7 : decode cX12_see 7 = .ok (.putfield 257, 3) := by decide +kernel
theorem dX12_see_10 : decode cX12_see 10 = .ok (.iload_n 1, 1) := by decide +kernel
theorem dX12_see_11 : decode cX12_see 11 = .ok (.ifCond .le 21, 3) := by decide +kernel
theorem dX12_see_14 : decode cX12_see 14 = .ok (.iload_n 1, 1) := by decide +kernel
theorem dX12_see_15 : decode cX12_see 15 = .ok (.iconst 3, 1) := by decide +kernel
theorem dX12_see_16 : decode cX12_see 16 = .ok (.irem, 1) := by decide +kernel
theorem dX12_see_17 : decode cX12_see 17 = .ok (.ifCond .ne 15, 3) := by decide +kernel
theorem dX12_see_20 : decode cX12_see 20 = .ok (.iload_n 1, 1) := by decide +kernel
theorem dX12_see_21 : decode cX12_see 21 = .ok (.iconst 3, 1) := by decide +kernel
theorem dX12_see_22 : decode cX12_see 22 = .ok (.idiv, 1) := by decide +kernel
theorem dX12_see_23 : decode cX12_see 23 = .ok (.bipush 16, 2) := by decide +kernel
theorem dX12_see_25 : decode cX12_see 25 = .ok (.if_icmp .gt 7, 3) := by decide +kernel
theorem dX12_see_28 : decode cX12_see 28 = .ok (.iconst 1, 1) := by decide +kernel
theorem dX12_see_29 : decode cX12_see 29 = .ok (.goto 4, 3) := by decide +kernel
theorem dX12_see_32 : decode cX12_see 32 = .ok (.iconst 0, 1) := by decide +kernel
theorem dX12_see_33 : decode cX12_see 33 = .ok (.istore_n 2, 1) := by decide +kernel
theorem dX12_see_34 : decode cX12_see 34 = .ok (.iconst 0, 1) := by decide +kernel
theorem dX12_see_35 : decode cX12_see 35 = .ok (.istore_n 3, 1) := by decide +kernel
theorem dX12_see_36 : decode cX12_see 36 = .ok (.iload_n 3, 1) := by decide +kernel
theorem dX12_see_37 : decode cX12_see 37 = .ok (.iload_n 1, 1) := by decide +kernel
theorem dX12_see_38 : decode cX12_see 38 = .ok (.if_icmp .ge 73, 3) := by decide +kernel
theorem dX12_see_41 : decode cX12_see 41 = .ok (.iload_n 2, 1) := by decide +kernel
theorem dX12_see_42 : decode cX12_see 42 = .ok (.ifCond .eq 69, 3) := by decide +kernel
theorem dX12_see_45 : decode cX12_see 45 = .ok (.aload_n 0, 1) := by decide +kernel
theorem dX12_see_46 : decode cX12_see 46 = .ok (.getfield 7, 3) := by decide +kernel
theorem dX12_see_49 : decode cX12_see 49 = .ok (.iload_n 3, 1) := by decide +kernel
theorem dX12_see_50 : decode cX12_see 50 = .ok (.iaload, 1) := by decide +kernel
theorem dX12_see_51 : decode cX12_see 51 = .ok (.bipush 30, 2) := by decide +kernel
theorem dX12_see_53 : decode cX12_see 53 = .ok (.if_icmp .gt 50, 3) := by decide +kernel
theorem dX12_see_56 : decode cX12_see 56 = .ok (.aload_n 0, 1) := by decide +kernel
theorem dX12_see_57 : decode cX12_see 57 = .ok (.aload_n 0, 1) := by decide +kernel
theorem dX12_see_58 : decode cX12_see 58 = .ok (.getfield 7, 3) := by decide +kernel
theorem dX12_see_61 : decode cX12_see 61 = .ok (.iload_n 3, 1) := by decide +kernel
theorem dX12_see_62 : decode cX12_see 62 = .ok (.iconst 1, 1) := by decide +kernel
theorem dX12_see_63 : decode cX12_see 63 = .ok (.iadd, 1) := by decide +kernel
theorem dX12_see_64 : decode cX12_see 64 = .ok (.iaload, 1) := by decide +kernel
theorem dX12_see_65 : decode cX12_see 65 = .ok (.i2l, 1) := by decide +kernel
theorem dX12_see_66 : decode cX12_see 66 = .ok (.invokevirtual 534, 3) := by decide +kernel
theorem dX12_see_69 : decode cX12_see 69 = .ok (.ifCond .eq 34, 3) := by decide +kernel
theorem dX12_see_72 : decode cX12_see 72 = .ok (.aload_n 0, 1) := by decide +kernel
theorem dX12_see_73 : decode cX12_see 73 = .ok (.getfield 7, 3) := by decide +kernel
theorem dX12_see_76 : decode cX12_see 76 = .ok (.iload_n 3, 1) := by decide +kernel
theorem dX12_see_77 : decode cX12_see 77 = .ok (.iconst 2, 1) := by decide +kernel
theorem dX12_see_78 : decode cX12_see 78 = .ok (.iadd, 1) := by decide +kernel
theorem dX12_see_79 : decode cX12_see 79 = .ok (.iaload, 1) := by decide +kernel
theorem dX12_see_80 : decode cX12_see 80 = .ok (.bipush 99, 2) := by decide +kernel
theorem dX12_see_82 : decode cX12_see 82 = .ok (.if_icmp .le 17, 3) := by decide +kernel
theorem dX12_see_85 : decode cX12_see 85 = .ok (.aload_n 0, 1) := by decide +kernel
theorem dX12_see_86 : decode cX12_see 86 = .ok (.getfield 7, 3) := by decide +kernel
theorem dX12_see_89 : decode cX12_see 89 = .ok (.iload_n 3, 1) := by decide +kernel
theorem dX12_see_90 : decode cX12_see 90 = .ok (.iconst 2, 1) := by decide +kernel
theorem dX12_see_91 : decode cX12_see 91 = .ok (.iadd, 1) := by decide +kernel
theorem dX12_see_92 : decode cX12_see 92 = .ok (.iaload, 1) := by decide +kernel
theorem dX12_see_93 : decode cX12_see 93 = .ok (.sipush 255, 3) := by decide +kernel
theorem dX12_see_96 : decode cX12_see 96 = .ok (.if_icmp .ne 7, 3) := by decide +kernel
theorem dX12_see_99 : decode cX12_see 99 = .ok (.iconst 1, 1) := by decide +kernel
theorem dX12_see_100 : decode cX12_see 100 = .ok (.goto 4, 3) := by decide +kernel
theorem dX12_see_103 : decode cX12_see 103 = .ok (.iconst 0, 1) := by decide +kernel
theorem dX12_see_104 : decode cX12_see 104 = .ok (.istore_n 2, 1) := by decide +kernel
theorem dX12_see_105 : decode cX12_see 105 = .ok (.iinc 3 3, 3) := by decide +kernel
theorem dX12_see_108 : decode cX12_see 108 = .ok (.goto (-72), 3) := by decide +kernel
theorem dX12_see_111 : decode cX12_see 111 = .ok (.iload_n 2, 1) := by decide +kernel
theorem dX12_see_112 : decode cX12_see 112 = .ok (.ifCond .ne 9, 3) := by decide +kernel
theorem dX12_see_115 : decode cX12_see 115 = .ok (.aload_n 0, 1) := by decide +kernel
theorem dX12_see_116 : decode cX12_see 116 = .ok (.iconst 1, 1) := by decide +kernel
theorem dX12_see_117 : decode cX12_see 117 = .ok (.invokevirtual 604, 3) := by decide +kernel
theorem dX12_see_120 : decode cX12_see 120 = .ok (.ireturn, 1) := by decide +kernel
theorem dX12_see_121 : decode cX12_see 121 = .ok (.iconst 0, 1) := by decide +kernel
theorem dX12_see_122 : decode cX12_see 122 = .ok (.istore_n 3, 1) := by decide +kernel
theorem dX12_see_123 : decode cX12_see 123 = .ok (.iload_n 3, 1) := by decide +kernel
theorem dX12_see_124 : decode cX12_see 124 = .ok (.iload_n 1, 1) := by decide +kernel
theorem dX12_see_125 : decode cX12_see 125 = .ok (.if_icmp .ge 21, 3) := by decide +kernel
theorem dX12_see_128 : decode cX12_see 128 = .ok (.aload_n 0, 1) := by decide +kernel
theorem dX12_see_129 : decode cX12_see 129 = .ok (.getfield 157, 3) := by decide +kernel
theorem dX12_see_132 : decode cX12_see 132 = .ok (.iload_n 3, 1) := by decide +kernel
theorem dX12_see_133 : decode cX12_see 133 = .ok (.aload_n 0, 1) := by decide +kernel
theorem dX12_see_134 : decode cX12_see 134 = .ok (.getfield 7, 3) := by decide +kernel
theorem dX12_see_137 : decode cX12_see 137 = .ok (.iload_n 3, 1) := by decide +kernel
theorem dX12_see_138 : decode cX12_see 138 = .ok (.iaload, 1) := by decide +kernel
theorem dX12_see_139 : decode cX12_see 139 = .ok (.iastore, 1) := by decide +kernel
theorem dX12_see_140 : decode cX12_see 140 = .ok (.iinc 3 1, 3) := by decide +kernel
theorem dX12_see_143 : decode cX12_see 143 = .ok (.goto (-20), 3) := by decide +kernel
theorem dX12_see_146 : decode cX12_see 146 = .ok (.aload_n 0, 1) := by decide +kernel
theorem dX12_see_147 : decode cX12_see 147 = .ok (.iload_n 1, 1) := by decide +kernel
theorem dX12_see_148 : decode cX12_see 148 = .ok (.iconst 3, 1) := by decide +kernel
theorem dX12_see_149 : decode cX12_see 149 = .ok (.idiv, 1) := by decide +kernel
theorem dX12_see_150 : decode cX12_see 150 = .ok (.putfield 409, 3) := by decide +kernel
theorem dX12_see_153 : decode cX12_see 153 = .ok (.aload_n 0, 1) := by decide +kernel
theorem dX12_see_154 : decode cX12_see 154 = .ok (.getfield 409, 3) := by decide +kernel
theorem dX12_see_157 : decode cX12_see 157 = .ok (.ireturn, 1) := by decide +kernel
theorem dX12_eatenTaste_0 : decode cX12_eatenTaste 0 = .ok (.aload_n 0, 1) := by decide +kernel
theorem dX12_eatenTaste_1 : decode cX12_eatenTaste 1 = .ok (.getfield 127, 3) := by decide +kernel
theorem dX12_eatenTaste_4 : decode cX12_eatenTaste 4 = .ok (.iload_n 1, 1) := by decide +kernel
theorem dX12_eatenTaste_5 : decode cX12_eatenTaste 5 = .ok (.iaload, 1) := by decide +kernel
theorem dX12_eatenTaste_6 : decode cX12_eatenTaste 6 = .ok (.iconst (-1), 1) := by decide +kernel
theorem dX12_eatenTaste_7 : decode cX12_eatenTaste 7 = .ok (.if_icmp .ne 7, 3) := by decide +kernel
theorem dX12_eatenTaste_10 : decode cX12_eatenTaste 10 = .ok (.iconst (-1), 1) := by decide +kernel
theorem dX12_eatenTaste_11 : decode cX12_eatenTaste 11 = .ok (.goto 9, 3) := by decide +kernel
theorem dX12_eatenTaste_14 : decode cX12_eatenTaste 14 = .ok (.aload_n 0, 1) := by decide +kernel
theorem dX12_eatenTaste_15 : decode cX12_eatenTaste 15 = .ok (.getfield 130, 3) := by decide +kernel
theorem dX12_eatenTaste_18 : decode cX12_eatenTaste 18 = .ok (.iload_n 1, 1) := by decide +kernel
theorem dX12_eatenTaste_19 : decode cX12_eatenTaste 19 = .ok (.iaload, 1) := by decide +kernel
theorem dX12_eatenTaste_20 : decode cX12_eatenTaste 20 = .ok (.ireturn, 1) := by decide +kernel
theorem dX12_isAsSeen_0 : decode cX12_isAsSeen 0 = .ok (.iconst 0, 1) := by decide +kernel
theorem dX12_isAsSeen_1 : decode cX12_isAsSeen 1 = .ok (.istore_n 2, 1) := by decide +kernel
theorem dX12_isAsSeen_2 : decode cX12_isAsSeen 2 = .ok (.iload_n 2, 1) := by decide +kernel
theorem dX12_isAsSeen_3 : decode cX12_isAsSeen 3 = .ok (.aload_n 0, 1) := by decide +kernel
theorem dX12_isAsSeen_4 : decode cX12_isAsSeen 4 = .ok (.getfield 409, 3) := by decide +kernel
theorem dX12_isAsSeen_7 : decode cX12_isAsSeen 7 = .ok (.if_icmp .ge 87, 3) := by decide +kernel
theorem dX12_isAsSeen_10 : decode cX12_isAsSeen 10 = .ok (.aload_n 0, 1) := by decide +kernel
theorem dX12_isAsSeen_11 : decode cX12_isAsSeen 11 = .ok (.getfield 157, 3) := by decide +kernel
theorem dX12_isAsSeen_14 : decode cX12_isAsSeen 14 = .ok (.iconst 3, 1) := by decide +kernel
theorem dX12_isAsSeen_15 : decode cX12_isAsSeen 15 = .ok (.iload_n 2, 1) := by decide +kernel
theorem dX12_isAsSeen_16 : decode cX12_isAsSeen 16 = .ok (.imul, 1) := by decide +kernel
theorem dX12_isAsSeen_17 : decode cX12_isAsSeen 17 = .ok (.iaload, 1) := by decide +kernel
theorem dX12_isAsSeen_18 : decode cX12_isAsSeen 18 = .ok (.iload_n 1, 1) := by decide +kernel
theorem dX12_isAsSeen_19 : decode cX12_isAsSeen 19 = .ok (.if_icmp .eq 6, 3) := by decide +kernel
theorem dX12_isAsSeen_22 : decode cX12_isAsSeen 22 = .ok (.goto 66, 3) := by decide +kernel
theorem dX12_isAsSeen_25 : decode cX12_isAsSeen 25 = .ok (.aload_n 0, 1) := by decide +kernel
theorem dX12_isAsSeen_26 : decode cX12_isAsSeen 26 = .ok (.getfield 157, 3) := by decide +kernel
theorem dX12_isAsSeen_29 : decode cX12_isAsSeen 29 = .ok (.iconst 3, 1) := by decide +kernel
theorem dX12_isAsSeen_30 : decode cX12_isAsSeen 30 = .ok (.iload_n 2, 1) := by decide +kernel
theorem dX12_isAsSeen_31 : decode cX12_isAsSeen 31 = .ok (.imul, 1) := by decide +kernel
theorem dX12_isAsSeen_32 : decode cX12_isAsSeen 32 = .ok (.iconst 2, 1) := by decide +kernel
theorem dX12_isAsSeen_33 : decode cX12_isAsSeen 33 = .ok (.iadd, 1) := by decide +kernel
theorem dX12_isAsSeen_34 : decode cX12_isAsSeen 34 = .ok (.iaload, 1) := by decide +kernel
theorem dX12_isAsSeen_35 : decode cX12_isAsSeen 35 = .ok (.sipush 255, 3) := by decide +kernel
theorem dX12_isAsSeen_38 : decode cX12_isAsSeen 38 = .ok (.if_icmp .ne 7, 3) := by decide +kernel
theorem dX12_isAsSeen_41 : decode cX12_isAsSeen 41 = .ok (.iconst (-1), 1) := by decide +kernel
theorem dX12_isAsSeen_42 : decode cX12_isAsSeen 42 = .ok (.goto 13, 3) := by decide +kernel
theorem dX12_isAsSeen_45 : decode cX12_isAsSeen 45 = .ok (.aload_n 0, 1) := by decide +kernel
theorem dX12_isAsSeen_46 : decode cX12_isAsSeen 46 = .ok (.getfield 157, 3) := by decide +kernel
theorem dX12_isAsSeen_49 : decode cX12_isAsSeen 49 = .ok (.iconst 3, 1) := by decide +kernel
theorem dX12_isAsSeen_50 : decode cX12_isAsSeen 50 = .ok (.iload_n 2, 1) := by decide +kernel
theorem dX12_isAsSeen_51 : decode cX12_isAsSeen 51 = .ok (.imul, 1) := by decide +kernel
theorem dX12_isAsSeen_52 : decode cX12_isAsSeen 52 = .ok (.iconst 2, 1) := by decide +kernel
theorem dX12_isAsSeen_53 : decode cX12_isAsSeen 53 = .ok (.iadd, 1) := by decide +kernel
theorem dX12_isAsSeen_54 : decode cX12_isAsSeen 54 = .ok (.iaload, 1) := by decide +kernel
theorem dX12_isAsSeen_55 : decode cX12_isAsSeen 55 = .ok (.istore_n 3, 1) := by decide +kernel
theorem dX12_isAsSeen_56 : decode cX12_isAsSeen 56 = .ok (.aload_n 0, 1) := by decide +kernel
theorem dX12_isAsSeen_57 : decode cX12_isAsSeen 57 = .ok (.getfield 118, 3) := by decide +kernel
theorem dX12_isAsSeen_60 : decode cX12_isAsSeen 60 = .ok (.iconst 0, 1) := by decide +kernel
theorem dX12_isAsSeen_61 : decode cX12_isAsSeen 61 = .ok (.iaload, 1) := by decide +kernel
theorem dX12_isAsSeen_62 : decode cX12_isAsSeen 62 = .ok (.sipush 999, 3) := by decide +kernel
theorem dX12_isAsSeen_65 : decode cX12_isAsSeen 65 = .ok (.if_icmp .gt 21, 3) := by decide +kernel
theorem dX12_isAsSeen_68 : decode cX12_isAsSeen 68 = .ok (.aload_n 0, 1) := by decide +kernel
theorem dX12_isAsSeen_69 : decode cX12_isAsSeen 69 = .ok (.aload_n 0, 1) := by decide +kernel
theorem dX12_isAsSeen_70 : decode cX12_isAsSeen 70 = .ok (.getfield 157, 3) := by decide +kernel
theorem dX12_isAsSeen_73 : decode cX12_isAsSeen 73 = .ok (.iconst 3, 1) := by decide +kernel
theorem dX12_isAsSeen_74 : decode cX12_isAsSeen 74 = .ok (.iload_n 2, 1) := by decide +kernel
theorem dX12_isAsSeen_75 : decode cX12_isAsSeen 75 = .ok (.imul, 1) := by decide +kernel
theorem dX12_isAsSeen_76 : decode cX12_isAsSeen 76 = .ok (.iconst 1, 1) := by decide +kernel
theorem dX12_isAsSeen_77 : decode cX12_isAsSeen 77 = .ok (.iadd, 1) := by decide +kernel
theorem dX12_isAsSeen_78 : decode cX12_isAsSeen 78 = .ok (.iaload, 1) := by decide +kernel
theorem dX12_isAsSeen_79 : decode cX12_isAsSeen 79 = .ok (.invokevirtual 607, 3) := by decide +kernel
theorem dX12_isAsSeen_82 : decode cX12_isAsSeen 82 = .ok (.iload_n 3, 1) := by decide +kernel
theorem dX12_isAsSeen_83 : decode cX12_isAsSeen 83 = .ok (.if_icmp .eq 5, 3) := by decide +kernel
theorem dX12_isAsSeen_86 : decode cX12_isAsSeen 86 = .ok (.iconst 0, 1) := by decide +kernel
theorem dX12_isAsSeen_87 : decode cX12_isAsSeen 87 = .ok (.ireturn, 1) := by decide +kernel
theorem dX12_isAsSeen_88 : decode cX12_isAsSeen 88 = .ok (.iinc 2 1, 3) := by decide +kernel
theorem dX12_isAsSeen_91 : decode cX12_isAsSeen 91 = .ok (.goto (-89), 3) := by decide +kernel
theorem dX12_isAsSeen_94 : decode cX12_isAsSeen 94 = .ok (.iconst 1, 1) := by decide +kernel
theorem dX12_isAsSeen_95 : decode cX12_isAsSeen 95 = .ok (.ireturn, 1) := by decide +kernel
theorem dX12_laysFits_0 : decode cX12_laysFits 0 = .ok (.aload_n 0, 1) := by decide +kernel
theorem dX12_laysFits_1 : decode cX12_laysFits 1 = .ok (.iconst 0, 1) := by decide +kernel
theorem dX12_laysFits_2 : decode cX12_laysFits 2 = .ok (.putfield 610, 3) := by decide +kernel
theorem dX12_laysFits_5 : decode cX12_laysFits 5 = .ok (.aload_n 0, 1) := by decide +kernel
theorem dX12_laysFits_6 : decode cX12_laysFits 6 = .ok (.invokevirtual 544, 3) := by decide +kernel
theorem dX12_laysFits_9 : decode cX12_laysFits 9 = .ok (.iconst 0, 1) := by decide +kernel
theorem dX12_laysFits_10 : decode cX12_laysFits 10 = .ok (.istore_n 2, 1) := by decide +kernel
theorem dX12_laysFits_11 : decode cX12_laysFits 11 = .ok (.iload_n 2, 1) := by decide +kernel
theorem dX12_laysFits_12 : decode cX12_laysFits 12 = .ok (.bipush 99, 2) := by decide +kernel
theorem dX12_laysFits_14 : decode cX12_laysFits 14 = .ok (.if_icmp .gt 129, 3) := by decide +kernel
theorem dX12_laysFits_17 : decode cX12_laysFits 17 = .ok (.aload_n 0, 1) := by decide +kernel
theorem dX12_laysFits_18 : decode cX12_laysFits 18 = .ok (.getfield 118, 3) := by decide +kernel
theorem dX12_laysFits_21 : decode cX12_laysFits 21 = .ok (.iconst 2, 1) := by decide +kernel
theorem dX12_laysFits_22 : decode cX12_laysFits 22 = .ok (.iconst 3, 1) := by decide +kernel
theorem dX12_laysFits_23 : decode cX12_laysFits 23 = .ok (.iload_n 1, 1) := by decide +kernel
theorem dX12_laysFits_24 : decode cX12_laysFits 24 = .ok (.imul, 1) := by decide +kernel
theorem dX12_laysFits_25 : decode cX12_laysFits 25 = .ok (.iadd, 1) := by decide +kernel
theorem dX12_laysFits_26 : decode cX12_laysFits 26 = .ok (.iload_n 2, 1) := by decide +kernel
theorem dX12_laysFits_27 : decode cX12_laysFits 27 = .ok (.iastore, 1) := by decide +kernel
theorem dX12_laysFits_28 : decode cX12_laysFits 28 = .ok (.iconst 1, 1) := by decide +kernel
theorem dX12_laysFits_29 : decode cX12_laysFits 29 = .ok (.istore_n 3, 1) := by decide +kernel
theorem dX12_laysFits_30 : decode cX12_laysFits 30 = .ok (.iconst 0, 1) := by decide +kernel
theorem dX12_laysFits_31 : decode cX12_laysFits 31 = .ok (.istore 4, 2) := by decide +kernel
theorem dX12_laysFits_33 : decode cX12_laysFits 33 = .ok (.iload 4, 2) := by decide +kernel
theorem dX12_laysFits_35 : decode cX12_laysFits 35 = .ok (.bipush 30, 2) := by decide +kernel
theorem dX12_laysFits_37 : decode cX12_laysFits 37 = .ok (.if_icmp .gt 75, 3) := by decide +kernel
theorem dX12_laysFits_40 : decode cX12_laysFits 40 = .ok (.aload_n 0, 1) := by decide +kernel
theorem dX12_laysFits_41 : decode cX12_laysFits 41 = .ok (.invokevirtual 516, 3) := by decide +kernel
theorem dX12_laysFits_44 : decode cX12_laysFits 44 = .ok (.iload_n 3, 1) := by decide +kernel
theorem dX12_laysFits_45 : decode cX12_laysFits 45 = .ok (.ifCond .eq 16, 3) := by decide +kernel
theorem dX12_laysFits_48 : decode cX12_laysFits 48 = .ok (.aload_n 0, 1) := by decide +kernel
theorem dX12_laysFits_49 : decode cX12_laysFits 49 = .ok (.iload 4, 2) := by decide +kernel
theorem dX12_laysFits_51 : decode cX12_laysFits 51 = .ok (.invokevirtual 613, 3) := by decide +kernel
theorem dX12_laysFits_54 : decode cX12_laysFits 54 = .ok (.ifCond .eq 7, 3) := by decide +kernel
theorem dX12_laysFits_57 : decode cX12_laysFits 57 = .ok (.iconst 1, 1) := by decide +kernel
theorem dX12_laysFits_58 : decode cX12_laysFits 58 = .ok (.goto 4, 3) := by decide +kernel
theorem dX12_laysFits_61 : decode cX12_laysFits 61 = .ok (.iconst 0, 1) := by decide +kernel
theorem dX12_laysFits_62 : decode cX12_laysFits 62 = .ok (.istore_n 3, 1) := by decide +kernel
theorem dX12_laysFits_63 : decode cX12_laysFits 63 = .ok (.iconst 0, 1) := by decide +kernel
theorem dX12_laysFits_64 : decode cX12_laysFits 64 = .ok (.istore 5, 2) := by decide +kernel
theorem dX12_laysFits_66 : decode cX12_laysFits 66 = .ok (.iload 5, 2) := by decide +kernel
theorem dX12_laysFits_68 : decode cX12_laysFits 68 = .ok (.aload_n 0, 1) := by decide +kernel
theorem dX12_laysFits_69 : decode cX12_laysFits 69 = .ok (.invokevirtual 412, 3) := by decide +kernel
theorem dX12_laysFits_72 : decode cX12_laysFits 72 = .ok (.if_icmp .ge 34, 3) := by decide +kernel
theorem dX12_laysFits_75 : decode cX12_laysFits 75 = .ok (.aload_n 0, 1) := by decide +kernel
theorem dX12_laysFits_76 : decode cX12_laysFits 76 = .ok (.getfield 160, 3) := by decide +kernel
theorem dX12_laysFits_79 : decode cX12_laysFits 79 = .ok (.sipush 217, 3) := by decide +kernel
theorem dX12_laysFits_82 : decode cX12_laysFits 82 = .ok (.iload_n 2, 1) := by decide +kernel
theorem dX12_laysFits_83 : decode cX12_laysFits 83 = .ok (.imul, 1) := by decide +kernel
theorem dX12_laysFits_84 : decode cX12_laysFits 84 = .ok (.bipush 7, 2) := by decide +kernel
theorem dX12_laysFits_86 : decode cX12_laysFits 86 = .ok (.iload 4, 2) := by decide +kernel
theorem dX12_laysFits_88 : decode cX12_laysFits 88 = .ok (.imul, 1) := by decide +kernel
theorem dX12_laysFits_89 : decode cX12_laysFits 89 = .ok (.iadd, 1) := by decide +kernel
theorem dX12_laysFits_90 : decode cX12_laysFits 90 = .ok (.iload 5, 2) := by decide +kernel
theorem dX12_laysFits_92 : decode cX12_laysFits 92 = .ok (.iadd, 1) := by decide +kernel
theorem dX12_laysFits_93 : decode cX12_laysFits 93 = .ok (.aload_n 0, 1) := by decide +kernel
theorem dX12_laysFits_94 : decode cX12_laysFits 94 = .ok (.iload 5, 2) := by decide +kernel
theorem dX12_laysFits_96 : decode cX12_laysFits 96 = .ok (.invokevirtual 607, 3) := by decide +kernel
theorem dX12_laysFits_99 : decode cX12_laysFits 99 = .ok (.iastore, 1) := by decide +kernel
theorem dX12_laysFits_100 : decode cX12_laysFits 100 = .ok (.iinc 5 1, 3) := by decide +kernel
theorem dX12_laysFits_103 : decode cX12_laysFits 103 = .ok (.goto (-37), 3) := by decide +kernel
theorem dX12_laysFits_106 : decode cX12_laysFits 106 = .ok (.iinc 4 1, 3) := by decide +kernel
theorem dX12_laysFits_109 : decode cX12_laysFits 109 = .ok (.goto (-76), 3) := by decide +kernel
theorem dX12_laysFits_112 : decode cX12_laysFits 112 = .ok (.aload_n 0, 1) := by decide +kernel
theorem dX12_laysFits_113 : decode cX12_laysFits 113 = .ok (.invokevirtual 519, 3) := by decide +kernel
theorem dX12_laysFits_116 : decode cX12_laysFits 116 = .ok (.aload_n 0, 1) := by decide +kernel
theorem dX12_laysFits_117 : decode cX12_laysFits 117 = .ok (.getfield 163, 3) := by decide +kernel
theorem dX12_laysFits_120 : decode cX12_laysFits 120 = .ok (.iload_n 2, 1) := by decide +kernel
theorem dX12_laysFits_121 : decode cX12_laysFits 121 = .ok (.iload_n 3, 1) := by decide +kernel
theorem dX12_laysFits_122 : decode cX12_laysFits 122 = .ok (.bastore, 1) := by decide +kernel
theorem dX12_laysFits_123 : decode cX12_laysFits 123 = .ok (.iload_n 3, 1) := by decide +kernel
theorem dX12_laysFits_124 : decode cX12_laysFits 124 = .ok (.ifCond .eq 13, 3) := by decide +kernel
theorem dX12_laysFits_127 : decode cX12_laysFits 127 = .ok (.aload_n 0, 1) := by decide +kernel
theorem dX12_laysFits_128 : decode cX12_laysFits 128 = .ok (.dup, 1) := by decide +kernel
theorem dX12_laysFits_129 : decode cX12_laysFits 129 = .ok (.getfield 610, 3) := by decide +kernel
theorem dX12_laysFits_132 : decode cX12_laysFits 132 = .ok (.iconst 1, 1) := by decide +kernel
theorem dX12_laysFits_133 : decode cX12_laysFits 133 = .ok (.iadd, 1) := by decide +kernel
theorem dX12_laysFits_134 : decode cX12_laysFits 134 = .ok (.putfield 610, 3) := by decide +kernel
theorem dX12_laysFits_137 : decode cX12_laysFits 137 = .ok (.iinc 2 1, 3) := by decide +kernel
theorem dX12_laysFits_140 : decode cX12_laysFits 140 = .ok (.goto (-129), 3) := by decide +kernel
theorem dX12_laysFits_143 : decode cX12_laysFits 143 = .ok (.aload_n 0, 1) := by decide +kernel
theorem dX12_laysFits_144 : decode cX12_laysFits 144 = .ok (.invokevirtual 547, 3) := by decide +kernel
theorem dX12_laysFits_147 : decode cX12_laysFits 147 = .ok (.return_, 1) := by decide +kernel
theorem dX12_flour_0 : decode cX12_flour 0 = .ok (.aload_n 0, 1) := by decide +kernel
theorem dX12_flour_1 : decode cX12_flour 1 = .ok (.iload_n 1, 1) := by decide +kernel
theorem dX12_flour_2 : decode cX12_flour 2 = .ok (.i2l, 1) := by decide +kernel
theorem dX12_flour_3 : decode cX12_flour 3 = .ok (.invokevirtual 534, 3) := by decide +kernel
theorem dX12_flour_6 : decode cX12_flour 6 = .ok (.ifCond .eq 23, 3) := by decide +kernel
theorem dX12_flour_9 : decode cX12_flour 9 = .ok (.aload_n 0, 1) := by decide +kernel
theorem dX12_flour_10 : decode cX12_flour 10 = .ok (.iload_n 1, 1) := by decide +kernel
theorem dX12_flour_11 : decode cX12_flour 11 = .ok (.invokevirtual 462, 3) := by decide +kernel
theorem dX12_flour_14 : decode cX12_flour 14 = .ok (.ifCond .eq 15, 3) := by decide +kernel
theorem dX12_flour_17 : decode cX12_flour 17 = .ok (.iload_n 2, 1) := by decide +kernel
theorem dX12_flour_18 : decode cX12_flour 18 = .ok (.i2l, 1) := by decide +kernel
theorem dX12_flour_19 : decode cX12_flour 19 = .ok (.lconst 0, 1) := by decide +kernel
theorem dX12_flour_20 : decode cX12_flour 20 = .ok (.ldc2_w 554, 3) := by decide +kernel
theorem dX12_flour_23 : decode cX12_flour 23 = .ok (.invokestatic 303, 3) := by decide +kernel
theorem dX12_flour_26 : decode cX12_flour 26 = .ok (.ifCond .ne 5, 3) := by decide +kernel
theorem dX12_flour_29 : decode cX12_flour 29 = .ok (.iconst (-1), 1) := by decide +kernel
theorem dX12_flour_30 : decode cX12_flour 30 = .ok (.ireturn, 1) := by decide +kernel
theorem dX12_flour_31 : decode cX12_flour 31 = .ok (.aload_n 0, 1) := by decide +kernel
theorem dX12_flour_32 : decode cX12_flour 32 = .ok (.iload_n 1, 1) := by decide +kernel
theorem dX12_flour_33 : decode cX12_flour 33 = .ok (.invokevirtual 616, 3) := by decide +kernel
theorem dX12_flour_36 : decode cX12_flour 36 = .ok (.iconst (-1), 1) := by decide +kernel
theorem dX12_flour_37 : decode cX12_flour 37 = .ok (.istore_n 3, 1) := by decide +kernel
theorem dX12_flour_38 : decode cX12_flour 38 = .ok (.iconst (-1), 1) := by decide +kernel
theorem dX12_flour_39 : decode cX12_flour 39 = .ok (.istore 4, 2) := by decide +kernel
theorem dX12_flour_41 : decode cX12_flour 41 = .ok (.iconst 0, 1) := by decide +kernel
theorem dX12_flour_42 : decode cX12_flour 42 = .ok (.istore 5, 2) := by decide +kernel
theorem dX12_flour_44 : decode cX12_flour 44 = .ok (.iload 5, 2) := by decide +kernel
theorem dX12_flour_46 : decode cX12_flour 46 = .ok (.bipush 99, 2) := by decide +kernel
theorem dX12_flour_48 : decode cX12_flour 48 = .ok (.if_icmp .gt 31, 3) := by decide +kernel
theorem dX12_flour_51 : decode cX12_flour 51 = .ok (.aload_n 0, 1) := by decide +kernel
theorem dX12_flour_52 : decode cX12_flour 52 = .ok (.getfield 163, 3) := by decide +kernel
theorem dX12_flour_55 : decode cX12_flour 55 = .ok (.iload 5, 2) := by decide +kernel
theorem dX12_flour_57 : decode cX12_flour 57 = .ok (.baload, 1) := by decide +kernel
theorem dX12_flour_58 : decode cX12_flour 58 = .ok (.ifCond .eq 15, 3) := by decide +kernel
theorem dX12_flour_61 : decode cX12_flour 61 = .ok (.iload_n 3, 1) := by decide +kernel
theorem dX12_flour_62 : decode cX12_flour 62 = .ok (.iconst (-1), 1) := by decide +kernel
theorem dX12_flour_63 : decode cX12_flour 63 = .ok (.if_icmp .ne 6, 3) := by decide +kernel
theorem dX12_flour_66 : decode cX12_flour 66 = .ok (.iload 5, 2) := by decide +kernel
theorem dX12_flour_68 : decode cX12_flour 68 = .ok (.istore_n 3, 1) := by decide +kernel
theorem dX12_flour_69 : decode cX12_flour 69 = .ok (.iload 5, 2) := by decide +kernel
theorem dX12_flour_71 : decode cX12_flour 71 = .ok (.istore 4, 2) := by decide +kernel
theorem dX12_flour_73 : decode cX12_flour 73 = .ok (.iinc 5 1, 3) := by decide +kernel
theorem dX12_flour_76 : decode cX12_flour 76 = .ok (.goto (-32), 3) := by decide +kernel
theorem dX12_flour_79 : decode cX12_flour 79 = .ok (.iload_n 2, 1) := by decide +kernel
theorem dX12_flour_80 : decode cX12_flour 80 = .ok (.ifCond .ne 10, 3) := by decide +kernel
theorem dX12_flour_83 : decode cX12_flour 83 = .ok (.aload_n 0, 1) := by decide +kernel
theorem dX12_flour_84 : decode cX12_flour 84 = .ok (.getfield 610, 3) := by decide +kernel
theorem dX12_flour_87 : decode cX12_flour 87 = .ok (.goto 14, 3) := by decide +kernel
theorem dX12_flour_90 : decode cX12_flour 90 = .ok (.iload_n 2, 1) := by decide +kernel
theorem dX12_flour_91 : decode cX12_flour 91 = .ok (.iconst 1, 1) := by decide +kernel
theorem dX12_flour_92 : decode cX12_flour 92 = .ok (.if_icmp .ne 7, 3) := by decide +kernel
theorem dX12_flour_95 : decode cX12_flour 95 = .ok (.iload_n 3, 1) := by decide +kernel
theorem dX12_flour_96 : decode cX12_flour 96 = .ok (.goto 5, 3) := by decide +kernel
theorem dX12_flour_99 : decode cX12_flour 99 = .ok (.iload 4, 2) := by decide +kernel
theorem dX12_flour_101 : decode cX12_flour 101 = .ok (.ireturn, 1) := by decide +kernel
theorem dX12_mostAlike_0 : decode cX12_mostAlike 0 = .ok (.iconst 0, 1) := by decide +kernel
theorem dX12_mostAlike_1 : decode cX12_mostAlike 1 = .ok (.istore_n 2, 1) := by decide +kernel
theorem dX12_mostAlike_2 : decode cX12_mostAlike 2 = .ok (.iconst 0, 1) := by decide +kernel
theorem dX12_mostAlike_3 : decode cX12_mostAlike 3 = .ok (.istore_n 3, 1) := by decide +kernel
theorem dX12_mostAlike_4 : decode cX12_mostAlike 4 = .ok (.iload_n 3, 1) := by decide +kernel
theorem dX12_mostAlike_5 : decode cX12_mostAlike 5 = .ok (.bipush 100, 2) := by decide +kernel
theorem dX12_mostAlike_7 : decode cX12_mostAlike 7 = .ok (.if_icmp .gt 16, 3) := by decide +kernel
theorem dX12_mostAlike_10 : decode cX12_mostAlike 10 = .ok (.aload_n 0, 1) := by decide +kernel
theorem dX12_mostAlike_11 : decode cX12_mostAlike 11 = .ok (.getfield 167, 3) := by decide +kernel
theorem dX12_mostAlike_14 : decode cX12_mostAlike 14 = .ok (.iload_n 3, 1) := by decide +kernel
theorem dX12_mostAlike_15 : decode cX12_mostAlike 15 = .ok (.iconst 0, 1) := by decide +kernel
theorem dX12_mostAlike_16 : decode cX12_mostAlike 16 = .ok (.iastore, 1) := by decide +kernel
theorem dX12_mostAlike_17 : decode cX12_mostAlike 17 = .ok (.iinc 3 1, 3) := by decide +kernel
theorem dX12_mostAlike_20 : decode cX12_mostAlike 20 = .ok (.goto (-16), 3) := by decide +kernel
theorem dX12_mostAlike_23 : decode cX12_mostAlike 23 = .ok (.iconst 0, 1) := by decide +kernel
theorem dX12_mostAlike_24 : decode cX12_mostAlike 24 = .ok (.istore_n 3, 1) := by decide +kernel
theorem dX12_mostAlike_25 : decode cX12_mostAlike 25 = .ok (.iload_n 3, 1) := by decide +kernel
theorem dX12_mostAlike_26 : decode cX12_mostAlike 26 = .ok (.bipush 99, 2) := by decide +kernel
theorem dX12_mostAlike_28 : decode cX12_mostAlike 28 = .ok (.if_icmp .gt 67, 3) := by decide +kernel
theorem dX12_mostAlike_31 : decode cX12_mostAlike 31 = .ok (.aload_n 0, 1) := by decide +kernel
theorem dX12_mostAlike_32 : decode cX12_mostAlike 32 = .ok (.getfield 163, 3) := by decide +kernel
theorem dX12_mostAlike_35 : decode cX12_mostAlike 35 = .ok (.iload_n 3, 1) := by decide +kernel
theorem dX12_mostAlike_36 : decode cX12_mostAlike 36 = .ok (.baload, 1) := by decide +kernel
theorem dX12_mostAlike_37 : decode cX12_mostAlike 37 = .ok (.ifCond .ne 6, 3) := by decide +kernel
theorem dX12_mostAlike_40 : decode cX12_mostAlike 40 = .ok (.goto 49, 3) := by decide +kernel
theorem dX12_mostAlike_43 : decode cX12_mostAlike 43 = .ok (.aload_n 0, 1) := by decide +kernel
theorem dX12_mostAlike_44 : decode cX12_mostAlike 44 = .ok (.getfield 160, 3) := by decide +kernel
theorem dX12_mostAlike_47 : decode cX12_mostAlike 47 = .ok (.sipush 217, 3) := by decide +kernel
theorem dX12_mostAlike_50 : decode cX12_mostAlike 50 = .ok (.iload_n 3, 1) := by decide +kernel
theorem dX12_mostAlike_51 : decode cX12_mostAlike 51 = .ok (.imul, 1) := by decide +kernel
theorem dX12_mostAlike_52 : decode cX12_mostAlike 52 = .ok (.iload_n 1, 1) := by decide +kernel
theorem dX12_mostAlike_53 : decode cX12_mostAlike 53 = .ok (.iadd, 1) := by decide +kernel
theorem dX12_mostAlike_54 : decode cX12_mostAlike 54 = .ok (.iaload, 1) := by decide +kernel
theorem dX12_mostAlike_55 : decode cX12_mostAlike 55 = .ok (.iconst 1, 1) := by decide +kernel
theorem dX12_mostAlike_56 : decode cX12_mostAlike 56 = .ok (.iadd, 1) := by decide +kernel
theorem dX12_mostAlike_57 : decode cX12_mostAlike 57 = .ok (.istore 4, 2) := by decide +kernel
theorem dX12_mostAlike_59 : decode cX12_mostAlike 59 = .ok (.aload_n 0, 1) := by decide +kernel
theorem dX12_mostAlike_60 : decode cX12_mostAlike 60 = .ok (.getfield 167, 3) := by decide +kernel
theorem dX12_mostAlike_63 : decode cX12_mostAlike 63 = .ok (.iload 4, 2) := by decide +kernel
theorem dX12_mostAlike_65 : decode cX12_mostAlike 65 = .ok (.dup2, 1) := by decide +kernel
theorem dX12_mostAlike_66 : decode cX12_mostAlike 66 = .ok (.iaload, 1) := by decide +kernel
theorem dX12_mostAlike_67 : decode cX12_mostAlike 67 = .ok (.iconst 1, 1) := by decide +kernel
theorem dX12_mostAlike_68 : decode cX12_mostAlike 68 = .ok (.iadd, 1) := by decide +kernel
theorem dX12_mostAlike_69 : decode cX12_mostAlike 69 = .ok (.iastore, 1) := by decide +kernel
theorem dX12_mostAlike_70 : decode cX12_mostAlike 70 = .ok (.aload_n 0, 1) := by decide +kernel
theorem dX12_mostAlike_71 : decode cX12_mostAlike 71 = .ok (.getfield 167, 3) := by decide +kernel
theorem dX12_mostAlike_74 : decode cX12_mostAlike 74 = .ok (.iload 4, 2) := by decide +kernel
theorem dX12_mostAlike_76 : decode cX12_mostAlike 76 = .ok (.iaload, 1) := by decide +kernel
theorem dX12_mostAlike_77 : decode cX12_mostAlike 77 = .ok (.iload_n 2, 1) := by decide +kernel
theorem dX12_mostAlike_78 : decode cX12_mostAlike 78 = .ok (.if_icmp .le 11, 3) := by decide +kernel
theorem dX12_mostAlike_81 : decode cX12_mostAlike 81 = .ok (.aload_n 0, 1) := by decide +kernel
theorem dX12_mostAlike_82 : decode cX12_mostAlike 82 = .ok (.getfield 167, 3) := by decide +kernel
theorem dX12_mostAlike_85 : decode cX12_mostAlike 85 = .ok (.iload 4, 2) := by decide +kernel
theorem dX12_mostAlike_87 : decode cX12_mostAlike 87 = .ok (.iaload, 1) := by decide +kernel
theorem dX12_mostAlike_88 : decode cX12_mostAlike 88 = .ok (.istore_n 2, 1) := by decide +kernel
theorem dX12_mostAlike_89 : decode cX12_mostAlike 89 = .ok (.iinc 3 1, 3) := by decide +kernel
theorem dX12_mostAlike_92 : decode cX12_mostAlike 92 = .ok (.goto (-67), 3) := by decide +kernel
theorem dX12_mostAlike_95 : decode cX12_mostAlike 95 = .ok (.iload_n 2, 1) := by decide +kernel
theorem dX12_mostAlike_96 : decode cX12_mostAlike 96 = .ok (.ireturn, 1) := by decide +kernel
theorem dX12_tells_0 : decode cX12_tells 0 = .ok (.aload_n 0, 1) := by decide +kernel
theorem dX12_tells_1 : decode cX12_tells 1 = .ok (.iload_n 1, 1) := by decide +kernel
theorem dX12_tells_2 : decode cX12_tells 2 = .ok (.i2l, 1) := by decide +kernel
theorem dX12_tells_3 : decode cX12_tells 3 = .ok (.invokevirtual 534, 3) := by decide +kernel
theorem dX12_tells_6 : decode cX12_tells 6 = .ok (.ifCond .eq 23, 3) := by decide +kernel
theorem dX12_tells_9 : decode cX12_tells 9 = .ok (.aload_n 0, 1) := by decide +kernel
theorem dX12_tells_10 : decode cX12_tells 10 = .ok (.iload_n 1, 1) := by decide +kernel
theorem dX12_tells_11 : decode cX12_tells 11 = .ok (.invokevirtual 462, 3) := by decide +kernel
theorem dX12_tells_14 : decode cX12_tells 14 = .ok (.ifCond .eq 15, 3) := by decide +kernel
theorem dX12_tells_17 : decode cX12_tells 17 = .ok (.iload_n 2, 1) := by decide +kernel
theorem dX12_tells_18 : decode cX12_tells 18 = .ok (.i2l, 1) := by decide +kernel
theorem dX12_tells_19 : decode cX12_tells 19 = .ok (.lconst 0, 1) := by decide +kernel
theorem dX12_tells_20 : decode cX12_tells 20 = .ok (.ldc2_w 554, 3) := by decide +kernel
theorem dX12_tells_23 : decode cX12_tells 23 = .ok (.invokestatic 303, 3) := by decide +kernel
theorem dX12_tells_26 : decode cX12_tells 26 = .ok (.ifCond .ne 5, 3) := by decide +kernel
theorem dX12_tells_29 : decode cX12_tells 29 = .ok (.iconst (-1), 1) := by decide +kernel
theorem dX12_tells_30 : decode cX12_tells 30 = .ok (.ireturn, 1) := by decide +kernel
theorem dX12_tells_31 : decode cX12_tells 31 = .ok (.aload_n 0, 1) := by decide +kernel
theorem dX12_tells_32 : decode cX12_tells 32 = .ok (.iload_n 1, 1) := by decide +kernel
theorem dX12_tells_33 : decode cX12_tells 33 = .ok (.invokevirtual 616, 3) := by decide +kernel
theorem dX12_tells_36 : decode cX12_tells 36 = .ok (.iconst (-1), 1) := by decide +kernel
theorem dX12_tells_37 : decode cX12_tells 37 = .ok (.istore_n 3, 1) := by decide +kernel
theorem dX12_tells_38 : decode cX12_tells 38 = .ok (.iconst (-1), 1) := by decide +kernel
theorem dX12_tells_39 : decode cX12_tells 39 = .ok (.istore 4, 2) := by decide +kernel
theorem dX12_tells_41 : decode cX12_tells 41 = .ok (.iconst 0, 1) := by decide +kernel
theorem dX12_tells_42 : decode cX12_tells 42 = .ok (.istore 5, 2) := by decide +kernel
theorem dX12_tells_44 : decode cX12_tells 44 = .ok (.iconst 0, 1) := by decide +kernel
theorem dX12_tells_45 : decode cX12_tells 45 = .ok (.istore 6, 2) := by decide +kernel
theorem dX12_tells_47 : decode cX12_tells 47 = .ok (.aload_n 0, 1) := by decide +kernel
theorem dX12_tells_48 : decode cX12_tells 48 = .ok (.getfield 610, 3) := by decide +kernel
theorem dX12_tells_51 : decode cX12_tells 51 = .ok (.ifCond .le 89, 3) := by decide +kernel
theorem dX12_tells_54 : decode cX12_tells 54 = .ok (.iload 6, 2) := by decide +kernel
theorem dX12_tells_56 : decode cX12_tells 56 = .ok (.bipush 30, 2) := by decide +kernel
theorem dX12_tells_58 : decode cX12_tells 58 = .ok (.if_icmp .gt 82, 3) := by decide +kernel
theorem dX12_tells_61 : decode cX12_tells 61 = .ok (.aload_n 0, 1) := by decide +kernel
theorem dX12_tells_62 : decode cX12_tells 62 = .ok (.getfield 118, 3) := by decide +kernel
theorem dX12_tells_65 : decode cX12_tells 65 = .ok (.iconst 0, 1) := by decide +kernel
theorem dX12_tells_66 : decode cX12_tells 66 = .ok (.iaload, 1) := by decide +kernel
theorem dX12_tells_67 : decode cX12_tells 67 = .ok (.iload 6, 2) := by decide +kernel
theorem dX12_tells_69 : decode cX12_tells 69 = .ok (.iadd, 1) := by decide +kernel
theorem dX12_tells_70 : decode cX12_tells 70 = .ok (.sipush 999, 3) := by decide +kernel
theorem dX12_tells_73 : decode cX12_tells 73 = .ok (.if_icmp .ge 67, 3) := by decide +kernel
theorem dX12_tells_76 : decode cX12_tells 76 = .ok (.iconst 0, 1) := by decide +kernel
theorem dX12_tells_77 : decode cX12_tells 77 = .ok (.istore 7, 2) := by decide +kernel
theorem dX12_tells_79 : decode cX12_tells 79 = .ok (.iload 7, 2) := by decide +kernel
theorem dX12_tells_81 : decode cX12_tells 81 = .ok (.aload_n 0, 1) := by decide +kernel
theorem dX12_tells_82 : decode cX12_tells 82 = .ok (.invokevirtual 412, 3) := by decide +kernel
theorem dX12_tells_85 : decode cX12_tells 85 = .ok (.if_icmp .ge 49, 3) := by decide +kernel
theorem dX12_tells_88 : decode cX12_tells 88 = .ok (.aload_n 0, 1) := by decide +kernel
theorem dX12_tells_89 : decode cX12_tells 89 = .ok (.bipush 7, 2) := by decide +kernel
theorem dX12_tells_91 : decode cX12_tells 91 = .ok (.iload 6, 2) := by decide +kernel
theorem dX12_tells_93 : decode cX12_tells 93 = .ok (.imul, 1) := by decide +kernel
theorem dX12_tells_94 : decode cX12_tells 94 = .ok (.iload 7, 2) := by decide +kernel
theorem dX12_tells_96 : decode cX12_tells 96 = .ok (.iadd, 1) := by decide +kernel
theorem dX12_tells_97 : decode cX12_tells 97 = .ok (.invokevirtual 619, 3) := by decide +kernel
theorem dX12_tells_100 : decode cX12_tells 100 = .ok (.istore 8, 2) := by decide +kernel
theorem dX12_tells_102 : decode cX12_tells 102 = .ok (.iload_n 3, 1) := by decide +kernel
theorem dX12_tells_103 : decode cX12_tells 103 = .ok (.iconst (-1), 1) := by decide +kernel
theorem dX12_tells_104 : decode cX12_tells 104 = .ok (.if_icmp .eq 13, 3) := by decide +kernel
theorem dX12_tells_107 : decode cX12_tells 107 = .ok (.iload 8, 2) := by decide +kernel
theorem dX12_tells_109 : decode cX12_tells 109 = .ok (.iload 5, 2) := by decide +kernel
theorem dX12_tells_111 : decode cX12_tells 111 = .ok (.if_icmp .lt 6, 3) := by decide +kernel
theorem dX12_tells_114 : decode cX12_tells 114 = .ok (.goto 14, 3) := by decide +kernel
theorem dX12_tells_117 : decode cX12_tells 117 = .ok (.iload 6, 2) := by decide +kernel
theorem dX12_tells_119 : decode cX12_tells 119 = .ok (.istore_n 3, 1) := by decide +kernel
theorem dX12_tells_120 : decode cX12_tells 120 = .ok (.iload 7, 2) := by decide +kernel
theorem dX12_tells_122 : decode cX12_tells 122 = .ok (.istore 4, 2) := by decide +kernel
theorem dX12_tells_124 : decode cX12_tells 124 = .ok (.iload 8, 2) := by decide +kernel
theorem dX12_tells_126 : decode cX12_tells 126 = .ok (.istore 5, 2) := by decide +kernel
theorem dX12_tells_128 : decode cX12_tells 128 = .ok (.iinc 7 1, 3) := by decide +kernel
theorem dX12_tells_131 : decode cX12_tells 131 = .ok (.goto (-52), 3) := by decide +kernel
theorem dX12_tells_134 : decode cX12_tells 134 = .ok (.iinc 6 1, 3) := by decide +kernel
theorem dX12_tells_137 : decode cX12_tells 137 = .ok (.goto (-90), 3) := by decide +kernel
theorem dX12_tells_140 : decode cX12_tells 140 = .ok (.iload_n 3, 1) := by decide +kernel
theorem dX12_tells_141 : decode cX12_tells 141 = .ok (.iconst (-1), 1) := by decide +kernel
theorem dX12_tells_142 : decode cX12_tells 142 = .ok (.if_icmp .ne 7, 3) := by decide +kernel
theorem dX12_tells_145 : decode cX12_tells 145 = .ok (.iconst (-1), 1) := by decide +kernel
theorem dX12_tells_146 : decode cX12_tells 146 = .ok (.goto 23, 3) := by decide +kernel
theorem dX12_tells_149 : decode cX12_tells 149 = .ok (.iload_n 2, 1) := by decide +kernel
theorem dX12_tells_150 : decode cX12_tells 150 = .ok (.ifCond .ne 7, 3) := by decide +kernel
theorem dX12_tells_153 : decode cX12_tells 153 = .ok (.iload_n 3, 1) := by decide +kernel
theorem dX12_tells_154 : decode cX12_tells 154 = .ok (.goto 15, 3) := by decide +kernel
theorem dX12_tells_157 : decode cX12_tells 157 = .ok (.iload_n 2, 1) := by decide +kernel
theorem dX12_tells_158 : decode cX12_tells 158 = .ok (.iconst 1, 1) := by decide +kernel
theorem dX12_tells_159 : decode cX12_tells 159 = .ok (.if_icmp .ne 8, 3) := by decide +kernel
theorem dX12_tells_162 : decode cX12_tells 162 = .ok (.iload 4, 2) := by decide +kernel
theorem dX12_tells_164 : decode cX12_tells 164 = .ok (.goto 5, 3) := by decide +kernel
theorem dX12_tells_167 : decode cX12_tells 167 = .ok (.iload 5, 2) := by decide +kernel
theorem dX12_tells_169 : decode cX12_tells 169 = .ok (.ireturn, 1) := by decide +kernel
theorem dX12_keeps_0 : decode cX12_keeps 0 = .ok (.aload_n 0, 1) := by decide +kernel
theorem dX12_keeps_1 : decode cX12_keeps 1 = .ok (.aload_n 0, 1) := by decide +kernel
theorem dX12_keeps_2 : decode cX12_keeps 2 = .ok (.getfield 622, 3) := by decide +kernel
theorem dX12_keeps_5 : decode cX12_keeps 5 = .ok (.iconst 1, 1) := by decide +kernel
theorem dX12_keeps_6 : decode cX12_keeps 6 = .ok (.iadd, 1) := by decide +kernel
theorem dX12_keeps_7 : decode cX12_keeps 7 = .ok (.bipush 20, 2) := by decide +kernel
theorem dX12_keeps_9 : decode cX12_keeps 9 = .ok (.irem, 1) := by decide +kernel
theorem dX12_keeps_10 : decode cX12_keeps 10 = .ok (.putfield 622, 3) := by decide +kernel
theorem dX12_keeps_13 : decode cX12_keeps 13 = .ok (.iconst 0, 1) := by decide +kernel
theorem dX12_keeps_14 : decode cX12_keeps 14 = .ok (.istore_n 1, 1) := by decide +kernel
theorem dX12_keeps_15 : decode cX12_keeps 15 = .ok (.iload_n 1, 1) := by decide +kernel
theorem dX12_keeps_16 : decode cX12_keeps 16 = .ok (.sipush 204, 3) := by decide +kernel
theorem dX12_keeps_19 : decode cX12_keeps 19 = .ok (.if_icmp .ge 30, 3) := by decide +kernel
theorem dX12_keeps_22 : decode cX12_keeps 22 = .ok (.aload_n 0, 1) := by decide +kernel
theorem dX12_keeps_23 : decode cX12_keeps 23 = .ok (.getfield 170, 3) := by decide +kernel
theorem dX12_keeps_26 : decode cX12_keeps 26 = .ok (.sipush 204, 3) := by decide +kernel
theorem dX12_keeps_29 : decode cX12_keeps 29 = .ok (.aload_n 0, 1) := by decide +kernel
theorem dX12_keeps_30 : decode cX12_keeps 30 = .ok (.getfield 622, 3) := by decide +kernel
theorem dX12_keeps_33 : decode cX12_keeps 33 = .ok (.imul, 1) := by decide +kernel
theorem dX12_keeps_34 : decode cX12_keeps 34 = .ok (.iload_n 1, 1) := by decide +kernel
theorem dX12_keeps_35 : decode cX12_keeps 35 = .ok (.iadd, 1) := by decide +kernel
theorem dX12_keeps_36 : decode cX12_keeps 36 = .ok (.aload_n 0, 1) := by decide +kernel
theorem dX12_keeps_37 : decode cX12_keeps 37 = .ok (.getfield 118, 3) := by decide +kernel
theorem dX12_keeps_40 : decode cX12_keeps 40 = .ok (.iload_n 1, 1) := by decide +kernel
theorem dX12_keeps_41 : decode cX12_keeps 41 = .ok (.iaload, 1) := by decide +kernel
theorem dX12_keeps_42 : decode cX12_keeps 42 = .ok (.iastore, 1) := by decide +kernel
theorem dX12_keeps_43 : decode cX12_keeps 43 = .ok (.iinc 1 1, 3) := by decide +kernel
theorem dX12_keeps_46 : decode cX12_keeps 46 = .ok (.goto (-31), 3) := by decide +kernel
theorem dX12_keeps_49 : decode cX12_keeps 49 = .ok (.aload_n 0, 1) := by decide +kernel
theorem dX12_keeps_50 : decode cX12_keeps 50 = .ok (.getfield 406, 3) := by decide +kernel
theorem dX12_keeps_53 : decode cX12_keeps 53 = .ok (.bipush 20, 2) := by decide +kernel
theorem dX12_keeps_55 : decode cX12_keeps 55 = .ok (.if_icmp .ge 13, 3) := by decide +kernel
theorem dX12_keeps_58 : decode cX12_keeps 58 = .ok (.aload_n 0, 1) := by decide +kernel
theorem dX12_keeps_59 : decode cX12_keeps 59 = .ok (.dup, 1) := by decide +kernel
theorem dX12_keeps_60 : decode cX12_keeps 60 = .ok (.getfield 406, 3) := by decide +kernel
theorem dX12_keeps_63 : decode cX12_keeps 63 = .ok (.iconst 1, 1) := by decide +kernel
theorem dX12_keeps_64 : decode cX12_keeps 64 = .ok (.iadd, 1) := by decide +kernel
theorem dX12_keeps_65 : decode cX12_keeps 65 = .ok (.putfield 406, 3) := by decide +kernel
theorem dX12_keeps_68 : decode cX12_keeps 68 = .ok (.return_, 1) := by decide +kernel
theorem dX12_undo_0 : decode cX12_undo 0 = .ok (.aload_n 0, 1) := by decide +kernel
theorem dX12_undo_1 : decode cX12_undo 1 = .ok (.getfield 406, 3) := by decide +kernel
theorem dX12_undo_4 : decode cX12_undo 4 = .ok (.ifCond .ne 15, 3) := by decide +kernel
theorem dX12_undo_7 : decode cX12_undo 7 = .ok (.aload_n 0, 1) := by decide +kernel
theorem dX12_undo_8 : decode cX12_undo 8 = .ok (.getfield 17, 3) := by decide +kernel
theorem dX12_undo_11 : decode cX12_undo 11 = .ok (.iconst 4, 1) := by decide +kernel
theorem dX12_undo_12 : decode cX12_undo 12 = .ok (.dup2, 1) := by decide +kernel
theorem dX12_undo_13 : decode cX12_undo 13 = .ok (.iaload, 1) := by decide +kernel
theorem dX12_undo_14 : decode cX12_undo 14 = .ok (.iconst 1, 1) := by decide +kernel
theorem dX12_undo_15 : decode cX12_undo 15 = .ok (.iadd, 1) := by decide +kernel
theorem dX12_undo_16 : decode cX12_undo 16 = .ok (.iastore, 1) := by decide +kernel
theorem dX12_undo_17 : decode cX12_undo 17 = .ok (.iconst 0, 1) := by decide +kernel
theorem dX12_undo_18 : decode cX12_undo 18 = .ok (.ireturn, 1) := by decide +kernel
theorem dX12_undo_19 : decode cX12_undo 19 = .ok (.iconst 0, 1) := by decide +kernel
theorem dX12_undo_20 : decode cX12_undo 20 = .ok (.istore_n 1, 1) := by decide +kernel
theorem dX12_undo_21 : decode cX12_undo 21 = .ok (.iload_n 1, 1) := by decide +kernel
theorem dX12_undo_22 : decode cX12_undo 22 = .ok (.sipush 204, 3) := by decide +kernel
theorem dX12_undo_25 : decode cX12_undo 25 = .ok (.if_icmp .ge 30, 3) := by decide +kernel
theorem dX12_undo_28 : decode cX12_undo 28 = .ok (.aload_n 0, 1) := by decide +kernel
theorem dX12_undo_29 : decode cX12_undo 29 = .ok (.getfield 118, 3) := by decide +kernel
theorem dX12_undo_32 : decode cX12_undo 32 = .ok (.iload_n 1, 1) := by decide +kernel
theorem dX12_undo_33 : decode cX12_undo 33 = .ok (.aload_n 0, 1) := by decide +kernel
theorem dX12_undo_34 : decode cX12_undo 34 = .ok (.getfield 170, 3) := by decide +kernel
theorem dX12_undo_37 : decode cX12_undo 37 = .ok (.sipush 204, 3) := by decide +kernel
theorem dX12_undo_40 : decode cX12_undo 40 = .ok (.aload_n 0, 1) := by decide +kernel
theorem dX12_undo_41 : decode cX12_undo 41 = .ok (.getfield 622, 3) := by decide +kernel
theorem dX12_undo_44 : decode cX12_undo 44 = .ok (.imul, 1) := by decide +kernel
theorem dX12_undo_45 : decode cX12_undo 45 = .ok (.iload_n 1, 1) := by decide +kernel
theorem dX12_undo_46 : decode cX12_undo 46 = .ok (.iadd, 1) := by decide +kernel
theorem dX12_undo_47 : decode cX12_undo 47 = .ok (.iaload, 1) := by decide +kernel
theorem dX12_undo_48 : decode cX12_undo 48 = .ok (.iastore, 1) := by decide +kernel
theorem dX12_undo_49 : decode cX12_undo 49 = .ok (.iinc 1 1, 3) := by decide +kernel
theorem dX12_undo_52 : decode cX12_undo 52 = .ok (.goto (-31), 3) := by decide +kernel
theorem dX12_undo_55 : decode cX12_undo 55 = .ok (.aload_n 0, 1) := by decide +kernel
theorem dX12_undo_56 : decode cX12_undo 56 = .ok (.aload_n 0, 1) := by decide +kernel
theorem dX12_undo_57 : decode cX12_undo 57 = .ok (.getfield 622, 3) := by decide +kernel
theorem dX12_undo_60 : decode cX12_undo 60 = .ok (.bipush 20, 2) := by decide +kernel
theorem dX12_undo_62 : decode cX12_undo 62 = .ok (.iadd, 1) := by decide +kernel
theorem dX12_undo_63 : decode cX12_undo 63 = .ok (.iconst 1, 1) := by decide +kernel
theorem dX12_undo_64 : decode cX12_undo 64 = .ok (.isub, 1) := by decide +kernel
theorem dX12_undo_65 : decode cX12_undo 65 = .ok (.bipush 20, 2) := by decide +kernel
theorem dX12_undo_67 : decode cX12_undo 67 = .ok (.irem, 1) := by decide +kernel
theorem dX12_undo_68 : decode cX12_undo 68 = .ok (.putfield 622, 3) := by decide +kernel
theorem dX12_undo_71 : decode cX12_undo 71 = .ok (.aload_n 0, 1) := by decide +kernel
theorem dX12_undo_72 : decode cX12_undo 72 = .ok (.dup, 1) := by decide +kernel
theorem dX12_undo_73 : decode cX12_undo 73 = .ok (.getfield 406, 3) := by decide +kernel
theorem dX12_undo_76 : decode cX12_undo 76 = .ok (.iconst 1, 1) := by decide +kernel
theorem dX12_undo_77 : decode cX12_undo 77 = .ok (.isub, 1) := by decide +kernel
theorem dX12_undo_78 : decode cX12_undo 78 = .ok (.putfield 406, 3) := by decide +kernel
theorem dX12_undo_81 : decode cX12_undo 81 = .ok (.iconst 1, 1) := by decide +kernel
theorem dX12_undo_82 : decode cX12_undo 82 = .ok (.ireturn, 1) := by decide +kernel
theorem dX12_isRefused_0 : decode cX12_isRefused 0 = .ok (.aload_n 0, 1) := by decide +kernel
theorem dX12_isRefused_1 : decode cX12_isRefused 1 = .ok (.getfield 17, 3) := by decide +kernel
theorem dX12_isRefused_4 : decode cX12_isRefused 4 = .ok (.iconst 2, 1) := by decide +kernel
theorem dX12_isRefused_5 : decode cX12_isRefused 5 = .ok (.dup2, 1) := by decide +kernel
theorem dX12_isRefused_6 : decode cX12_isRefused 6 = .ok (.iaload, 1) := by decide +kernel
theorem dX12_isRefused_7 : decode cX12_isRefused 7 = .ok (.iconst 1, 1) := by decide +kernel
theorem dX12_isRefused_8 : decode cX12_isRefused 8 = .ok (.iadd, 1) := by decide +kernel
theorem dX12_isRefused_9 : decode cX12_isRefused 9 = .ok (.iastore, 1) := by decide +kernel
theorem dX12_isRefused_10 : decode cX12_isRefused 10 = .ok (.iconst 0, 1) := by decide +kernel
theorem dX12_isRefused_11 : decode cX12_isRefused 11 = .ok (.ireturn, 1) := by decide +kernel
theorem dX12_feud_0 : decode cX12_feud 0 = .ok (.aload_n 0, 1) := by decide +kernel
theorem dX12_feud_1 : decode cX12_feud 1 = .ok (.iload_n 1, 1) := by decide +kernel
theorem dX12_feud_2 : decode cX12_feud 2 = .ok (.iload_n 2, 1) := by decide +kernel
theorem dX12_feud_3 : decode cX12_feud 3 = .ok (.invokevirtual 541, 3) := by decide +kernel
theorem dX12_feud_6 : decode cX12_feud 6 = .ok (.ifCond .eq 41, 3) := by decide +kernel
theorem dX12_feud_9 : decode cX12_feud 9 = .ok (.aload_n 0, 1) := by decide +kernel
theorem dX12_feud_10 : decode cX12_feud 10 = .ok (.iload_n 1, 1) := by decide +kernel
theorem dX12_feud_11 : decode cX12_feud 11 = .ok (.invokevirtual 462, 3) := by decide +kernel
theorem dX12_feud_14 : decode cX12_feud 14 = .ok (.ifCond .eq 33, 3) := by decide +kernel
theorem dX12_feud_17 : decode cX12_feud 17 = .ok (.aload_n 0, 1) := by decide +kernel
theorem dX12_feud_18 : decode cX12_feud 18 = .ok (.iload_n 2, 1) := by decide +kernel
theorem dX12_feud_19 : decode cX12_feud 19 = .ok (.invokevirtual 462, 3) := by decide +kernel
theorem dX12_feud_22 : decode cX12_feud 22 = .ok (.ifCond .eq 25, 3) := by decide +kernel
theorem dX12_feud_25 : decode cX12_feud 25 = .ok (.iload_n 3, 1) := by decide +kernel
theorem dX12_feud_26 : decode cX12_feud 26 = .ok (.i2l, 1) := by decide +kernel
theorem dX12_feud_27 : decode cX12_feud 27 = .ok (.lconst 0, 1) := by decide +kernel
theorem dX12_feud_28 : decode cX12_feud 28 = .ok (.ldc2_w 255, 3) := by decide +kernel
theorem dX12_feud_31 : decode cX12_feud 31 = .ok (.invokestatic 303, 3) := by decide +kernel
theorem dX12_feud_34 : decode cX12_feud 34 = .ok (.ifCond .eq 13, 3) := by decide +kernel
theorem dX12_feud_37 : decode cX12_feud 37 = .ok (.aload_n 0, 1) := by decide +kernel
theorem dX12_feud_38 : decode cX12_feud 38 = .ok (.iload_n 1, 1) := by decide +kernel
theorem dX12_feud_39 : decode cX12_feud 39 = .ok (.iload_n 2, 1) := by decide +kernel
theorem dX12_feud_40 : decode cX12_feud 40 = .ok (.invokevirtual 415, 3) := by decide +kernel
theorem dX12_feud_43 : decode cX12_feud 43 = .ok (.iload_n 3, 1) := by decide +kernel
theorem dX12_feud_44 : decode cX12_feud 44 = .ok (.if_icmp .ne 8, 3) := by decide +kernel
theorem dX12_feud_47 : decode cX12_feud 47 = .ok (.aload_n 0, 1) := by decide +kernel
theorem dX12_feud_48 : decode cX12_feud 48 = .ok (.invokevirtual 625, 3) := by decide +kernel
theorem dX12_feud_51 : decode cX12_feud 51 = .ok (.ireturn, 1) := by decide +kernel
theorem dX12_feud_52 : decode cX12_feud 52 = .ok (.aload_n 0, 1) := by decide +kernel
theorem dX12_feud_53 : decode cX12_feud 53 = .ok (.invokevirtual 628, 3) := by decide +kernel
theorem dX12_feud_56 : decode cX12_feud 56 = .ok (.aload_n 0, 1) := by decide +kernel
theorem dX12_feud_57 : decode cX12_feud 57 = .ok (.getfield 118, 3) := by decide +kernel
theorem dX12_feud_60 : decode cX12_feud 60 = .ok (.bipush 22, 2) := by decide +kernel
theorem dX12_feud_62 : decode cX12_feud 62 = .ok (.iload_n 1, 1) := by decide +kernel
theorem dX12_feud_63 : decode cX12_feud 63 = .ok (.iload_n 2, 1) := by decide +kernel
theorem dX12_feud_64 : decode cX12_feud 64 = .ok (.invokestatic 347, 3) := by decide +kernel
theorem dX12_feud_67 : decode cX12_feud 67 = .ok (.iadd, 1) := by decide +kernel
theorem dX12_feud_68 : decode cX12_feud 68 = .ok (.iload_n 3, 1) := by decide +kernel
theorem dX12_feud_69 : decode cX12_feud 69 = .ok (.iastore, 1) := by decide +kernel
theorem dX12_feud_70 : decode cX12_feud 70 = .ok (.iconst 1, 1) := by decide +kernel
theorem dX12_feud_71 : decode cX12_feud 71 = .ok (.ireturn, 1) := by decide +kernel
theorem dX12_bring_0 : decode cX12_bring 0 = .ok (.aload_n 0, 1) := by decide +kernel
theorem dX12_bring_1 : decode cX12_bring 1 = .ok (.iload_n 1, 1) := by decide +kernel
theorem dX12_bring_2 : decode cX12_bring 2 = .ok (.i2l, 1) := by decide +kernel
theorem dX12_bring_3 : decode cX12_bring 3 = .ok (.invokevirtual 534, 3) := by decide +kernel
theorem dX12_bring_6 : decode cX12_bring 6 = .ok (.ifCond .eq 32, 3) := by decide +kernel
theorem dX12_bring_9 : decode cX12_bring 9 = .ok (.aload_n 0, 1) := by decide +kernel
theorem dX12_bring_10 : decode cX12_bring 10 = .ok (.iload_n 1, 1) := by decide +kernel
theorem dX12_bring_11 : decode cX12_bring 11 = .ok (.invokevirtual 462, 3) := by decide +kernel
theorem dX12_bring_14 : decode cX12_bring 14 = .ok (.ifCond .eq 24, 3) := by decide +kernel
theorem dX12_bring_17 : decode cX12_bring 17 = .ok (.iload_n 2, 1) := by decide +kernel
theorem dX12_bring_18 : decode cX12_bring 18 = .ok (.i2l, 1) := by decide +kernel
theorem dX12_bring_19 : decode cX12_bring 19 = .ok (.lconst 0, 1) := by decide +kernel
theorem dX12_bring_20 : decode cX12_bring 20 = .ok (.ldc2_w 255, 3) := by decide +kernel
theorem dX12_bring_23 : decode cX12_bring 23 = .ok (.invokestatic 303, 3) := by decide +kernel
theorem dX12_bring_26 : decode cX12_bring 26 = .ok (.ifCond .eq 12, 3) := by decide +kernel
theorem dX12_bring_29 : decode cX12_bring 29 = .ok (.aload_n 0, 1) := by decide +kernel
theorem dX12_bring_30 : decode cX12_bring 30 = .ok (.iload_n 1, 1) := by decide +kernel
theorem dX12_bring_31 : decode cX12_bring 31 = .ok (.invokevirtual 465, 3) := by decide +kernel
theorem dX12_bring_34 : decode cX12_bring 34 = .ok (.iload_n 2, 1) := by decide +kernel
theorem dX12_bring_35 : decode cX12_bring 35 = .ok (.if_icmp .ne 8, 3) := by decide +kernel
theorem dX12_bring_38 : decode cX12_bring 38 = .ok (.aload_n 0, 1) := by decide +kernel
theorem dX12_bring_39 : decode cX12_bring 39 = .ok (.invokevirtual 625, 3) := by decide +kernel
theorem dX12_bring_42 : decode cX12_bring 42 = .ok (.ireturn, 1) := by decide +kernel
theorem dX12_bring_43 : decode cX12_bring 43 = .ok (.aload_n 0, 1) := by decide +kernel
theorem dX12_bring_44 : decode cX12_bring 44 = .ok (.invokevirtual 628, 3) := by decide +kernel
theorem dX12_bring_47 : decode cX12_bring 47 = .ok (.aload_n 0, 1) := by decide +kernel
theorem dX12_bring_48 : decode cX12_bring 48 = .ok (.getfield 118, 3) := by decide +kernel
theorem dX12_bring_51 : decode cX12_bring 51 = .ok (.iconst 2, 1) := by decide +kernel
theorem dX12_bring_52 : decode cX12_bring 52 = .ok (.iconst 3, 1) := by decide +kernel
theorem dX12_bring_53 : decode cX12_bring 53 = .ok (.iload_n 1, 1) := by decide +kernel
theorem dX12_bring_54 : decode cX12_bring 54 = .ok (.imul, 1) := by decide +kernel
theorem dX12_bring_55 : decode cX12_bring 55 = .ok (.iadd, 1) := by decide +kernel
theorem dX12_bring_56 : decode cX12_bring 56 = .ok (.iload_n 2, 1) := by decide +kernel
theorem dX12_bring_57 : decode cX12_bring 57 = .ok (.iastore, 1) := by decide +kernel
theorem dX12_bring_58 : decode cX12_bring 58 = .ok (.iconst 1, 1) := by decide +kernel
theorem dX12_bring_59 : decode cX12_bring 59 = .ok (.ireturn, 1) := by decide +kernel
theorem dX12_days_0 : decode cX12_days 0 = .ok (.aload_n 0, 1) := by decide +kernel
theorem dX12_days_1 : decode cX12_days 1 = .ok (.iload_n 1, 1) := by decide +kernel
theorem dX12_days_2 : decode cX12_days 2 = .ok (.iconst 1, 1) := by decide +kernel
theorem dX12_days_3 : decode cX12_days 3 = .ok (.bipush 100, 2) := by decide +kernel
theorem dX12_days_5 : decode cX12_days 5 = .ok (.invokevirtual 550, 3) := by decide +kernel
theorem dX12_days_8 : decode cX12_days 8 = .ok (.ifCond .ne 9, 3) := by decide +kernel
theorem dX12_days_11 : decode cX12_days 11 = .ok (.aload_n 0, 1) := by decide +kernel
theorem dX12_days_12 : decode cX12_days 12 = .ok (.iconst 3, 1) := by decide +kernel
theorem dX12_days_13 : decode cX12_days 13 = .ok (.invokevirtual 604, 3) := by decide +kernel
theorem dX12_days_16 : decode cX12_days 16 = .ok (.ireturn, 1) := by decide +kernel
theorem dX12_days_17 : decode cX12_days 17 = .ok (.aload_n 0, 1) := by decide +kernel
theorem dX12_days_18 : decode cX12_days 18 = .ok (.invokevirtual 628, 3) := by decide +kernel
theorem dX12_days_21 : decode cX12_days 21 = .ok (.aload_n 0, 1) := by decide +kernel
theorem dX12_days_22 : decode cX12_days 22 = .ok (.iconst 0, 1) := by decide +kernel
theorem dX12_days_23 : decode cX12_days 23 = .ok (.putfield 489, 3) := by decide +kernel
theorem dX12_days_26 : decode cX12_days 26 = .ok (.aload_n 0, 1) := by decide +kernel
theorem dX12_days_27 : decode cX12_days 27 = .ok (.iload_n 1, 1) := by decide +kernel
theorem dX12_days_28 : decode cX12_days 28 = .ok (.invokevirtual 556, 3) := by decide +kernel
theorem dX12_days_31 : decode cX12_days 31 = .ok (.aload_n 0, 1) := by decide +kernel
theorem dX12_days_32 : decode cX12_days 32 = .ok (.getfield 489, 3) := by decide +kernel
theorem dX12_days_35 : decode cX12_days 35 = .ok (.ireturn, 1) := by decide +kernel
theorem dX12_seed_0 : decode cX12_seed 0 = .ok (.iload_n 1, 1) := by decide +kernel
theorem dX12_seed_1 : decode cX12_seed 1 = .ok (.ifCond .ge 15, 3) := by decide +kernel
theorem dX12_seed_4 : decode cX12_seed 4 = .ok (.aload_n 0, 1) := by decide +kernel
theorem dX12_seed_5 : decode cX12_seed 5 = .ok (.getfield 17, 3) := by decide +kernel
theorem dX12_seed_8 : decode cX12_seed 8 = .ok (.iconst 5, 1) := by decide +kernel
theorem dX12_seed_9 : decode cX12_seed 9 = .ok (.dup2, 1) := by decide +kernel
theorem dX12_seed_10 : decode cX12_seed 10 = .ok (.iaload, 1) := by decide +kernel
theorem dX12_seed_11 : decode cX12_seed 11 = .ok (.iconst 1, 1) := by decide +kernel
theorem dX12_seed_12 : decode cX12_seed 12 = .ok (.iadd, 1) := by decide +kernel
theorem dX12_seed_13 : decode cX12_seed 13 = .ok (.iastore, 1) := by decide +kernel
theorem dX12_seed_14 : decode cX12_seed 14 = .ok (.iconst 0, 1) := by decide +kernel
theorem dX12_seed_15 : decode cX12_seed 15 = .ok (.ireturn, 1) := by decide +kernel
theorem dX12_seed_16 : decode cX12_seed 16 = .ok (.aload_n 0, 1) := by decide +kernel
theorem dX12_seed_17 : decode cX12_seed 17 = .ok (.iload_n 1, 1) := by decide +kernel
theorem dX12_seed_18 : decode cX12_seed 18 = .ok (.i2l, 1) := by decide +kernel
theorem dX12_seed_19 : decode cX12_seed 19 = .ok (.putfield 173, 3) := by decide +kernel
theorem dX12_seed_22 : decode cX12_seed 22 = .ok (.iconst 1, 1) := by decide +kernel
theorem dX12_seed_23 : decode cX12_seed 23 = .ok (.ireturn, 1) := by decide +kernel
theorem dX12_drawOf_0 : decode cX12_drawOf 0 = .ok (.aload_n 0, 1) := by decide +kernel
theorem dX12_drawOf_1 : decode cX12_drawOf 1 = .ok (.ldc2_w 631, 3) := by decide +kernel
theorem dX12_drawOf_4 : decode cX12_drawOf 4 = .ok (.aload_n 0, 1) := by decide +kernel
theorem dX12_drawOf_5 : decode cX12_drawOf 5 = .ok (.getfield 173, 3) := by decide +kernel
theorem dX12_drawOf_8 : decode cX12_drawOf 8 = .ok (.lmul, 1) := by decide +kernel
theorem dX12_drawOf_9 : decode cX12_drawOf 9 = .ok (.ldc2_w 633, 3) := by decide +kernel
theorem dX12_drawOf_12 : decode cX12_drawOf 12 = .ok (.ladd, 1) := by decide +kernel
theorem dX12_drawOf_13 : decode cX12_drawOf 13 = .ok (.ldc2_w 635, 3) := by decide +kernel
theorem dX12_drawOf_16 : decode cX12_drawOf 16 = .ok (.lrem, 1) := by decide +kernel
theorem dX12_drawOf_17 : decode cX12_drawOf 17 = .ok (.putfield 173, 3) := by decide +kernel
theorem dX12_drawOf_20 : decode cX12_drawOf 20 = .ok (.aload_n 0, 1) := by decide +kernel
theorem dX12_drawOf_21 : decode cX12_drawOf 21 = .ok (.getfield 173, 3) := by decide +kernel
theorem dX12_drawOf_24 : decode cX12_drawOf 24 = .ok (.ldc2_w 637, 3) := by decide +kernel
theorem dX12_drawOf_27 : decode cX12_drawOf 27 = .ok (.ldiv, 1) := by decide +kernel
theorem dX12_drawOf_28 : decode cX12_drawOf 28 = .ok (.iload_n 1, 1) := by decide +kernel
theorem dX12_drawOf_29 : decode cX12_drawOf 29 = .ok (.i2l, 1) := by decide +kernel
theorem dX12_drawOf_30 : decode cX12_drawOf 30 = .ok (.lrem, 1) := by decide +kernel
theorem dX12_drawOf_31 : decode cX12_drawOf 31 = .ok (.l2i, 1) := by decide +kernel
theorem dX12_drawOf_32 : decode cX12_drawOf 32 = .ok (.ireturn, 1) := by decide +kernel
theorem dX12_chance_0 : decode cX12_chance 0 = .ok (.aload_n 0, 1) := by decide +kernel
theorem dX12_chance_1 : decode cX12_chance 1 = .ok (.iload_n 1, 1) := by decide +kernel
theorem dX12_chance_2 : decode cX12_chance 2 = .ok (.iconst 1, 1) := by decide +kernel
theorem dX12_chance_3 : decode cX12_chance 3 = .ok (.bipush 100, 2) := by decide +kernel
theorem dX12_chance_5 : decode cX12_chance 5 = .ok (.invokevirtual 550, 3) := by decide +kernel
theorem dX12_chance_8 : decode cX12_chance 8 = .ok (.ifCond .ne 9, 3) := by decide +kernel
theorem dX12_chance_11 : decode cX12_chance 11 = .ok (.aload_n 0, 1) := by decide +kernel
theorem dX12_chance_12 : decode cX12_chance 12 = .ok (.iconst 3, 1) := by decide +kernel
theorem dX12_chance_13 : decode cX12_chance 13 = .ok (.invokevirtual 604, 3) := by decide +kernel
theorem dX12_chance_16 : decode cX12_chance 16 = .ok (.ireturn, 1) := by decide +kernel
theorem dX12_chance_17 : decode cX12_chance 17 = .ok (.aload_n 0, 1) := by decide +kernel
theorem dX12_chance_18 : decode cX12_chance 18 = .ok (.invokevirtual 628, 3) := by decide +kernel
theorem dX12_chance_21 : decode cX12_chance 21 = .ok (.iconst 0, 1) := by decide +kernel
theorem dX12_chance_22 : decode cX12_chance 22 = .ok (.istore_n 2, 1) := by decide +kernel
theorem dX12_chance_23 : decode cX12_chance 23 = .ok (.iconst 0, 1) := by decide +kernel
theorem dX12_chance_24 : decode cX12_chance 24 = .ok (.istore_n 3, 1) := by decide +kernel
theorem dX12_chance_25 : decode cX12_chance 25 = .ok (.iload_n 3, 1) := by decide +kernel
theorem dX12_chance_26 : decode cX12_chance 26 = .ok (.iload_n 1, 1) := by decide +kernel
theorem dX12_chance_27 : decode cX12_chance 27 = .ok (.if_icmp .ge 67, 3) := by decide +kernel
theorem dX12_chance_30 : decode cX12_chance 30 = .ok (.aload_n 0, 1) := by decide +kernel
theorem dX12_chance_31 : decode cX12_chance 31 = .ok (.bipush 100, 2) := by decide +kernel
theorem dX12_chance_33 : decode cX12_chance 33 = .ok (.invokevirtual 639, 3) := by decide +kernel
theorem dX12_chance_36 : decode cX12_chance 36 = .ok (.aload_n 0, 1) := by decide +kernel
theorem dX12_chance_37 : decode cX12_chance 37 = .ok (.getfield 93, 3) := by decide +kernel
theorem dX12_chance_40 : decode cX12_chance 40 = .ok (.iconst 3, 1) := by decide +kernel
theorem dX12_chance_41 : decode cX12_chance 41 = .ok (.iaload, 1) := by decide +kernel
theorem dX12_chance_42 : decode cX12_chance 42 = .ok (.if_icmp .ge 42, 3) := by decide +kernel
theorem dX12_chance_45 : decode cX12_chance 45 = .ok (.aload_n 0, 1) := by decide +kernel
theorem dX12_chance_46 : decode cX12_chance 46 = .ok (.invokevirtual 412, 3) := by decide +kernel
theorem dX12_chance_49 : decode cX12_chance 49 = .ok (.ifCond .le 35, 3) := by decide +kernel
theorem dX12_chance_52 : decode cX12_chance 52 = .ok (.aload_n 0, 1) := by decide +kernel
theorem dX12_chance_53 : decode cX12_chance 53 = .ok (.aload_n 0, 1) := by decide +kernel
theorem dX12_chance_54 : decode cX12_chance 54 = .ok (.invokevirtual 412, 3) := by decide +kernel
theorem dX12_chance_57 : decode cX12_chance 57 = .ok (.invokevirtual 639, 3) := by decide +kernel
theorem dX12_chance_60 : decode cX12_chance 60 = .ok (.istore 4, 2) := by decide +kernel
theorem dX12_chance_62 : decode cX12_chance 62 = .ok (.aload_n 0, 1) := by decide +kernel
theorem dX12_chance_63 : decode cX12_chance 63 = .ok (.getfield 118, 3) := by decide +kernel
theorem dX12_chance_66 : decode cX12_chance 66 = .ok (.iconst 2, 1) := by decide +kernel
theorem dX12_chance_67 : decode cX12_chance 67 = .ok (.iconst 3, 1) := by decide +kernel
theorem dX12_chance_68 : decode cX12_chance 68 = .ok (.iload 4, 2) := by decide +kernel
theorem dX12_chance_70 : decode cX12_chance 70 = .ok (.imul, 1) := by decide +kernel
theorem dX12_chance_71 : decode cX12_chance 71 = .ok (.iadd, 1) := by decide +kernel
theorem dX12_chance_72 : decode cX12_chance 72 = .ok (.aload_n 0, 1) := by decide +kernel
theorem dX12_chance_73 : decode cX12_chance 73 = .ok (.iload 4, 2) := by decide +kernel
theorem dX12_chance_75 : decode cX12_chance 75 = .ok (.invokevirtual 465, 3) := by decide +kernel
theorem dX12_chance_78 : decode cX12_chance 78 = .ok (.iconst 2, 1) := by decide +kernel
theorem dX12_chance_79 : decode cX12_chance 79 = .ok (.idiv, 1) := by decide +kernel
theorem dX12_chance_80 : decode cX12_chance 80 = .ok (.iastore, 1) := by decide +kernel
theorem dX12_chance_81 : decode cX12_chance 81 = .ok (.iinc 2 1, 3) := by decide +kernel
theorem dX12_chance_84 : decode cX12_chance 84 = .ok (.aload_n 0, 1) := by decide +kernel
theorem dX12_chance_85 : decode cX12_chance 85 = .ok (.invokevirtual 516, 3) := by decide +kernel
theorem dX12_chance_88 : decode cX12_chance 88 = .ok (.iinc 3 1, 3) := by decide +kernel
theorem dX12_chance_91 : decode cX12_chance 91 = .ok (.goto (-66), 3) := by decide +kernel
theorem dX12_chance_94 : decode cX12_chance 94 = .ok (.iload_n 2, 1) := by decide +kernel
theorem dX12_chance_95 : decode cX12_chance 95 = .ok (.ireturn, 1) := by decide +kernel
theorem dX12_qCode_0 : decode cX12_qCode 0 = .ok (.aload_n 0, 1) := by decide +kernel
theorem dX12_qCode_1 : decode cX12_qCode 1 = .ok (.getfield 243, 3) := by decide +kernel
theorem dX12_qCode_4 : decode cX12_qCode 4 = .ok (.aload_n 0, 1) := by decide +kernel
theorem dX12_qCode_5 : decode cX12_qCode 5 = .ok (.getfield 354, 3) := by decide +kernel
theorem dX12_qCode_8 : decode cX12_qCode 8 = .ok (.iload_n 1, 1) := by decide +kernel
theorem dX12_qCode_9 : decode cX12_qCode 9 = .ok (.iastore, 1) := by decide +kernel
theorem dX12_qCode_10 : decode cX12_qCode 10 = .ok (.aload_n 0, 1) := by decide +kernel
theorem dX12_qCode_11 : decode cX12_qCode 11 = .ok (.dup, 1) := by decide +kernel
theorem dX12_qCode_12 : decode cX12_qCode 12 = .ok (.getfield 354, 3) := by decide +kernel
theorem dX12_qCode_15 : decode cX12_qCode 15 = .ok (.iconst 1, 1) := by decide +kernel
theorem dX12_qCode_16 : decode cX12_qCode 16 = .ok (.iadd, 1) := by decide +kernel
theorem dX12_qCode_17 : decode cX12_qCode 17 = .ok (.putfield 354, 3) := by decide +kernel
theorem dX12_qCode_20 : decode cX12_qCode 20 = .ok (.return_, 1) := by decide +kernel
theorem dX12_qOpens_0 : decode cX12_qOpens 0 = .ok (.aload_n 0, 1) := by decide +kernel
theorem dX12_qOpens_1 : decode cX12_qOpens 1 = .ok (.getfield 260, 3) := by decide +kernel
theorem dX12_qOpens_4 : decode cX12_qOpens 4 = .ok (.ifCond .eq 4, 3) := by decide +kernel
theorem dX12_qOpens_7 : decode cX12_qOpens 7 = .ok (.return_, 1) := by decide +kernel
theorem dX12_qOpens_8 : decode cX12_qOpens 8 = .ok (.aload_n 0, 1) := by decide +kernel
theorem dX12_qOpens_9 : decode cX12_qOpens 9 = .ok (.getfield 360, 3) := by decide +kernel
theorem dX12_qOpens_12 : decode cX12_qOpens 12 = .ok (.bipush 6, 2) := by decide +kernel
theorem dX12_qOpens_14 : decode cX12_qOpens 14 = .ok (.if_icmp .ne 10, 3) := by decide +kernel
theorem dX12_qOpens_17 : decode cX12_qOpens 17 = .ok (.aload_n 0, 1) := by decide +kernel
theorem dX12_qOpens_18 : decode cX12_qOpens 18 = .ok (.iconst 4, 1) := by decide +kernel
theorem dX12_qOpens_19 : decode cX12_qOpens 19 = .ok (.iload_n 2, 1) := by decide +kernel
theorem dX12_qOpens_20 : decode cX12_qOpens 20 = .ok (.invokevirtual 290, 3) := by decide +kernel
theorem dX12_qOpens_23 : decode cX12_qOpens 23 = .ok (.return_, 1) := by decide +kernel
theorem dX12_qOpens_24 : decode cX12_qOpens 24 = .ok (.aload_n 0, 1) := by decide +kernel
theorem dX12_qOpens_25 : decode cX12_qOpens 25 = .ok (.dup, 1) := by decide +kernel
theorem dX12_qOpens_26 : decode cX12_qOpens 26 = .ok (.getfield 360, 3) := by decide +kernel
theorem dX12_qOpens_29 : decode cX12_qOpens 29 = .ok (.iconst 1, 1) := by decide +kernel
theorem dX12_qOpens_30 : decode cX12_qOpens 30 = .ok (.iadd, 1) := by decide +kernel
theorem dX12_qOpens_31 : decode cX12_qOpens 31 = .ok (.putfield 360, 3) := by decide +kernel
theorem dX12_qOpens_34 : decode cX12_qOpens 34 = .ok (.aload_n 0, 1) := by decide +kernel
theorem dX12_qOpens_35 : decode cX12_qOpens 35 = .ok (.getfield 246, 3) := by decide +kernel
theorem dX12_qOpens_38 : decode cX12_qOpens 38 = .ok (.aload_n 0, 1) := by decide +kernel
theorem dX12_qOpens_39 : decode cX12_qOpens 39 = .ok (.getfield 357, 3) := by decide +kernel
theorem dX12_qOpens_42 : decode cX12_qOpens 42 = .ok (.iload_n 1, 1) := by decide +kernel
theorem dX12_qOpens_43 : decode cX12_qOpens 43 = .ok (.iastore, 1) := by decide +kernel
theorem dX12_qOpens_44 : decode cX12_qOpens 44 = .ok (.aload_n 0, 1) := by decide +kernel
theorem dX12_qOpens_45 : decode cX12_qOpens 45 = .ok (.dup, 1) := by decide +kernel
theorem dX12_qOpens_46 : decode cX12_qOpens 46 = .ok (.getfield 357, 3) := by decide +kernel
theorem dX12_qOpens_49 : decode cX12_qOpens 49 = .ok (.iconst 1, 1) := by decide +kernel
theorem dX12_qOpens_50 : decode cX12_qOpens 50 = .ok (.iadd, 1) := by decide +kernel
theorem dX12_qOpens_51 : decode cX12_qOpens 51 = .ok (.putfield 357, 3) := by decide +kernel
theorem dX12_qOpens_54 : decode cX12_qOpens 54 = .ok (.return_, 1) := by decide +kernel
theorem dX12_qIsOn_0 : decode cX12_qIsOn 0 = .ok (.aload_n 0, 1) := by decide +kernel
theorem dX12_qIsOn_1 : decode cX12_qIsOn 1 = .ok (.getfield 357, 3) := by decide +kernel
theorem dX12_qIsOn_4 : decode cX12_qIsOn 4 = .ok (.ifCond .le 22, 3) := by decide +kernel
theorem dX12_qIsOn_7 : decode cX12_qIsOn 7 = .ok (.aload_n 0, 1) := by decide +kernel
theorem dX12_qIsOn_8 : decode cX12_qIsOn 8 = .ok (.getfield 246, 3) := by decide +kernel
theorem dX12_qIsOn_11 : decode cX12_qIsOn 11 = .ok (.aload_n 0, 1) := by decide +kernel
theorem dX12_qIsOn_12 : decode cX12_qIsOn 12 = .ok (.getfield 357, 3) := by decide +kernel
theorem dX12_qIsOn_15 : decode cX12_qIsOn 15 = .ok (.iconst 1, 1) := by decide +kernel
theorem dX12_qIsOn_16 : decode cX12_qIsOn 16 = .ok (.isub, 1) := by decide +kernel
theorem dX12_qIsOn_17 : decode cX12_qIsOn 17 = .ok (.iaload, 1) := by decide +kernel
theorem dX12_qIsOn_18 : decode cX12_qIsOn 18 = .ok (.iload_n 1, 1) := by decide +kernel
theorem dX12_qIsOn_19 : decode cX12_qIsOn 19 = .ok (.if_icmp .ne 7, 3) := by decide +kernel
theorem dX12_qIsOn_22 : decode cX12_qIsOn 22 = .ok (.iconst 1, 1) := by decide +kernel
theorem dX12_qIsOn_23 : decode cX12_qIsOn 23 = .ok (.goto 4, 3) := by decide +kernel
theorem dX12_qIsOn_26 : decode cX12_qIsOn 26 = .ok (.iconst 0, 1) := by decide +kernel
theorem dX12_qIsOn_27 : decode cX12_qIsOn 27 = .ok (.ireturn, 1) := by decide +kernel
theorem dX12_qDrops_0 : decode cX12_qDrops 0 = .ok (.aload_n 0, 1) := by decide +kernel
theorem dX12_qDrops_1 : decode cX12_qDrops 1 = .ok (.dup, 1) := by decide +kernel
theorem dX12_qDrops_2 : decode cX12_qDrops 2 = .ok (.getfield 357, 3) := by decide +kernel
theorem dX12_qDrops_5 : decode cX12_qDrops 5 = .ok (.iconst 1, 1) := by decide +kernel
theorem dX12_qDrops_6 : decode cX12_qDrops 6 = .ok (.isub, 1) := by decide +kernel
theorem dX12_qDrops_7 : decode cX12_qDrops 7 = .ok (.putfield 357, 3) := by decide +kernel
theorem dX12_qDrops_10 : decode cX12_qDrops 10 = .ok (.aload_n 0, 1) := by decide +kernel
theorem dX12_qDrops_11 : decode cX12_qDrops 11 = .ok (.aload_n 0, 1) := by decide +kernel
theorem dX12_qDrops_12 : decode cX12_qDrops 12 = .ok (.getfield 246, 3) := by decide +kernel
theorem dX12_qDrops_15 : decode cX12_qDrops 15 = .ok (.aload_n 0, 1) := by decide +kernel
theorem dX12_qDrops_16 : decode cX12_qDrops 16 = .ok (.getfield 357, 3) := by decide +kernel
theorem dX12_qDrops_19 : decode cX12_qDrops 19 = .ok (.iaload, 1) := by decide +kernel
theorem dX12_qDrops_20 : decode cX12_qDrops 20 = .ok (.invokevirtual 642, 3) := by decide +kernel
theorem dX12_qDrops_23 : decode cX12_qDrops 23 = .ok (.return_, 1) := by decide +kernel
theorem dX12_qIsBracket_0 : decode cX12_qIsBracket 0 = .ok (.iload_n 0, 1) := by decide +kernel
theorem dX12_qIsBracket_1 : decode cX12_qIsBracket 1 = .ok (.bipush 20, 2) := by decide +kernel
theorem dX12_qIsBracket_3 : decode cX12_qIsBracket 3 = .ok (.if_icmp .lt 13, 3) := by decide +kernel
theorem dX12_qIsBracket_6 : decode cX12_qIsBracket 6 = .ok (.iload_n 0, 1) := by decide +kernel
theorem dX12_qIsBracket_7 : decode cX12_qIsBracket 7 = .ok (.bipush 24, 2) := by decide +kernel
theorem dX12_qIsBracket_9 : decode cX12_qIsBracket 9 = .ok (.if_icmp .gt 7, 3) := by decide +kernel
theorem dX12_qIsBracket_12 : decode cX12_qIsBracket 12 = .ok (.iconst 1, 1) := by decide +kernel
theorem dX12_qIsBracket_13 : decode cX12_qIsBracket 13 = .ok (.goto 4, 3) := by decide +kernel
theorem dX12_qIsBracket_16 : decode cX12_qIsBracket 16 = .ok (.iconst 0, 1) := by decide +kernel
theorem dX12_qIsBracket_17 : decode cX12_qIsBracket 17 = .ok (.ireturn, 1) := by decide +kernel
theorem dX12_qBracket_0 : decode cX12_qBracket 0 = .ok (.aload_n 0, 1) := by decide +kernel
theorem dX12_qBracket_1 : decode cX12_qBracket 1 = .ok (.getfield 357, 3) := by decide +kernel
theorem dX12_qBracket_4 : decode cX12_qBracket 4 = .ok (.iconst 1, 1) := by decide +kernel
theorem dX12_qBracket_5 : decode cX12_qBracket 5 = .ok (.isub, 1) := by decide +kernel
theorem dX12_qBracket_6 : decode cX12_qBracket 6 = .ok (.istore_n 1, 1) := by decide +kernel
theorem dX12_qBracket_7 : decode cX12_qBracket 7 = .ok (.iload_n 1, 1) := by decide +kernel
theorem dX12_qBracket_8 : decode cX12_qBracket 8 = .ok (.aload_n 0, 1) := by decide +kernel
theorem dX12_qBracket_9 : decode cX12_qBracket 9 = .ok (.getfield 363, 3) := by decide +kernel
theorem dX12_qBracket_12 : decode cX12_qBracket 12 = .ok (.if_icmp .lt 21, 3) := by decide +kernel
theorem dX12_qBracket_15 : decode cX12_qBracket 15 = .ok (.aload_n 0, 1) := by decide +kernel
theorem dX12_qBracket_16 : decode cX12_qBracket 16 = .ok (.getfield 246, 3) := by decide +kernel
theorem dX12_qBracket_19 : decode cX12_qBracket 19 = .ok (.iload_n 1, 1) := by decide +kernel
theorem dX12_qBracket_20 : decode cX12_qBracket 20 = .ok (.iaload, 1) := by decide +kernel
theorem dX12_qBracket_21 : decode cX12_qBracket 21 = .ok (.invokestatic 645, 3) := by decide +kernel
theorem dX12_qBracket_24 : decode cX12_qBracket 24 = .ok (.ifCond .ne 9, 3) := by decide +kernel
theorem dX12_qBracket_27 : decode cX12_qBracket 27 = .ok (.iinc 1 (-1), 3) := by decide +kernel
theorem dX12_qBracket_30 : decode cX12_qBracket 30 = .ok (.goto (-23), 3) := by decide +kernel
theorem dX12_qBracket_33 : decode cX12_qBracket 33 = .ok (.iload_n 1, 1) := by decide +kernel
theorem dX12_qBracket_34 : decode cX12_qBracket 34 = .ok (.aload_n 0, 1) := by decide +kernel
theorem dX12_qBracket_35 : decode cX12_qBracket 35 = .ok (.getfield 363, 3) := by decide +kernel
theorem dX12_qBracket_38 : decode cX12_qBracket 38 = .ok (.if_icmp .lt 12, 3) := by decide +kernel
theorem dX12_qBracket_41 : decode cX12_qBracket 41 = .ok (.aload_n 0, 1) := by decide +kernel
theorem dX12_qBracket_42 : decode cX12_qBracket 42 = .ok (.getfield 246, 3) := by decide +kernel
theorem dX12_qBracket_45 : decode cX12_qBracket 45 = .ok (.iload_n 1, 1) := by decide +kernel
theorem dX12_qBracket_46 : decode cX12_qBracket 46 = .ok (.iaload, 1) := by decide +kernel
theorem dX12_qBracket_47 : decode cX12_qBracket 47 = .ok (.goto 4, 3) := by decide +kernel
theorem dX12_qBracket_50 : decode cX12_qBracket 50 = .ok (.iconst (-1), 1) := by decide +kernel
theorem dX12_qBracket_51 : decode cX12_qBracket 51 = .ok (.ireturn, 1) := by decide +kernel
theorem dX12_qDropsToBracket_0 : decode cX12_qDropsToBracket 0 = .ok (.aload_n 0, 1) := by decide +kernel
theorem dX12_qDropsToBracket_1 : decode cX12_qDropsToBracket 1 = .ok (.getfield 357, 3) := by decide +kernel
theorem dX12_qDropsToBracket_4 : decode cX12_qDropsToBracket 4 = .ok (.aload_n 0, 1) := by decide +kernel
theorem dX12_qDropsToBracket_5 : decode cX12_qDropsToBracket 5 = .ok (.getfield 363, 3) := by decide +kernel
theorem dX12_qDropsToBracket_8 : decode cX12_qDropsToBracket 8 = .ok (.if_icmp .le 27, 3) := by decide +kernel
theorem dX12_qDropsToBracket_11 : decode cX12_qDropsToBracket 11 = .ok (.aload_n 0, 1) := by decide +kernel
theorem dX12_qDropsToBracket_12 : decode cX12_qDropsToBracket 12 = .ok (.getfield 246, 3) := by decide +kernel
theorem dX12_qDropsToBracket_15 : decode cX12_qDropsToBracket 15 = .ok (.aload_n 0, 1) := by decide +kernel
theorem dX12_qDropsToBracket_16 : decode cX12_qDropsToBracket 16 = .ok (.getfield 357, 3) := by decide +kernel
theorem dX12_qDropsToBracket_19 : decode cX12_qDropsToBracket 19 = .ok (.iconst 1, 1) := by decide +kernel
theorem dX12_qDropsToBracket_20 : decode cX12_qDropsToBracket 20 = .ok (.isub, 1) := by decide +kernel
theorem dX12_qDropsToBracket_21 : decode cX12_qDropsToBracket 21 = .ok (.iaload, 1) := by decide +kernel
theorem dX12_qDropsToBracket_22 : decode cX12_qDropsToBracket 22 = .ok (.invokestatic 645, 3) := by decide +kernel
theorem dX12_qDropsToBracket_25 : decode cX12_qDropsToBracket 25 = .ok (.ifCond .ne 10, 3) := by decide +kernel
theorem dX12_qDropsToBracket_28 : decode cX12_qDropsToBracket 28 = .ok (.aload_n 0, 1) := by decide +kernel
theorem dX12_qDropsToBracket_29 : decode cX12_qDropsToBracket 29 = .ok (.invokevirtual 648, 3) := by decide +kernel
theorem dX12_qDropsToBracket_32 : decode cX12_qDropsToBracket 32 = .ok (.goto (-32), 3) := by decide +kernel
theorem dX12_qDropsToBracket_35 : decode cX12_qDropsToBracket 35 = .ok (.return_, 1) := by decide +kernel
theorem dX12_qWordHere_0 : decode cX12_qWordHere 0 = .ok (.aload_n 0, 1) := by decide +kernel
theorem dX12_qWordHere_1 : decode cX12_qWordHere 1 = .ok (.aload_n 0, 1) := by decide +kernel
theorem dX12_qWordHere_2 : decode cX12_qWordHere 2 = .ok (.getfield 213, 3) := by decide +kernel
theorem dX12_qWordHere_5 : decode cX12_qWordHere 5 = .ok (.invokevirtual 283, 3) := by decide +kernel
theorem dX12_qWordHere_8 : decode cX12_qWordHere 8 = .ok (.ifCond .eq 5, 3) := by decide +kernel
theorem dX12_qWordHere_11 : decode cX12_qWordHere 11 = .ok (.iconst 0, 1) := by decide +kernel
theorem dX12_qWordHere_12 : decode cX12_qWordHere 12 = .ok (.ireturn, 1) := by decide +kernel
theorem dX12_qWordHere_13 : decode cX12_qWordHere 13 = .ok (.aload_n 0, 1) := by decide +kernel
theorem dX12_qWordHere_14 : decode cX12_qWordHere 14 = .ok (.aload_n 0, 1) := by decide +kernel
theorem dX12_qWordHere_15 : decode cX12_qWordHere 15 = .ok (.getfield 216, 3) := by decide +kernel
theorem dX12_qWordHere_18 : decode cX12_qWordHere 18 = .ok (.invokevirtual 283, 3) := by decide +kernel
theorem dX12_qWordHere_21 : decode cX12_qWordHere 21 = .ok (.ifCond .eq 5, 3) := by decide +kernel
theorem dX12_qWordHere_24 : decode cX12_qWordHere 24 = .ok (.iconst 1, 1) := by decide +kernel
theorem dX12_qWordHere_25 : decode cX12_qWordHere 25 = .ok (.ireturn, 1) := by decide +kernel
theorem dX12_qWordHere_26 : decode cX12_qWordHere 26 = .ok (.aload_n 0, 1) := by decide +kernel
theorem dX12_qWordHere_27 : decode cX12_qWordHere 27 = .ok (.aload_n 0, 1) := by decide +kernel
theorem dX12_qWordHere_28 : decode cX12_qWordHere 28 = .ok (.getfield 219, 3) := by decide +kernel
theorem dX12_qWordHere_31 : decode cX12_qWordHere 31 = .ok (.invokevirtual 283, 3) := by decide +kernel
theorem dX12_qWordHere_34 : decode cX12_qWordHere 34 = .ok (.ifCond .eq 5, 3) := by decide +kernel
theorem dX12_qWordHere_37 : decode cX12_qWordHere 37 = .ok (.iconst 2, 1) := by decide +kernel
theorem dX12_qWordHere_38 : decode cX12_qWordHere 38 = .ok (.ireturn, 1) := by decide +kernel
theorem dX12_qWordHere_39 : decode cX12_qWordHere 39 = .ok (.aload_n 0, 1) := by decide +kernel
theorem dX12_qWordHere_40 : decode cX12_qWordHere 40 = .ok (.aload_n 0, 1) := by decide +kernel
theorem dX12_qWordHere_41 : decode cX12_qWordHere 41 = .ok (.getfield 222, 3) := by decide +kernel
theorem dX12_qWordHere_44 : decode cX12_qWordHere 44 = .ok (.invokevirtual 283, 3) := by decide +kernel
theorem dX12_qWordHere_47 : decode cX12_qWordHere 47 = .ok (.ifCond .eq 5, 3) := by decide +kernel
theorem dX12_qWordHere_50 : decode cX12_qWordHere 50 = .ok (.iconst 3, 1) := by decide +kernel
theorem dX12_qWordHere_51 : decode cX12_qWordHere 51 = .ok (.ireturn, 1) := by decide +kernel
theorem dX12_qWordHere_52 : decode cX12_qWordHere 52 = .ok (.aload_n 0, 1) := by decide +kernel
theorem dX12_qWordHere_53 : decode cX12_qWordHere 53 = .ok (.getfield 318, 3) := by decide +kernel
theorem dX12_qWordHere_56 : decode cX12_qWordHere 56 = .ok (.iconst 3, 1) := by decide +kernel
theorem dX12_qWordHere_57 : decode cX12_qWordHere 57 = .ok (.if_icmp .ge 16, 3) := by decide +kernel
theorem dX12_qWordHere_60 : decode cX12_qWordHere 60 = .ok (.aload_n 0, 1) := by decide +kernel
theorem dX12_qWordHere_61 : decode cX12_qWordHere 61 = .ok (.aload_n 0, 1) := by decide +kernel
theorem dX12_qWordHere_62 : decode cX12_qWordHere 62 = .ok (.getfield 225, 3) := by decide +kernel
theorem dX12_qWordHere_65 : decode cX12_qWordHere 65 = .ok (.invokevirtual 283, 3) := by decide +kernel
theorem dX12_qWordHere_68 : decode cX12_qWordHere 68 = .ok (.ifCond .eq 5, 3) := by decide +kernel
theorem dX12_qWordHere_71 : decode cX12_qWordHere 71 = .ok (.iconst 4, 1) := by decide +kernel
theorem dX12_qWordHere_72 : decode cX12_qWordHere 72 = .ok (.ireturn, 1) := by decide +kernel
theorem dX12_qWordHere_73 : decode cX12_qWordHere 73 = .ok (.aload_n 0, 1) := by decide +kernel
theorem dX12_qWordHere_74 : decode cX12_qWordHere 74 = .ok (.aload_n 0, 1) := by decide +kernel
theorem dX12_qWordHere_75 : decode cX12_qWordHere 75 = .ok (.getfield 228, 3) := by decide +kernel
theorem dX12_qWordHere_78 : decode cX12_qWordHere 78 = .ok (.invokevirtual 283, 3) := by decide +kernel
theorem dX12_qWordHere_81 : decode cX12_qWordHere 81 = .ok (.ifCond .eq 5, 3) := by decide +kernel
theorem dX12_qWordHere_84 : decode cX12_qWordHere 84 = .ok (.iconst 5, 1) := by decide +kernel
theorem dX12_qWordHere_85 : decode cX12_qWordHere 85 = .ok (.ireturn, 1) := by decide +kernel
theorem dX12_qWordHere_86 : decode cX12_qWordHere 86 = .ok (.aload_n 0, 1) := by decide +kernel
theorem dX12_qWordHere_87 : decode cX12_qWordHere 87 = .ok (.aload_n 0, 1) := by decide +kernel
theorem dX12_qWordHere_88 : decode cX12_qWordHere 88 = .ok (.getfield 231, 3) := by decide +kernel
theorem dX12_qWordHere_91 : decode cX12_qWordHere 91 = .ok (.invokevirtual 283, 3) := by decide +kernel
theorem dX12_qWordHere_94 : decode cX12_qWordHere 94 = .ok (.ifCond .eq 6, 3) := by decide +kernel
theorem dX12_qWordHere_97 : decode cX12_qWordHere 97 = .ok (.bipush 6, 2) := by decide +kernel
theorem dX12_qWordHere_99 : decode cX12_qWordHere 99 = .ok (.ireturn, 1) := by decide +kernel
theorem dX12_qWordHere_100 : decode cX12_qWordHere 100 = .ok (.aload_n 0, 1) := by decide +kernel
theorem dX12_qWordHere_101 : decode cX12_qWordHere 101 = .ok (.aload_n 0, 1) := by decide +kernel
theorem dX12_qWordHere_102 : decode cX12_qWordHere 102 = .ok (.getfield 234, 3) := by decide +kernel
theorem dX12_qWordHere_105 : decode cX12_qWordHere 105 = .ok (.invokevirtual 283, 3) := by decide +kernel
theorem dX12_qWordHere_108 : decode cX12_qWordHere 108 = .ok (.ifCond .eq 6, 3) := by decide +kernel
theorem dX12_qWordHere_111 : decode cX12_qWordHere 111 = .ok (.bipush 7, 2) := by decide +kernel
theorem dX12_qWordHere_113 : decode cX12_qWordHere 113 = .ok (.ireturn, 1) := by decide +kernel
theorem dX12_qWordHere_114 : decode cX12_qWordHere 114 = .ok (.aload_n 0, 1) := by decide +kernel
theorem dX12_qWordHere_115 : decode cX12_qWordHere 115 = .ok (.aload_n 0, 1) := by decide +kernel
theorem dX12_qWordHere_116 : decode cX12_qWordHere 116 = .ok (.getfield 237, 3) := by decide +kernel
theorem dX12_qWordHere_119 : decode cX12_qWordHere 119 = .ok (.invokevirtual 283, 3) := by decide +kernel
theorem dX12_qWordHere_122 : decode cX12_qWordHere 122 = .ok (.ifCond .eq 6, 3) := by decide +kernel
theorem dX12_qWordHere_125 : decode cX12_qWordHere 125 = .ok (.bipush 8, 2) := by decide +kernel
theorem dX12_qWordHere_127 : decode cX12_qWordHere 127 = .ok (.ireturn, 1) := by decide +kernel
theorem dX12_qWordHere_128 : decode cX12_qWordHere 128 = .ok (.aload_n 0, 1) := by decide +kernel
theorem dX12_qWordHere_129 : decode cX12_qWordHere 129 = .ok (.aload_n 0, 1) := by decide +kernel
theorem dX12_qWordHere_130 : decode cX12_qWordHere 130 = .ok (.getfield 240, 3) := by decide +kernel
theorem dX12_qWordHere_133 : decode cX12_qWordHere 133 = .ok (.invokevirtual 283, 3) := by decide +kernel
theorem dX12_qWordHere_136 : decode cX12_qWordHere 136 = .ok (.ifCond .eq 6, 3) := by decide +kernel
theorem dX12_qWordHere_139 : decode cX12_qWordHere 139 = .ok (.bipush 9, 2) := by decide +kernel
theorem dX12_qWordHere_141 : decode cX12_qWordHere 141 = .ok (.ireturn, 1) := by decide +kernel
theorem dX12_qWordHere_142 : decode cX12_qWordHere 142 = .ok (.iconst (-1), 1) := by decide +kernel
theorem dX12_qWordHere_143 : decode cX12_qWordHere 143 = .ok (.ireturn, 1) := by decide +kernel
theorem dX12_qWordOf_0 : decode cX12_qWordOf 0 = .ok (.aload_n 0, 1) := by decide +kernel
theorem dX12_qWordOf_1 : decode cX12_qWordOf 1 = .ok (.invokevirtual 651, 3) := by decide +kernel
theorem dX12_qWordOf_4 : decode cX12_qWordOf 4 = .ok (.istore_n 3, 1) := by decide +kernel
theorem dX12_qWordOf_5 : decode cX12_qWordOf 5 = .ok (.iload_n 3, 1) := by decide +kernel
theorem dX12_qWordOf_6 : decode cX12_qWordOf 6 = .ok (.iload_n 1, 1) := by decide +kernel
theorem dX12_qWordOf_7 : decode cX12_qWordOf 7 = .ok (.if_icmp .lt 20, 3) := by decide +kernel
theorem dX12_qWordOf_10 : decode cX12_qWordOf 10 = .ok (.iload_n 3, 1) := by decide +kernel
theorem dX12_qWordOf_11 : decode cX12_qWordOf 11 = .ok (.iload_n 2, 1) := by decide +kernel
theorem dX12_qWordOf_12 : decode cX12_qWordOf 12 = .ok (.if_icmp .ge 15, 3) := by decide +kernel
theorem dX12_qWordOf_15 : decode cX12_qWordOf 15 = .ok (.aload_n 0, 1) := by decide +kernel
theorem dX12_qWordOf_16 : decode cX12_qWordOf 16 = .ok (.iload_n 3, 1) := by decide +kernel
theorem dX12_qWordOf_17 : decode cX12_qWordOf 17 = .ok (.invokevirtual 654, 3) := by decide +kernel
theorem dX12_qWordOf_20 : decode cX12_qWordOf 20 = .ok (.ifCond .eq 7, 3) := by decide +kernel
theorem dX12_qWordOf_23 : decode cX12_qWordOf 23 = .ok (.iload_n 3, 1) := by decide +kernel
theorem dX12_qWordOf_24 : decode cX12_qWordOf 24 = .ok (.goto 4, 3) := by decide +kernel
theorem dX12_qWordOf_27 : decode cX12_qWordOf 27 = .ok (.iconst (-1), 1) := by decide +kernel
theorem dX12_qWordOf_28 : decode cX12_qWordOf 28 = .ok (.ireturn, 1) := by decide +kernel
theorem dX12_qAsksWord_0 : decode cX12_qAsksWord 0 = .ok (.iload_n 1, 1) := by decide +kernel
theorem dX12_qAsksWord_1 : decode cX12_qAsksWord 1 = .ok (.tableswitch 150 0 8 #[51, 62, 73, 84, 95, 106, 117, 128, 139], 51) := by decide +kernel
theorem dX12_qAsksWord_52 : decode cX12_qAsksWord 52 = .ok (.aload_n 0, 1) := by decide +kernel
theorem dX12_qAsksWord_53 : decode cX12_qAsksWord 53 = .ok (.aload_n 0, 1) := by decide +kernel
theorem dX12_qAsksWord_54 : decode cX12_qAsksWord 54 = .ok (.getfield 213, 3) := by decide +kernel
theorem dX12_qAsksWord_57 : decode cX12_qAsksWord 57 = .ok (.invokevirtual 325, 3) := by decide +kernel
theorem dX12_qAsksWord_60 : decode cX12_qAsksWord 60 = .ok (.goto 99, 3) := by decide +kernel
theorem dX12_qAsksWord_63 : decode cX12_qAsksWord 63 = .ok (.aload_n 0, 1) := by decide +kernel
theorem dX12_qAsksWord_64 : decode cX12_qAsksWord 64 = .ok (.aload_n 0, 1) := by decide +kernel
theorem dX12_qAsksWord_65 : decode cX12_qAsksWord 65 = .ok (.getfield 216, 3) := by decide +kernel
theorem dX12_qAsksWord_68 : decode cX12_qAsksWord 68 = .ok (.invokevirtual 325, 3) := by decide +kernel
theorem dX12_qAsksWord_71 : decode cX12_qAsksWord 71 = .ok (.goto 88, 3) := by decide +kernel
theorem dX12_qAsksWord_74 : decode cX12_qAsksWord 74 = .ok (.aload_n 0, 1) := by decide +kernel
theorem dX12_qAsksWord_75 : decode cX12_qAsksWord 75 = .ok (.aload_n 0, 1) := by decide +kernel
theorem dX12_qAsksWord_76 : decode cX12_qAsksWord 76 = .ok (.getfield 219, 3) := by decide +kernel
theorem dX12_qAsksWord_79 : decode cX12_qAsksWord 79 = .ok (.invokevirtual 325, 3) := by decide +kernel
theorem dX12_qAsksWord_82 : decode cX12_qAsksWord 82 = .ok (.goto 77, 3) := by decide +kernel
theorem dX12_qAsksWord_85 : decode cX12_qAsksWord 85 = .ok (.aload_n 0, 1) := by decide +kernel
theorem dX12_qAsksWord_86 : decode cX12_qAsksWord 86 = .ok (.aload_n 0, 1) := by decide +kernel
theorem dX12_qAsksWord_87 : decode cX12_qAsksWord 87 = .ok (.getfield 222, 3) := by decide +kernel
theorem dX12_qAsksWord_90 : decode cX12_qAsksWord 90 = .ok (.invokevirtual 325, 3) := by decide +kernel
theorem dX12_qAsksWord_93 : decode cX12_qAsksWord 93 = .ok (.goto 66, 3) := by decide +kernel
theorem dX12_qAsksWord_96 : decode cX12_qAsksWord 96 = .ok (.aload_n 0, 1) := by decide +kernel
theorem dX12_qAsksWord_97 : decode cX12_qAsksWord 97 = .ok (.aload_n 0, 1) := by decide +kernel
theorem dX12_qAsksWord_98 : decode cX12_qAsksWord 98 = .ok (.getfield 225, 3) := by decide +kernel
theorem dX12_qAsksWord_101 : decode cX12_qAsksWord 101 = .ok (.invokevirtual 325, 3) := by decide +kernel
theorem dX12_qAsksWord_104 : decode cX12_qAsksWord 104 = .ok (.goto 55, 3) := by decide +kernel
theorem dX12_qAsksWord_107 : decode cX12_qAsksWord 107 = .ok (.aload_n 0, 1) := by decide +kernel
theorem dX12_qAsksWord_108 : decode cX12_qAsksWord 108 = .ok (.aload_n 0, 1) := by decide +kernel
theorem dX12_qAsksWord_109 : decode cX12_qAsksWord 109 = .ok (.getfield 228, 3) := by decide +kernel
theorem dX12_qAsksWord_112 : decode cX12_qAsksWord 112 = .ok (.invokevirtual 325, 3) := by decide +kernel
theorem dX12_qAsksWord_115 : decode cX12_qAsksWord 115 = .ok (.goto 44, 3) := by decide +kernel
theorem dX12_qAsksWord_118 : decode cX12_qAsksWord 118 = .ok (.aload_n 0, 1) := by decide +kernel
theorem dX12_qAsksWord_119 : decode cX12_qAsksWord 119 = .ok (.aload_n 0, 1) := by decide +kernel
theorem dX12_qAsksWord_120 : decode cX12_qAsksWord 120 = .ok (.getfield 231, 3) := by decide +kernel
theorem dX12_qAsksWord_123 : decode cX12_qAsksWord 123 = .ok (.invokevirtual 325, 3) := by decide +kernel
theorem dX12_qAsksWord_126 : decode cX12_qAsksWord 126 = .ok (.goto 33, 3) := by decide +kernel
theorem dX12_qAsksWord_129 : decode cX12_qAsksWord 129 = .ok (.aload_n 0, 1) := by decide +kernel
theorem dX12_qAsksWord_130 : decode cX12_qAsksWord 130 = .ok (.aload_n 0, 1) := by decide +kernel
theorem dX12_qAsksWord_131 : decode cX12_qAsksWord 131 = .ok (.getfield 234, 3) := by decide +kernel
theorem dX12_qAsksWord_134 : decode cX12_qAsksWord 134 = .ok (.invokevirtual 325, 3) := by decide +kernel
theorem dX12_qAsksWord_137 : decode cX12_qAsksWord 137 = .ok (.goto 22, 3) := by decide +kernel
theorem dX12_qAsksWord_140 : decode cX12_qAsksWord 140 = .ok (.aload_n 0, 1) := by decide +kernel
theorem dX12_qAsksWord_141 : decode cX12_qAsksWord 141 = .ok (.aload_n 0, 1) := by decide +kernel
theorem dX12_qAsksWord_142 : decode cX12_qAsksWord 142 = .ok (.getfield 237, 3) := by decide +kernel
theorem dX12_qAsksWord_145 : decode cX12_qAsksWord 145 = .ok (.invokevirtual 325, 3) := by decide +kernel
theorem dX12_qAsksWord_148 : decode cX12_qAsksWord 148 = .ok (.goto 11, 3) := by decide +kernel
theorem dX12_qAsksWord_151 : decode cX12_qAsksWord 151 = .ok (.aload_n 0, 1) := by decide +kernel
theorem dX12_qAsksWord_152 : decode cX12_qAsksWord 152 = .ok (.aload_n 0, 1) := by decide +kernel
theorem dX12_qAsksWord_153 : decode cX12_qAsksWord 153 = .ok (.getfield 240, 3) := by decide +kernel
theorem dX12_qAsksWord_156 : decode cX12_qAsksWord 156 = .ok (.invokevirtual 325, 3) := by decide +kernel
theorem dX12_qAsksWord_159 : decode cX12_qAsksWord 159 = .ok (.return_, 1) := by decide +kernel
theorem dX12_qEndsPart_0 : decode cX12_qEndsPart 0 = .ok (.aload_n 0, 1) := by decide +kernel
theorem dX12_qEndsPart_1 : decode cX12_qEndsPart 1 = .ok (.getfield 260, 3) := by decide +kernel
theorem dX12_qEndsPart_4 : decode cX12_qEndsPart 4 = .ok (.ifCond .ne 47, 3) := by decide +kernel
theorem dX12_qEndsPart_7 : decode cX12_qEndsPart 7 = .ok (.aload_n 0, 1) := by decide +kernel
theorem dX12_qEndsPart_8 : decode cX12_qEndsPart 8 = .ok (.getfield 357, 3) := by decide +kernel
theorem dX12_qEndsPart_11 : decode cX12_qEndsPart 11 = .ok (.aload_n 0, 1) := by decide +kernel
theorem dX12_qEndsPart_12 : decode cX12_qEndsPart 12 = .ok (.getfield 363, 3) := by decide +kernel
theorem dX12_qEndsPart_15 : decode cX12_qEndsPart 15 = .ok (.if_icmp .le 36, 3) := by decide +kernel
theorem dX12_qEndsPart_18 : decode cX12_qEndsPart 18 = .ok (.aload_n 0, 1) := by decide +kernel
theorem dX12_qEndsPart_19 : decode cX12_qEndsPart 19 = .ok (.getfield 246, 3) := by decide +kernel
theorem dX12_qEndsPart_22 : decode cX12_qEndsPart 22 = .ok (.aload_n 0, 1) := by decide +kernel
theorem dX12_qEndsPart_23 : decode cX12_qEndsPart 23 = .ok (.getfield 357, 3) := by decide +kernel
theorem dX12_qEndsPart_26 : decode cX12_qEndsPart 26 = .ok (.iconst 1, 1) := by decide +kernel
theorem dX12_qEndsPart_27 : decode cX12_qEndsPart 27 = .ok (.isub, 1) := by decide +kernel
theorem dX12_qEndsPart_28 : decode cX12_qEndsPart 28 = .ok (.iaload, 1) := by decide +kernel
theorem dX12_qEndsPart_29 : decode cX12_qEndsPart 29 = .ok (.bipush 60, 2) := by decide +kernel
theorem dX12_qEndsPart_31 : decode cX12_qEndsPart 31 = .ok (.if_icmp .lt 20, 3) := by decide +kernel
theorem dX12_qEndsPart_34 : decode cX12_qEndsPart 34 = .ok (.aload_n 0, 1) := by decide +kernel
theorem dX12_qEndsPart_35 : decode cX12_qEndsPart 35 = .ok (.dup, 1) := by decide +kernel
theorem dX12_qEndsPart_36 : decode cX12_qEndsPart 36 = .ok (.getfield 360, 3) := by decide +kernel
theorem dX12_qEndsPart_39 : decode cX12_qEndsPart 39 = .ok (.iconst 1, 1) := by decide +kernel
theorem dX12_qEndsPart_40 : decode cX12_qEndsPart 40 = .ok (.isub, 1) := by decide +kernel
theorem dX12_qEndsPart_41 : decode cX12_qEndsPart 41 = .ok (.putfield 360, 3) := by decide +kernel
theorem dX12_qEndsPart_44 : decode cX12_qEndsPart 44 = .ok (.aload_n 0, 1) := by decide +kernel
theorem dX12_qEndsPart_45 : decode cX12_qEndsPart 45 = .ok (.invokevirtual 648, 3) := by decide +kernel
theorem dX12_qEndsPart_48 : decode cX12_qEndsPart 48 = .ok (.goto (-48), 3) := by decide +kernel
theorem dX12_qEndsPart_51 : decode cX12_qEndsPart 51 = .ok (.return_, 1) := by decide +kernel
theorem dX12_qPartTold_0 : decode cX12_qPartTold 0 = .ok (.iconst 1, 1) := by decide +kernel
theorem dX12_qPartTold_1 : decode cX12_qPartTold 1 = .ok (.istore_n 1, 1) := by decide +kernel
theorem dX12_qPartTold_2 : decode cX12_qPartTold 2 = .ok (.iload_n 1, 1) := by decide +kernel
theorem dX12_qPartTold_3 : decode cX12_qPartTold 3 = .ok (.ifCond .eq 183, 3) := by decide +kernel
theorem dX12_qPartTold_6 : decode cX12_qPartTold 6 = .ok (.aload_n 0, 1) := by decide +kernel
theorem dX12_qPartTold_7 : decode cX12_qPartTold 7 = .ok (.getfield 260, 3) := by decide +kernel
theorem dX12_qPartTold_10 : decode cX12_qPartTold 10 = .ok (.ifCond .ne 176, 3) := by decide +kernel
theorem dX12_qPartTold_13 : decode cX12_qPartTold 13 = .ok (.aload_n 0, 1) := by decide +kernel
theorem dX12_qPartTold_14 : decode cX12_qPartTold 14 = .ok (.invokevirtual 272, 3) := by decide +kernel
theorem dX12_qPartTold_17 : decode cX12_qPartTold 17 = .ok (.istore_n 2, 1) := by decide +kernel
theorem dX12_qPartTold_18 : decode cX12_qPartTold 18 = .ok (.aload_n 0, 1) := by decide +kernel
theorem dX12_qPartTold_19 : decode cX12_qPartTold 19 = .ok (.bipush 8, 2) := by decide +kernel
theorem dX12_qPartTold_21 : decode cX12_qPartTold 21 = .ok (.bipush 10, 2) := by decide +kernel
theorem dX12_qPartTold_23 : decode cX12_qPartTold 23 = .ok (.invokevirtual 657, 3) := by decide +kernel
theorem dX12_qPartTold_26 : decode cX12_qPartTold 26 = .ok (.istore_n 3, 1) := by decide +kernel
theorem dX12_qPartTold_27 : decode cX12_qPartTold 27 = .ok (.iload_n 2, 1) := by decide +kernel
theorem dX12_qPartTold_28 : decode cX12_qPartTold 28 = .ok (.bipush 40, 2) := by decide +kernel
theorem dX12_qPartTold_30 : decode cX12_qPartTold 30 = .ok (.if_icmp .ne 26, 3) := by decide +kernel
theorem dX12_qPartTold_33 : decode cX12_qPartTold 33 = .ok (.aload_n 0, 1) := by decide +kernel
theorem dX12_qPartTold_34 : decode cX12_qPartTold 34 = .ok (.bipush 20, 2) := by decide +kernel
theorem dX12_qPartTold_36 : decode cX12_qPartTold 36 = .ok (.aload_n 0, 1) := by decide +kernel
theorem dX12_qPartTold_37 : decode cX12_qPartTold 37 = .ok (.getfield 266, 3) := by decide +kernel
theorem dX12_qPartTold_40 : decode cX12_qPartTold 40 = .ok (.invokevirtual 660, 3) := by decide +kernel
theorem dX12_qPartTold_43 : decode cX12_qPartTold 43 = .ok (.aload_n 0, 1) := by decide +kernel
theorem dX12_qPartTold_44 : decode cX12_qPartTold 44 = .ok (.dup, 1) := by decide +kernel
theorem dX12_qPartTold_45 : decode cX12_qPartTold 45 = .ok (.getfield 266, 3) := by decide +kernel
theorem dX12_qPartTold_48 : decode cX12_qPartTold 48 = .ok (.iconst 1, 1) := by decide +kernel
theorem dX12_qPartTold_49 : decode cX12_qPartTold 49 = .ok (.iadd, 1) := by decide +kernel
theorem dX12_qPartTold_50 : decode cX12_qPartTold 50 = .ok (.putfield 266, 3) := by decide +kernel
theorem dX12_qPartTold_53 : decode cX12_qPartTold 53 = .ok (.goto 130, 3) := by decide +kernel
theorem dX12_qPartTold_56 : decode cX12_qPartTold 56 = .ok (.aload_n 0, 1) := by decide +kernel
theorem dX12_qPartTold_57 : decode cX12_qPartTold 57 = .ok (.aload_n 0, 1) := by decide +kernel
theorem dX12_qPartTold_58 : decode cX12_qPartTold 58 = .ok (.getfield 207, 3) := by decide +kernel
theorem dX12_qPartTold_61 : decode cX12_qPartTold 61 = .ok (.invokevirtual 283, 3) := by decide +kernel
theorem dX12_qPartTold_64 : decode cX12_qPartTold 64 = .ok (.ifCond .ne 14, 3) := by decide +kernel
theorem dX12_qPartTold_67 : decode cX12_qPartTold 67 = .ok (.aload_n 0, 1) := by decide +kernel
theorem dX12_qPartTold_68 : decode cX12_qPartTold 68 = .ok (.aload_n 0, 1) := by decide +kernel
theorem dX12_qPartTold_69 : decode cX12_qPartTold 69 = .ok (.getfield 210, 3) := by decide +kernel
theorem dX12_qPartTold_72 : decode cX12_qPartTold 72 = .ok (.invokevirtual 283, 3) := by decide +kernel
theorem dX12_qPartTold_75 : decode cX12_qPartTold 75 = .ok (.ifCond .eq 78, 3) := by decide +kernel
theorem dX12_qPartTold_78 : decode cX12_qPartTold 78 = .ok (.aload_n 0, 1) := by decide +kernel
theorem dX12_qPartTold_79 : decode cX12_qPartTold 79 = .ok (.aload_n 0, 1) := by decide +kernel
theorem dX12_qPartTold_80 : decode cX12_qPartTold 80 = .ok (.getfield 207, 3) := by decide +kernel
theorem dX12_qPartTold_83 : decode cX12_qPartTold 83 = .ok (.invokevirtual 287, 3) := by decide +kernel
theorem dX12_qPartTold_86 : decode cX12_qPartTold 86 = .ok (.istore 4, 2) := by decide +kernel
theorem dX12_qPartTold_88 : decode cX12_qPartTold 88 = .ok (.iload 4, 2) := by decide +kernel
theorem dX12_qPartTold_90 : decode cX12_qPartTold 90 = .ok (.ifCond .ne 11, 3) := by decide +kernel
theorem dX12_qPartTold_93 : decode cX12_qPartTold 93 = .ok (.aload_n 0, 1) := by decide +kernel
theorem dX12_qPartTold_94 : decode cX12_qPartTold 94 = .ok (.aload_n 0, 1) := by decide +kernel
theorem dX12_qPartTold_95 : decode cX12_qPartTold 95 = .ok (.getfield 210, 3) := by decide +kernel
theorem dX12_qPartTold_98 : decode cX12_qPartTold 98 = .ok (.invokevirtual 325, 3) := by decide +kernel
theorem dX12_qPartTold_101 : decode cX12_qPartTold 101 = .ok (.aload_n 0, 1) := by decide +kernel
theorem dX12_qPartTold_102 : decode cX12_qPartTold 102 = .ok (.invokevirtual 272, 3) := by decide +kernel
theorem dX12_qPartTold_105 : decode cX12_qPartTold 105 = .ok (.bipush 40, 2) := by decide +kernel
theorem dX12_qPartTold_107 : decode cX12_qPartTold 107 = .ok (.if_icmp .ne 10, 3) := by decide +kernel
theorem dX12_qPartTold_110 : decode cX12_qPartTold 110 = .ok (.aload_n 0, 1) := by decide +kernel
theorem dX12_qPartTold_111 : decode cX12_qPartTold 111 = .ok (.getfield 266, 3) := by decide +kernel
theorem dX12_qPartTold_114 : decode cX12_qPartTold 114 = .ok (.goto 4, 3) := by decide +kernel
theorem dX12_qPartTold_117 : decode cX12_qPartTold 117 = .ok (.iconst (-1), 1) := by decide +kernel
theorem dX12_qPartTold_118 : decode cX12_qPartTold 118 = .ok (.istore 5, 2) := by decide +kernel
theorem dX12_qPartTold_120 : decode cX12_qPartTold 120 = .ok (.iload 5, 2) := by decide +kernel
theorem dX12_qPartTold_122 : decode cX12_qPartTold 122 = .ok (.iconst (-1), 1) := by decide +kernel
theorem dX12_qPartTold_123 : decode cX12_qPartTold 123 = .ok (.if_icmp .eq 21, 3) := by decide +kernel
theorem dX12_qPartTold_126 : decode cX12_qPartTold 126 = .ok (.aload_n 0, 1) := by decide +kernel
theorem dX12_qPartTold_127 : decode cX12_qPartTold 127 = .ok (.iload 4, 2) := by decide +kernel
theorem dX12_qPartTold_129 : decode cX12_qPartTold 129 = .ok (.ifCond .eq 8, 3) := by decide +kernel
theorem dX12_qPartTold_132 : decode cX12_qPartTold 132 = .ok (.bipush 21, 2) := by decide +kernel
theorem dX12_qPartTold_134 : decode cX12_qPartTold 134 = .ok (.goto 5, 3) := by decide +kernel
theorem dX12_qPartTold_137 : decode cX12_qPartTold 137 = .ok (.bipush 22, 2) := by decide +kernel
theorem dX12_qPartTold_139 : decode cX12_qPartTold 139 = .ok (.iload 5, 2) := by decide +kernel
theorem dX12_qPartTold_141 : decode cX12_qPartTold 141 = .ok (.invokevirtual 660, 3) := by decide +kernel
theorem dX12_qPartTold_144 : decode cX12_qPartTold 144 = .ok (.aload_n 0, 1) := by decide +kernel
theorem dX12_qPartTold_145 : decode cX12_qPartTold 145 = .ok (.bipush 40, 2) := by decide +kernel
theorem dX12_qPartTold_147 : decode cX12_qPartTold 147 = .ok (.invokevirtual 333, 3) := by decide +kernel
theorem dX12_qPartTold_150 : decode cX12_qPartTold 150 = .ok (.goto 33, 3) := by decide +kernel
theorem dX12_qPartTold_153 : decode cX12_qPartTold 153 = .ok (.iload_n 3, 1) := by decide +kernel
theorem dX12_qPartTold_154 : decode cX12_qPartTold 154 = .ok (.iconst (-1), 1) := by decide +kernel
theorem dX12_qPartTold_155 : decode cX12_qPartTold 155 = .ok (.if_icmp .eq 26, 3) := by decide +kernel
theorem dX12_qPartTold_158 : decode cX12_qPartTold 158 = .ok (.aload_n 0, 1) := by decide +kernel
theorem dX12_qPartTold_159 : decode cX12_qPartTold 159 = .ok (.bipush 60, 2) := by decide +kernel
theorem dX12_qPartTold_161 : decode cX12_qPartTold 161 = .ok (.iload_n 3, 1) := by decide +kernel
theorem dX12_qPartTold_162 : decode cX12_qPartTold 162 = .ok (.iadd, 1) := by decide +kernel
theorem dX12_qPartTold_163 : decode cX12_qPartTold 163 = .ok (.bipush 8, 2) := by decide +kernel
theorem dX12_qPartTold_165 : decode cX12_qPartTold 165 = .ok (.isub, 1) := by decide +kernel
theorem dX12_qPartTold_166 : decode cX12_qPartTold 166 = .ok (.aload_n 0, 1) := by decide +kernel
theorem dX12_qPartTold_167 : decode cX12_qPartTold 167 = .ok (.getfield 266, 3) := by decide +kernel
theorem dX12_qPartTold_170 : decode cX12_qPartTold 170 = .ok (.invokevirtual 660, 3) := by decide +kernel
theorem dX12_qPartTold_173 : decode cX12_qPartTold 173 = .ok (.aload_n 0, 1) := by decide +kernel
theorem dX12_qPartTold_174 : decode cX12_qPartTold 174 = .ok (.iload_n 3, 1) := by decide +kernel
theorem dX12_qPartTold_175 : decode cX12_qPartTold 175 = .ok (.invokevirtual 663, 3) := by decide +kernel
theorem dX12_qPartTold_178 : decode cX12_qPartTold 178 = .ok (.goto 5, 3) := by decide +kernel
theorem dX12_qPartTold_181 : decode cX12_qPartTold 181 = .ok (.iconst 0, 1) := by decide +kernel
theorem dX12_qPartTold_182 : decode cX12_qPartTold 182 = .ok (.istore_n 1, 1) := by decide +kernel
theorem dX12_qPartTold_183 : decode cX12_qPartTold 183 = .ok (.goto (-181), 3) := by decide +kernel
theorem dX12_qPartTold_186 : decode cX12_qPartTold 186 = .ok (.aload_n 0, 1) := by decide +kernel
theorem dX12_qPartTold_187 : decode cX12_qPartTold 187 = .ok (.getfield 260, 3) := by decide +kernel
theorem dX12_qPartTold_190 : decode cX12_qPartTold 190 = .ok (.ifCond .eq 4, 3) := by decide +kernel
theorem dX12_qPartTold_193 : decode cX12_qPartTold 193 = .ok (.return_, 1) := by decide +kernel
theorem dX12_qPartTold_194 : decode cX12_qPartTold 194 = .ok (.aload_n 0, 1) := by decide +kernel
theorem dX12_qPartTold_195 : decode cX12_qPartTold 195 = .ok (.iconst 0, 1) := by decide +kernel
theorem dX12_qPartTold_196 : decode cX12_qPartTold 196 = .ok (.bipush 8, 2) := by decide +kernel
theorem dX12_qPartTold_198 : decode cX12_qPartTold 198 = .ok (.invokevirtual 657, 3) := by decide +kernel
theorem dX12_qPartTold_201 : decode cX12_qPartTold 201 = .ok (.istore_n 2, 1) := by decide +kernel
theorem dX12_qPartTold_202 : decode cX12_qPartTold 202 = .ok (.iload_n 2, 1) := by decide +kernel
theorem dX12_qPartTold_203 : decode cX12_qPartTold 203 = .ok (.iconst (-1), 1) := by decide +kernel
theorem dX12_qPartTold_204 : decode cX12_qPartTold 204 = .ok (.if_icmp .eq 8, 3) := by decide +kernel
theorem dX12_qPartTold_207 : decode cX12_qPartTold 207 = .ok (.aload_n 0, 1) := by decide +kernel
theorem dX12_qPartTold_208 : decode cX12_qPartTold 208 = .ok (.iload_n 2, 1) := by decide +kernel
theorem dX12_qPartTold_209 : decode cX12_qPartTold 209 = .ok (.invokevirtual 663, 3) := by decide +kernel
theorem dX12_qPartTold_212 : decode cX12_qPartTold 212 = .ok (.aload_n 0, 1) := by decide +kernel
theorem dX12_qPartTold_213 : decode cX12_qPartTold 213 = .ok (.iload_n 2, 1) := by decide +kernel
theorem dX12_qPartTold_214 : decode cX12_qPartTold 214 = .ok (.iconst (-1), 1) := by decide +kernel
theorem dX12_qPartTold_215 : decode cX12_qPartTold 215 = .ok (.if_icmp .eq 10, 3) := by decide +kernel
theorem dX12_qPartTold_218 : decode cX12_qPartTold 218 = .ok (.bipush 40, 2) := by decide +kernel
theorem dX12_qPartTold_220 : decode cX12_qPartTold 220 = .ok (.iload_n 2, 1) := by decide +kernel
theorem dX12_qPartTold_221 : decode cX12_qPartTold 221 = .ok (.iadd, 1) := by decide +kernel
theorem dX12_qPartTold_222 : decode cX12_qPartTold 222 = .ok (.goto 15, 3) := by decide +kernel
theorem dX12_qPartTold_225 : decode cX12_qPartTold 225 = .ok (.sipush 1000, 3) := by decide +kernel
theorem dX12_qPartTold_228 : decode cX12_qPartTold 228 = .ok (.aload_n 0, 1) := by decide +kernel
theorem dX12_qPartTold_229 : decode cX12_qPartTold 229 = .ok (.iconst 0, 1) := by decide +kernel
theorem dX12_qPartTold_230 : decode cX12_qPartTold 230 = .ok (.sipush 9999, 3) := by decide +kernel
theorem dX12_qPartTold_233 : decode cX12_qPartTold 233 = .ok (.invokevirtual 329, 3) := by decide +kernel
theorem dX12_qPartTold_236 : decode cX12_qPartTold 236 = .ok (.iadd, 1) := by decide +kernel
theorem dX12_qPartTold_237 : decode cX12_qPartTold 237 = .ok (.invokevirtual 642, 3) := by decide +kernel
theorem dX12_qPartTold_240 : decode cX12_qPartTold 240 = .ok (.aload_n 0, 1) := by decide +kernel
theorem dX12_qPartTold_241 : decode cX12_qPartTold 241 = .ok (.invokevirtual 666, 3) := by decide +kernel
theorem dX12_qPartTold_244 : decode cX12_qPartTold 244 = .ok (.return_, 1) := by decide +kernel
theorem dX12_qGoesOn_0 : decode cX12_qGoesOn 0 = .ok (.aload_n 0, 1) := by decide +kernel
theorem dX12_qGoesOn_1 : decode cX12_qGoesOn 1 = .ok (.getfield 260, 3) := by decide +kernel
theorem dX12_qGoesOn_4 : decode cX12_qGoesOn 4 = .ok (.ifCond .ne 118, 3) := by decide +kernel
theorem dX12_qGoesOn_7 : decode cX12_qGoesOn 7 = .ok (.aload_n 0, 1) := by decide +kernel
theorem dX12_qGoesOn_8 : decode cX12_qGoesOn 8 = .ok (.invokevirtual 272, 3) := by decide +kernel
theorem dX12_qGoesOn_11 : decode cX12_qGoesOn 11 = .ok (.bipush 41, 2) := by decide +kernel
theorem dX12_qGoesOn_13 : decode cX12_qGoesOn 13 = .ok (.if_icmp .ne 109, 3) := by decide +kernel
theorem dX12_qGoesOn_16 : decode cX12_qGoesOn 16 = .ok (.aload_n 0, 1) := by decide +kernel
theorem dX12_qGoesOn_17 : decode cX12_qGoesOn 17 = .ok (.invokevirtual 669, 3) := by decide +kernel
theorem dX12_qGoesOn_20 : decode cX12_qGoesOn 20 = .ok (.bipush 20, 2) := by decide +kernel
theorem dX12_qGoesOn_22 : decode cX12_qGoesOn 22 = .ok (.if_icmp .eq 21, 3) := by decide +kernel
theorem dX12_qGoesOn_25 : decode cX12_qGoesOn 25 = .ok (.aload_n 0, 1) := by decide +kernel
theorem dX12_qGoesOn_26 : decode cX12_qGoesOn 26 = .ok (.invokevirtual 669, 3) := by decide +kernel
theorem dX12_qGoesOn_29 : decode cX12_qGoesOn 29 = .ok (.bipush 23, 2) := by decide +kernel
theorem dX12_qGoesOn_31 : decode cX12_qGoesOn 31 = .ok (.if_icmp .eq 12, 3) := by decide +kernel
theorem dX12_qGoesOn_34 : decode cX12_qGoesOn 34 = .ok (.aload_n 0, 1) := by decide +kernel
theorem dX12_qGoesOn_35 : decode cX12_qGoesOn 35 = .ok (.invokevirtual 669, 3) := by decide +kernel
theorem dX12_qGoesOn_38 : decode cX12_qGoesOn 38 = .ok (.bipush 24, 2) := by decide +kernel
theorem dX12_qGoesOn_40 : decode cX12_qGoesOn 40 = .ok (.if_icmp .ne 82, 3) := by decide +kernel
theorem dX12_qGoesOn_43 : decode cX12_qGoesOn 43 = .ok (.aload_n 0, 1) := by decide +kernel
theorem dX12_qGoesOn_44 : decode cX12_qGoesOn 44 = .ok (.dup, 1) := by decide +kernel
theorem dX12_qGoesOn_45 : decode cX12_qGoesOn 45 = .ok (.getfield 266, 3) := by decide +kernel
theorem dX12_qGoesOn_48 : decode cX12_qGoesOn 48 = .ok (.iconst 1, 1) := by decide +kernel
theorem dX12_qGoesOn_49 : decode cX12_qGoesOn 49 = .ok (.iadd, 1) := by decide +kernel
theorem dX12_qGoesOn_50 : decode cX12_qGoesOn 50 = .ok (.putfield 266, 3) := by decide +kernel
theorem dX12_qGoesOn_53 : decode cX12_qGoesOn 53 = .ok (.aload_n 0, 1) := by decide +kernel
theorem dX12_qGoesOn_54 : decode cX12_qGoesOn 54 = .ok (.invokevirtual 672, 3) := by decide +kernel
theorem dX12_qGoesOn_57 : decode cX12_qGoesOn 57 = .ok (.aload_n 0, 1) := by decide +kernel
theorem dX12_qGoesOn_58 : decode cX12_qGoesOn 58 = .ok (.dup, 1) := by decide +kernel
theorem dX12_qGoesOn_59 : decode cX12_qGoesOn 59 = .ok (.getfield 357, 3) := by decide +kernel
theorem dX12_qGoesOn_62 : decode cX12_qGoesOn 62 = .ok (.iconst 1, 1) := by decide +kernel
theorem dX12_qGoesOn_63 : decode cX12_qGoesOn 63 = .ok (.isub, 1) := by decide +kernel
theorem dX12_qGoesOn_64 : decode cX12_qGoesOn 64 = .ok (.putfield 357, 3) := by decide +kernel
theorem dX12_qGoesOn_67 : decode cX12_qGoesOn 67 = .ok (.aload_n 0, 1) := by decide +kernel
theorem dX12_qGoesOn_68 : decode cX12_qGoesOn 68 = .ok (.dup, 1) := by decide +kernel
theorem dX12_qGoesOn_69 : decode cX12_qGoesOn 69 = .ok (.getfield 360, 3) := by decide +kernel
theorem dX12_qGoesOn_72 : decode cX12_qGoesOn 72 = .ok (.iconst 1, 1) := by decide +kernel
theorem dX12_qGoesOn_73 : decode cX12_qGoesOn 73 = .ok (.isub, 1) := by decide +kernel
theorem dX12_qGoesOn_74 : decode cX12_qGoesOn 74 = .ok (.putfield 360, 3) := by decide +kernel
theorem dX12_qGoesOn_77 : decode cX12_qGoesOn 77 = .ok (.aload_n 0, 1) := by decide +kernel
theorem dX12_qGoesOn_78 : decode cX12_qGoesOn 78 = .ok (.getfield 246, 3) := by decide +kernel
theorem dX12_qGoesOn_81 : decode cX12_qGoesOn 81 = .ok (.aload_n 0, 1) := by decide +kernel
theorem dX12_qGoesOn_82 : decode cX12_qGoesOn 82 = .ok (.getfield 357, 3) := by decide +kernel
theorem dX12_qGoesOn_85 : decode cX12_qGoesOn 85 = .ok (.iaload, 1) := by decide +kernel
theorem dX12_qGoesOn_86 : decode cX12_qGoesOn 86 = .ok (.bipush 20, 2) := by decide +kernel
theorem dX12_qGoesOn_88 : decode cX12_qGoesOn 88 = .ok (.if_icmp .eq 27, 3) := by decide +kernel
theorem dX12_qGoesOn_91 : decode cX12_qGoesOn 91 = .ok (.aload_n 0, 1) := by decide +kernel
theorem dX12_qGoesOn_92 : decode cX12_qGoesOn 92 = .ok (.aload_n 0, 1) := by decide +kernel
theorem dX12_qGoesOn_93 : decode cX12_qGoesOn 93 = .ok (.getfield 246, 3) := by decide +kernel
theorem dX12_qGoesOn_96 : decode cX12_qGoesOn 96 = .ok (.aload_n 0, 1) := by decide +kernel
theorem dX12_qGoesOn_97 : decode cX12_qGoesOn 97 = .ok (.getfield 357, 3) := by decide +kernel
theorem dX12_qGoesOn_100 : decode cX12_qGoesOn 100 = .ok (.iaload, 1) := by decide +kernel
theorem dX12_qGoesOn_101 : decode cX12_qGoesOn 101 = .ok (.bipush 23, 2) := by decide +kernel
theorem dX12_qGoesOn_103 : decode cX12_qGoesOn 103 = .ok (.if_icmp .ne 7, 3) := by decide +kernel
theorem dX12_qGoesOn_106 : decode cX12_qGoesOn 106 = .ok (.iconst 5, 1) := by decide +kernel
theorem dX12_qGoesOn_107 : decode cX12_qGoesOn 107 = .ok (.goto 5, 3) := by decide +kernel
theorem dX12_qGoesOn_110 : decode cX12_qGoesOn 110 = .ok (.bipush 6, 2) := by decide +kernel
theorem dX12_qGoesOn_112 : decode cX12_qGoesOn 112 = .ok (.invokevirtual 642, 3) := by decide +kernel
theorem dX12_qGoesOn_115 : decode cX12_qGoesOn 115 = .ok (.aload_n 0, 1) := by decide +kernel
theorem dX12_qGoesOn_116 : decode cX12_qGoesOn 116 = .ok (.invokevirtual 666, 3) := by decide +kernel
theorem dX12_qGoesOn_119 : decode cX12_qGoesOn 119 = .ok (.goto (-119), 3) := by decide +kernel
theorem dX12_qGoesOn_122 : decode cX12_qGoesOn 122 = .ok (.aload_n 0, 1) := by decide +kernel
theorem dX12_qGoesOn_123 : decode cX12_qGoesOn 123 = .ok (.bipush 42, 2) := by decide +kernel
theorem dX12_qGoesOn_125 : decode cX12_qGoesOn 125 = .ok (.invokevirtual 294, 3) := by decide +kernel
theorem dX12_qGoesOn_128 : decode cX12_qGoesOn 128 = .ok (.ifCond .ne 12, 3) := by decide +kernel
theorem dX12_qGoesOn_131 : decode cX12_qGoesOn 131 = .ok (.aload_n 0, 1) := by decide +kernel
theorem dX12_qGoesOn_132 : decode cX12_qGoesOn 132 = .ok (.bipush 47, 2) := by decide +kernel
theorem dX12_qGoesOn_134 : decode cX12_qGoesOn 134 = .ok (.invokevirtual 294, 3) := by decide +kernel
theorem dX12_qGoesOn_137 : decode cX12_qGoesOn 137 = .ok (.ifCond .eq 70, 3) := by decide +kernel
theorem dX12_qGoesOn_140 : decode cX12_qGoesOn 140 = .ok (.aload_n 0, 1) := by decide +kernel
theorem dX12_qGoesOn_141 : decode cX12_qGoesOn 141 = .ok (.getfield 7, 3) := by decide +kernel
theorem dX12_qGoesOn_144 : decode cX12_qGoesOn 144 = .ok (.aload_n 0, 1) := by decide +kernel
theorem dX12_qGoesOn_145 : decode cX12_qGoesOn 145 = .ok (.getfield 266, 3) := by decide +kernel
theorem dX12_qGoesOn_148 : decode cX12_qGoesOn 148 = .ok (.iconst 1, 1) := by decide +kernel
theorem dX12_qGoesOn_149 : decode cX12_qGoesOn 149 = .ok (.isub, 1) := by decide +kernel
theorem dX12_qGoesOn_150 : decode cX12_qGoesOn 150 = .ok (.iaload, 1) := by decide +kernel
theorem dX12_qGoesOn_151 : decode cX12_qGoesOn 151 = .ok (.bipush 42, 2) := by decide +kernel
theorem dX12_qGoesOn_153 : decode cX12_qGoesOn 153 = .ok (.if_icmp .ne 7, 3) := by decide +kernel
theorem dX12_qGoesOn_156 : decode cX12_qGoesOn 156 = .ok (.iconst 3, 1) := by decide +kernel
theorem dX12_qGoesOn_157 : decode cX12_qGoesOn 157 = .ok (.goto 4, 3) := by decide +kernel
theorem dX12_qGoesOn_160 : decode cX12_qGoesOn 160 = .ok (.iconst 4, 1) := by decide +kernel
theorem dX12_qGoesOn_161 : decode cX12_qGoesOn 161 = .ok (.istore_n 1, 1) := by decide +kernel
theorem dX12_qGoesOn_162 : decode cX12_qGoesOn 162 = .ok (.aload_n 0, 1) := by decide +kernel
theorem dX12_qGoesOn_163 : decode cX12_qGoesOn 163 = .ok (.iconst 3, 1) := by decide +kernel
theorem dX12_qGoesOn_164 : decode cX12_qGoesOn 164 = .ok (.invokevirtual 675, 3) := by decide +kernel
theorem dX12_qGoesOn_167 : decode cX12_qGoesOn 167 = .ok (.ifCond .ne 11, 3) := by decide +kernel
theorem dX12_qGoesOn_170 : decode cX12_qGoesOn 170 = .ok (.aload_n 0, 1) := by decide +kernel
theorem dX12_qGoesOn_171 : decode cX12_qGoesOn 171 = .ok (.iconst 4, 1) := by decide +kernel
theorem dX12_qGoesOn_172 : decode cX12_qGoesOn 172 = .ok (.invokevirtual 675, 3) := by decide +kernel
theorem dX12_qGoesOn_175 : decode cX12_qGoesOn 175 = .ok (.ifCond .eq 10, 3) := by decide +kernel
theorem dX12_qGoesOn_178 : decode cX12_qGoesOn 178 = .ok (.aload_n 0, 1) := by decide +kernel
theorem dX12_qGoesOn_179 : decode cX12_qGoesOn 179 = .ok (.invokevirtual 648, 3) := by decide +kernel
theorem dX12_qGoesOn_182 : decode cX12_qGoesOn 182 = .ok (.goto (-20), 3) := by decide +kernel
theorem dX12_qGoesOn_185 : decode cX12_qGoesOn 185 = .ok (.aload_n 0, 1) := by decide +kernel
theorem dX12_qGoesOn_186 : decode cX12_qGoesOn 186 = .ok (.getfield 246, 3) := by decide +kernel
theorem dX12_qGoesOn_189 : decode cX12_qGoesOn 189 = .ok (.aload_n 0, 1) := by decide +kernel
theorem dX12_qGoesOn_190 : decode cX12_qGoesOn 190 = .ok (.getfield 357, 3) := by decide +kernel
theorem dX12_qGoesOn_193 : decode cX12_qGoesOn 193 = .ok (.iload_n 1, 1) := by decide +kernel
theorem dX12_qGoesOn_194 : decode cX12_qGoesOn 194 = .ok (.iastore, 1) := by decide +kernel
theorem dX12_qGoesOn_195 : decode cX12_qGoesOn 195 = .ok (.aload_n 0, 1) := by decide +kernel
theorem dX12_qGoesOn_196 : decode cX12_qGoesOn 196 = .ok (.dup, 1) := by decide +kernel
theorem dX12_qGoesOn_197 : decode cX12_qGoesOn 197 = .ok (.getfield 357, 3) := by decide +kernel
theorem dX12_qGoesOn_200 : decode cX12_qGoesOn 200 = .ok (.iconst 1, 1) := by decide +kernel
theorem dX12_qGoesOn_201 : decode cX12_qGoesOn 201 = .ok (.iadd, 1) := by decide +kernel
theorem dX12_qGoesOn_202 : decode cX12_qGoesOn 202 = .ok (.putfield 357, 3) := by decide +kernel
theorem dX12_qGoesOn_205 : decode cX12_qGoesOn 205 = .ok (.iconst 1, 1) := by decide +kernel
theorem dX12_qGoesOn_206 : decode cX12_qGoesOn 206 = .ok (.ireturn, 1) := by decide +kernel
theorem dX12_qGoesOn_207 : decode cX12_qGoesOn 207 = .ok (.aload_n 0, 1) := by decide +kernel
theorem dX12_qGoesOn_208 : decode cX12_qGoesOn 208 = .ok (.bipush 43, 2) := by decide +kernel
theorem dX12_qGoesOn_210 : decode cX12_qGoesOn 210 = .ok (.invokevirtual 294, 3) := by decide +kernel
theorem dX12_qGoesOn_213 : decode cX12_qGoesOn 213 = .ok (.ifCond .ne 12, 3) := by decide +kernel
theorem dX12_qGoesOn_216 : decode cX12_qGoesOn 216 = .ok (.aload_n 0, 1) := by decide +kernel
theorem dX12_qGoesOn_217 : decode cX12_qGoesOn 217 = .ok (.bipush 45, 2) := by decide +kernel
theorem dX12_qGoesOn_219 : decode cX12_qGoesOn 219 = .ok (.invokevirtual 294, 3) := by decide +kernel
theorem dX12_qGoesOn_222 : decode cX12_qGoesOn 222 = .ok (.ifCond .eq 86, 3) := by decide +kernel
theorem dX12_qGoesOn_225 : decode cX12_qGoesOn 225 = .ok (.aload_n 0, 1) := by decide +kernel
theorem dX12_qGoesOn_226 : decode cX12_qGoesOn 226 = .ok (.getfield 7, 3) := by decide +kernel
theorem dX12_qGoesOn_229 : decode cX12_qGoesOn 229 = .ok (.aload_n 0, 1) := by decide +kernel
theorem dX12_qGoesOn_230 : decode cX12_qGoesOn 230 = .ok (.getfield 266, 3) := by decide +kernel
theorem dX12_qGoesOn_233 : decode cX12_qGoesOn 233 = .ok (.iconst 1, 1) := by decide +kernel
theorem dX12_qGoesOn_234 : decode cX12_qGoesOn 234 = .ok (.isub, 1) := by decide +kernel
theorem dX12_qGoesOn_235 : decode cX12_qGoesOn 235 = .ok (.iaload, 1) := by decide +kernel
theorem dX12_qGoesOn_236 : decode cX12_qGoesOn 236 = .ok (.bipush 43, 2) := by decide +kernel
theorem dX12_qGoesOn_238 : decode cX12_qGoesOn 238 = .ok (.if_icmp .ne 7, 3) := by decide +kernel
theorem dX12_qGoesOn_241 : decode cX12_qGoesOn 241 = .ok (.iconst 1, 1) := by decide +kernel
theorem dX12_qGoesOn_242 : decode cX12_qGoesOn 242 = .ok (.goto 4, 3) := by decide +kernel
theorem dX12_qGoesOn_245 : decode cX12_qGoesOn 245 = .ok (.iconst 2, 1) := by decide +kernel
theorem dX12_qGoesOn_246 : decode cX12_qGoesOn 246 = .ok (.istore_n 1, 1) := by decide +kernel
theorem dX12_qGoesOn_247 : decode cX12_qGoesOn 247 = .ok (.aload_n 0, 1) := by decide +kernel
theorem dX12_qGoesOn_248 : decode cX12_qGoesOn 248 = .ok (.iconst 3, 1) := by decide +kernel
theorem dX12_qGoesOn_249 : decode cX12_qGoesOn 249 = .ok (.invokevirtual 675, 3) := by decide +kernel
theorem dX12_qGoesOn_252 : decode cX12_qGoesOn 252 = .ok (.ifCond .ne 27, 3) := by decide +kernel
theorem dX12_qGoesOn_255 : decode cX12_qGoesOn 255 = .ok (.aload_n 0, 1) := by decide +kernel
theorem dX12_qGoesOn_256 : decode cX12_qGoesOn 256 = .ok (.iconst 4, 1) := by decide +kernel
theorem dX12_qGoesOn_257 : decode cX12_qGoesOn 257 = .ok (.invokevirtual 675, 3) := by decide +kernel
theorem dX12_qGoesOn_260 : decode cX12_qGoesOn 260 = .ok (.ifCond .ne 19, 3) := by decide +kernel
theorem dX12_qGoesOn_263 : decode cX12_qGoesOn 263 = .ok (.aload_n 0, 1) := by decide +kernel
theorem dX12_qGoesOn_264 : decode cX12_qGoesOn 264 = .ok (.iconst 1, 1) := by decide +kernel
theorem dX12_qGoesOn_265 : decode cX12_qGoesOn 265 = .ok (.invokevirtual 675, 3) := by decide +kernel
theorem dX12_qGoesOn_268 : decode cX12_qGoesOn 268 = .ok (.ifCond .ne 11, 3) := by decide +kernel
theorem dX12_qGoesOn_271 : decode cX12_qGoesOn 271 = .ok (.aload_n 0, 1) := by decide +kernel
theorem dX12_qGoesOn_272 : decode cX12_qGoesOn 272 = .ok (.iconst 2, 1) := by decide +kernel
theorem dX12_qGoesOn_273 : decode cX12_qGoesOn 273 = .ok (.invokevirtual 675, 3) := by decide +kernel
theorem dX12_qGoesOn_276 : decode cX12_qGoesOn 276 = .ok (.ifCond .eq 10, 3) := by decide +kernel
theorem dX12_qGoesOn_279 : decode cX12_qGoesOn 279 = .ok (.aload_n 0, 1) := by decide +kernel
theorem dX12_qGoesOn_280 : decode cX12_qGoesOn 280 = .ok (.invokevirtual 648, 3) := by decide +kernel
theorem dX12_qGoesOn_283 : decode cX12_qGoesOn 283 = .ok (.goto (-36), 3) := by decide +kernel
