theorem dX7_houseNamed_112 : decode cX7_houseNamed 112 = .ok (.iload 4, 2) := by decide +kernel
theorem dX7_houseNamed_114 : decode cX7_houseNamed 114 = .ok (.ireturn, 1) := by decide +kernel
theorem dX7_houseNamed_115 : decode cX7_houseNamed 115 = .ok (.iinc 4 1, 3) := by decide +kernel
theorem dX7_houseNamed_118 : decode cX7_houseNamed 118 = .ok (.goto (-115), 3) := by decide +kernel
theorem dX7_houseNamed_121 : decode cX7_houseNamed 121 = .ok (.iconst (-1), 1) := by decide +kernel
theorem dX7_houseNamed_122 : decode cX7_houseNamed 122 = .ok (.ireturn, 1) := by decide +kernel
theorem dX7_nameNext_0 : decode cX7_nameNext 0 = .ok (.iconst 0, 1) := by decide +kernel
theorem dX7_nameNext_1 : decode cX7_nameNext 1 = .ok (.istore 4, 2) := by decide +kernel
theorem dX7_nameNext_3 : decode cX7_nameNext 3 = .ok (.iload 4, 2) := by decide +kernel
theorem dX7_nameNext_5 : decode cX7_nameNext 5 = .ok (.bipush 6, 2) := by decide +kernel
theorem dX7_nameNext_7 : decode cX7_nameNext 7 = .ok (.if_icmp .ge 89, 3) := by decide +kernel
theorem dX7_nameNext_10 : decode cX7_nameNext 10 = .ok (.aload_n 0, 1) := by decide +kernel
theorem dX7_nameNext_11 : decode cX7_nameNext 11 = .ok (.getfield 40, 3) := by decide +kernel
theorem dX7_nameNext_14 : decode cX7_nameNext 14 = .ok (.ifCond .lt 82, 3) := by decide +kernel
theorem dX7_nameNext_17 : decode cX7_nameNext 17 = .ok (.aload_n 0, 1) := by decide +kernel
theorem dX7_nameNext_18 : decode cX7_nameNext 18 = .ok (.getfield 40, 3) := by decide +kernel
theorem dX7_nameNext_21 : decode cX7_nameNext 21 = .ok (.bipush 7, 2) := by decide +kernel
theorem dX7_nameNext_23 : decode cX7_nameNext 23 = .ok (.if_icmp .ge 73, 3) := by decide +kernel
theorem dX7_nameNext_26 : decode cX7_nameNext 26 = .ok (.iload_n 2, 1) := by decide +kernel
theorem dX7_nameNext_27 : decode cX7_nameNext 27 = .ok (.iload 4, 2) := by decide +kernel
theorem dX7_nameNext_29 : decode cX7_nameNext 29 = .ok (.iadd, 1) := by decide +kernel
theorem dX7_nameNext_30 : decode cX7_nameNext 30 = .ok (.istore 5, 2) := by decide +kernel
theorem dX7_nameNext_32 : decode cX7_nameNext 32 = .ok (.iload 5, 2) := by decide +kernel
theorem dX7_nameNext_34 : decode cX7_nameNext 34 = .ok (.ifCond .lt 20, 3) := by decide +kernel
theorem dX7_nameNext_37 : decode cX7_nameNext 37 = .ok (.iload 5, 2) := by decide +kernel
theorem dX7_nameNext_39 : decode cX7_nameNext 39 = .ok (.iload_n 3, 1) := by decide +kernel
theorem dX7_nameNext_40 : decode cX7_nameNext 40 = .ok (.if_icmp .ge 14, 3) := by decide +kernel
theorem dX7_nameNext_43 : decode cX7_nameNext 43 = .ok (.iload 5, 2) := by decide +kernel
theorem dX7_nameNext_45 : decode cX7_nameNext 45 = .ok (.aload_n 1, 1) := by decide +kernel
theorem dX7_nameNext_46 : decode cX7_nameNext 46 = .ok (.arraylength, 1) := by decide +kernel
theorem dX7_nameNext_47 : decode cX7_nameNext 47 = .ok (.if_icmp .ge 7, 3) := by decide +kernel
theorem dX7_nameNext_50 : decode cX7_nameNext 50 = .ok (.iconst 1, 1) := by decide +kernel
theorem dX7_nameNext_51 : decode cX7_nameNext 51 = .ok (.goto 4, 3) := by decide +kernel
theorem dX7_nameNext_54 : decode cX7_nameNext 54 = .ok (.iconst 0, 1) := by decide +kernel
theorem dX7_nameNext_55 : decode cX7_nameNext 55 = .ok (.istore 6, 2) := by decide +kernel
theorem dX7_nameNext_57 : decode cX7_nameNext 57 = .ok (.aload_n 0, 1) := by decide +kernel
theorem dX7_nameNext_58 : decode cX7_nameNext 58 = .ok (.getfield 9, 3) := by decide +kernel
theorem dX7_nameNext_61 : decode cX7_nameNext 61 = .ok (.aload_n 0, 1) := by decide +kernel
theorem dX7_nameNext_62 : decode cX7_nameNext 62 = .ok (.getfield 40, 3) := by decide +kernel
theorem dX7_nameNext_65 : decode cX7_nameNext 65 = .ok (.bipush 6, 2) := by decide +kernel
theorem dX7_nameNext_67 : decode cX7_nameNext 67 = .ok (.imul, 1) := by decide +kernel
theorem dX7_nameNext_68 : decode cX7_nameNext 68 = .ok (.iload 4, 2) := by decide +kernel
theorem dX7_nameNext_70 : decode cX7_nameNext 70 = .ok (.iadd, 1) := by decide +kernel
theorem dX7_nameNext_71 : decode cX7_nameNext 71 = .ok (.iload 6, 2) := by decide +kernel
theorem dX7_nameNext_73 : decode cX7_nameNext 73 = .ok (.ifCond .eq 15, 3) := by decide +kernel
theorem dX7_nameNext_76 : decode cX7_nameNext 76 = .ok (.aload_n 1, 1) := by decide +kernel
theorem dX7_nameNext_77 : decode cX7_nameNext 77 = .ok (.iload 5, 2) := by decide +kernel
theorem dX7_nameNext_79 : decode cX7_nameNext 79 = .ok (.iaload, 1) := by decide +kernel
theorem dX7_nameNext_80 : decode cX7_nameNext 80 = .ok (.bipush 97, 2) := by decide +kernel
theorem dX7_nameNext_82 : decode cX7_nameNext 82 = .ok (.isub, 1) := by decide +kernel
theorem dX7_nameNext_83 : decode cX7_nameNext 83 = .ok (.iconst 1, 1) := by decide +kernel
theorem dX7_nameNext_84 : decode cX7_nameNext 84 = .ok (.iadd, 1) := by decide +kernel
theorem dX7_nameNext_85 : decode cX7_nameNext 85 = .ok (.goto 4, 3) := by decide +kernel
theorem dX7_nameNext_88 : decode cX7_nameNext 88 = .ok (.iconst 0, 1) := by decide +kernel
theorem dX7_nameNext_89 : decode cX7_nameNext 89 = .ok (.iastore, 1) := by decide +kernel
theorem dX7_nameNext_90 : decode cX7_nameNext 90 = .ok (.iinc 4 1, 3) := by decide +kernel
theorem dX7_nameNext_93 : decode cX7_nameNext 93 = .ok (.goto (-90), 3) := by decide +kernel
theorem dX7_nameNext_96 : decode cX7_nameNext 96 = .ok (.return_, 1) := by decide +kernel
theorem dX7_addNext_0 : decode cX7_addNext 0 = .ok (.aload_n 0, 1) := by decide +kernel
theorem dX7_addNext_1 : decode cX7_addNext 1 = .ok (.getfield 40, 3) := by decide +kernel
theorem dX7_addNext_4 : decode cX7_addNext 4 = .ok (.ifCond .lt 42, 3) := by decide +kernel
theorem dX7_addNext_7 : decode cX7_addNext 7 = .ok (.aload_n 0, 1) := by decide +kernel
theorem dX7_addNext_8 : decode cX7_addNext 8 = .ok (.getfield 40, 3) := by decide +kernel
theorem dX7_addNext_11 : decode cX7_addNext 11 = .ok (.bipush 7, 2) := by decide +kernel
theorem dX7_addNext_13 : decode cX7_addNext 13 = .ok (.if_icmp .ge 33, 3) := by decide +kernel
theorem dX7_addNext_16 : decode cX7_addNext 16 = .ok (.aload_n 0, 1) := by decide +kernel
theorem dX7_addNext_17 : decode cX7_addNext 17 = .ok (.getfield 15, 3) := by decide +kernel
theorem dX7_addNext_20 : decode cX7_addNext 20 = .ok (.aload_n 0, 1) := by decide +kernel
theorem dX7_addNext_21 : decode cX7_addNext 21 = .ok (.getfield 40, 3) := by decide +kernel
theorem dX7_addNext_24 : decode cX7_addNext 24 = .ok (.iload_n 1, 1) := by decide +kernel
theorem dX7_addNext_25 : decode cX7_addNext 25 = .ok (.iastore, 1) := by decide +kernel
theorem dX7_addNext_26 : decode cX7_addNext 26 = .ok (.aload_n 0, 1) := by decide +kernel
theorem dX7_addNext_27 : decode cX7_addNext 27 = .ok (.getfield 18, 3) := by decide +kernel
theorem dX7_addNext_30 : decode cX7_addNext 30 = .ok (.aload_n 0, 1) := by decide +kernel
theorem dX7_addNext_31 : decode cX7_addNext 31 = .ok (.getfield 40, 3) := by decide +kernel
theorem dX7_addNext_34 : decode cX7_addNext 34 = .ok (.iload_n 2, 1) := by decide +kernel
theorem dX7_addNext_35 : decode cX7_addNext 35 = .ok (.iastore, 1) := by decide +kernel
theorem dX7_addNext_36 : decode cX7_addNext 36 = .ok (.aload_n 0, 1) := by decide +kernel
theorem dX7_addNext_37 : decode cX7_addNext 37 = .ok (.dup, 1) := by decide +kernel
theorem dX7_addNext_38 : decode cX7_addNext 38 = .ok (.getfield 40, 3) := by decide +kernel
theorem dX7_addNext_41 : decode cX7_addNext 41 = .ok (.iconst 1, 1) := by decide +kernel
theorem dX7_addNext_42 : decode cX7_addNext 42 = .ok (.iadd, 1) := by decide +kernel
theorem dX7_addNext_43 : decode cX7_addNext 43 = .ok (.putfield 40, 3) := by decide +kernel
theorem dX7_addNext_46 : decode cX7_addNext 46 = .ok (.return_, 1) := by decide +kernel
theorem dX8_init_0 : decode cX8_init 0 = .ok (.aload_n 0, 1) := by decide +kernel
theorem dX8_init_1 : decode cX8_init 1 = .ok (.invokespecial 3, 3) := by decide +kernel
theorem dX8_init_4 : decode cX8_init 4 = .ok (.aload_n 0, 1) := by decide +kernel
theorem dX8_init_5 : decode cX8_init 5 = .ok (.bipush 48, 2) := by decide +kernel
theorem dX8_init_7 : decode cX8_init 7 = .ok (.newarray .int, 2) := by decide +kernel
theorem dX8_init_9 : decode cX8_init 9 = .ok (.putfield 11, 3) := by decide +kernel
theorem dX8_init_12 : decode cX8_init 12 = .ok (.aload_n 0, 1) := by decide +kernel
theorem dX8_init_13 : decode cX8_init 13 = .ok (.bipush 100, 2) := by decide +kernel
theorem dX8_init_15 : decode cX8_init 15 = .ok (.newarray .int, 2) := by decide +kernel
theorem dX8_init_17 : decode cX8_init 17 = .ok (.putfield 15, 3) := by decide +kernel
theorem dX8_init_20 : decode cX8_init 20 = .ok (.aload_n 0, 1) := by decide +kernel
theorem dX8_init_21 : decode cX8_init 21 = .ok (.sipush 3100, 3) := by decide +kernel
theorem dX8_init_24 : decode cX8_init 24 = .ok (.newarray .long, 2) := by decide +kernel
theorem dX8_init_26 : decode cX8_init 26 = .ok (.putfield 18, 3) := by decide +kernel
theorem dX8_init_29 : decode cX8_init 29 = .ok (.aload_n 0, 1) := by decide +kernel
theorem dX8_init_30 : decode cX8_init 30 = .ok (.sipush 128, 3) := by decide +kernel
theorem dX8_init_33 : decode cX8_init 33 = .ok (.newarray .int, 2) := by decide +kernel
theorem dX8_init_35 : decode cX8_init 35 = .ok (.putfield 22, 3) := by decide +kernel
theorem dX8_init_38 : decode cX8_init 38 = .ok (.aload_n 0, 1) := by decide +kernel
theorem dX8_init_39 : decode cX8_init 39 = .ok (.iconst (-1), 1) := by decide +kernel
theorem dX8_init_40 : decode cX8_init 40 = .ok (.putfield 25, 3) := by decide +kernel
theorem dX8_init_43 : decode cX8_init 43 = .ok (.aload_n 0, 1) := by decide +kernel
theorem dX8_init_44 : decode cX8_init 44 = .ok (.iconst (-1), 1) := by decide +kernel
theorem dX8_init_45 : decode cX8_init 45 = .ok (.putfield 29, 3) := by decide +kernel
theorem dX8_init_48 : decode cX8_init 48 = .ok (.return_, 1) := by decide +kernel
theorem dX8_take_0 : decode cX8_take 0 = .ok (.iload_n 2, 1) := by decide +kernel
theorem dX8_take_1 : decode cX8_take 1 = .ok (.iconst 3, 1) := by decide +kernel
theorem dX8_take_2 : decode cX8_take 2 = .ok (.if_icmp .lt 24, 3) := by decide +kernel
theorem dX8_take_5 : decode cX8_take 5 = .ok (.iload_n 2, 1) := by decide +kernel
theorem dX8_take_6 : decode cX8_take 6 = .ok (.aload_n 0, 1) := by decide +kernel
theorem dX8_take_7 : decode cX8_take 7 = .ok (.getfield 11, 3) := by decide +kernel
theorem dX8_take_10 : decode cX8_take 10 = .ok (.arraylength, 1) := by decide +kernel
theorem dX8_take_11 : decode cX8_take 11 = .ok (.if_icmp .gt 15, 3) := by decide +kernel
theorem dX8_take_14 : decode cX8_take 14 = .ok (.iload_n 2, 1) := by decide +kernel
theorem dX8_take_15 : decode cX8_take 15 = .ok (.aload_n 1, 1) := by decide +kernel
theorem dX8_take_16 : decode cX8_take 16 = .ok (.arraylength, 1) := by decide +kernel
theorem dX8_take_17 : decode cX8_take 17 = .ok (.if_icmp .gt 9, 3) := by decide +kernel
theorem dX8_take_20 : decode cX8_take 20 = .ok (.iload_n 2, 1) := by decide +kernel
theorem dX8_take_21 : decode cX8_take 21 = .ok (.iconst 3, 1) := by decide +kernel
theorem dX8_take_22 : decode cX8_take 22 = .ok (.irem, 1) := by decide +kernel
theorem dX8_take_23 : decode cX8_take 23 = .ok (.ifCond .eq 5, 3) := by decide +kernel
theorem dX8_take_26 : decode cX8_take 26 = .ok (.iconst 0, 1) := by decide +kernel
theorem dX8_take_27 : decode cX8_take 27 = .ok (.ireturn, 1) := by decide +kernel
theorem dX8_take_28 : decode cX8_take 28 = .ok (.iconst 0, 1) := by decide +kernel
theorem dX8_take_29 : decode cX8_take 29 = .ok (.istore 4, 2) := by decide +kernel
theorem dX8_take_31 : decode cX8_take 31 = .ok (.iload 4, 2) := by decide +kernel
theorem dX8_take_33 : decode cX8_take 33 = .ok (.iconst 2, 1) := by decide +kernel
theorem dX8_take_34 : decode cX8_take 34 = .ok (.iadd, 1) := by decide +kernel
theorem dX8_take_35 : decode cX8_take 35 = .ok (.iload_n 2, 1) := by decide +kernel
theorem dX8_take_36 : decode cX8_take 36 = .ok (.if_icmp .ge 65, 3) := by decide +kernel
theorem dX8_take_39 : decode cX8_take 39 = .ok (.aload_n 1, 1) := by decide +kernel
theorem dX8_take_40 : decode cX8_take 40 = .ok (.iload 4, 2) := by decide +kernel
theorem dX8_take_42 : decode cX8_take 42 = .ok (.iconst 2, 1) := by decide +kernel
theorem dX8_take_43 : decode cX8_take 43 = .ok (.iadd, 1) := by decide +kernel
theorem dX8_take_44 : decode cX8_take 44 = .ok (.iaload, 1) := by decide +kernel
theorem dX8_take_45 : decode cX8_take 45 = .ok (.bipush 99, 2) := by decide +kernel
theorem dX8_take_47 : decode cX8_take 47 = .ok (.if_icmp .le 15, 3) := by decide +kernel
theorem dX8_take_50 : decode cX8_take 50 = .ok (.aload_n 1, 1) := by decide +kernel
theorem dX8_take_51 : decode cX8_take 51 = .ok (.iload 4, 2) := by decide +kernel
theorem dX8_take_53 : decode cX8_take 53 = .ok (.iconst 2, 1) := by decide +kernel
theorem dX8_take_54 : decode cX8_take 54 = .ok (.iadd, 1) := by decide +kernel
theorem dX8_take_55 : decode cX8_take 55 = .ok (.iaload, 1) := by decide +kernel
theorem dX8_take_56 : decode cX8_take 56 = .ok (.sipush 255, 3) := by decide +kernel
theorem dX8_take_59 : decode cX8_take 59 = .ok (.if_icmp .ne 7, 3) := by decide +kernel
theorem dX8_take_62 : decode cX8_take 62 = .ok (.iconst 1, 1) := by decide +kernel
theorem dX8_take_63 : decode cX8_take 63 = .ok (.goto 4, 3) := by decide +kernel
theorem dX8_take_66 : decode cX8_take 66 = .ok (.iconst 0, 1) := by decide +kernel
theorem dX8_take_67 : decode cX8_take 67 = .ok (.istore 5, 2) := by decide +kernel
theorem dX8_take_69 : decode cX8_take 69 = .ok (.aload_n 1, 1) := by decide +kernel
theorem dX8_take_70 : decode cX8_take 70 = .ok (.iload 4, 2) := by decide +kernel
theorem dX8_take_72 : decode cX8_take 72 = .ok (.iaload, 1) := by decide +kernel
theorem dX8_take_73 : decode cX8_take 73 = .ok (.bipush 31, 2) := by decide +kernel
theorem dX8_take_75 : decode cX8_take 75 = .ok (.if_icmp .ge 18, 3) := by decide +kernel
theorem dX8_take_78 : decode cX8_take 78 = .ok (.aload_n 1, 1) := by decide +kernel
theorem dX8_take_79 : decode cX8_take 79 = .ok (.iload 4, 2) := by decide +kernel
theorem dX8_take_81 : decode cX8_take 81 = .ok (.iconst 1, 1) := by decide +kernel
theorem dX8_take_82 : decode cX8_take 82 = .ok (.iadd, 1) := by decide +kernel
theorem dX8_take_83 : decode cX8_take 83 = .ok (.iaload, 1) := by decide +kernel
theorem dX8_take_84 : decode cX8_take 84 = .ok (.iload_n 3, 1) := by decide +kernel
theorem dX8_take_85 : decode cX8_take 85 = .ok (.if_icmp .ge 8, 3) := by decide +kernel
theorem dX8_take_88 : decode cX8_take 88 = .ok (.iload 5, 2) := by decide +kernel
theorem dX8_take_90 : decode cX8_take 90 = .ok (.ifCond .ne 5, 3) := by decide +kernel
theorem dX8_take_93 : decode cX8_take 93 = .ok (.iconst 0, 1) := by decide +kernel
theorem dX8_take_94 : decode cX8_take 94 = .ok (.ireturn, 1) := by decide +kernel
theorem dX8_take_95 : decode cX8_take 95 = .ok (.iinc 4 3, 3) := by decide +kernel
theorem dX8_take_98 : decode cX8_take 98 = .ok (.goto (-67), 3) := by decide +kernel
theorem dX8_take_101 : decode cX8_take 101 = .ok (.aload_n 1, 1) := by decide +kernel
theorem dX8_take_102 : decode cX8_take 102 = .ok (.iconst 0, 1) := by decide +kernel
theorem dX8_take_103 : decode cX8_take 103 = .ok (.aload_n 0, 1) := by decide +kernel
theorem dX8_take_104 : decode cX8_take 104 = .ok (.getfield 11, 3) := by decide +kernel
theorem dX8_take_107 : decode cX8_take 107 = .ok (.iconst 0, 1) := by decide +kernel
theorem dX8_take_108 : decode cX8_take 108 = .ok (.iload_n 2, 1) := by decide +kernel
theorem dX8_take_109 : decode cX8_take 109 = .ok (.invokestatic 32, 3) := by decide +kernel
theorem dX8_take_112 : decode cX8_take 112 = .ok (.aload_n 0, 1) := by decide +kernel
theorem dX8_take_113 : decode cX8_take 113 = .ok (.iload_n 2, 1) := by decide +kernel
theorem dX8_take_114 : decode cX8_take 114 = .ok (.iconst 3, 1) := by decide +kernel
theorem dX8_take_115 : decode cX8_take 115 = .ok (.idiv, 1) := by decide +kernel
theorem dX8_take_116 : decode cX8_take 116 = .ok (.putfield 38, 3) := by decide +kernel
theorem dX8_take_119 : decode cX8_take 119 = .ok (.iconst 1, 1) := by decide +kernel
theorem dX8_take_120 : decode cX8_take 120 = .ok (.ireturn, 1) := by decide +kernel
theorem dX8_look_0 : decode cX8_look 0 = .ok (.aload_n 0, 1) := by decide +kernel
theorem dX8_look_1 : decode cX8_look 1 = .ok (.getfield 25, 3) := by decide +kernel
theorem dX8_look_4 : decode cX8_look 4 = .ok (.iload 5, 2) := by decide +kernel
theorem dX8_look_6 : decode cX8_look 6 = .ok (.if_icmp .ne 13, 3) := by decide +kernel
theorem dX8_look_9 : decode cX8_look 9 = .ok (.aload_n 0, 1) := by decide +kernel
theorem dX8_look_10 : decode cX8_look 10 = .ok (.getfield 41, 3) := by decide +kernel
theorem dX8_look_13 : decode cX8_look 13 = .ok (.iload 4, 2) := by decide +kernel
theorem dX8_look_15 : decode cX8_look 15 = .ok (.if_icmp .ne 4, 3) := by decide +kernel
theorem dX8_look_18 : decode cX8_look 18 = .ok (.return_, 1) := by decide +kernel
theorem dX8_look_19 : decode cX8_look 19 = .ok (.aload_n 0, 1) := by decide +kernel
theorem dX8_look_20 : decode cX8_look 20 = .ok (.iload 5, 2) := by decide +kernel
theorem dX8_look_22 : decode cX8_look 22 = .ok (.putfield 25, 3) := by decide +kernel
theorem dX8_look_25 : decode cX8_look 25 = .ok (.aload_n 0, 1) := by decide +kernel
theorem dX8_look_26 : decode cX8_look 26 = .ok (.iload 4, 2) := by decide +kernel
theorem dX8_look_28 : decode cX8_look 28 = .ok (.putfield 41, 3) := by decide +kernel
theorem dX8_look_31 : decode cX8_look 31 = .ok (.aload_n 0, 1) := by decide +kernel
theorem dX8_look_32 : decode cX8_look 32 = .ok (.iconst 0, 1) := by decide +kernel
theorem dX8_look_33 : decode cX8_look 33 = .ok (.putfield 44, 3) := by decide +kernel
theorem dX8_look_36 : decode cX8_look 36 = .ok (.aload_n 0, 1) := by decide +kernel
theorem dX8_look_37 : decode cX8_look 37 = .ok (.iconst (-1), 1) := by decide +kernel
theorem dX8_look_38 : decode cX8_look 38 = .ok (.putfield 47, 3) := by decide +kernel
theorem dX8_look_41 : decode cX8_look 41 = .ok (.aload_n 0, 1) := by decide +kernel
theorem dX8_look_42 : decode cX8_look 42 = .ok (.iconst (-1), 1) := by decide +kernel
theorem dX8_look_43 : decode cX8_look 43 = .ok (.putfield 50, 3) := by decide +kernel
theorem dX8_look_46 : decode cX8_look 46 = .ok (.aload_n 0, 1) := by decide +kernel
theorem dX8_look_47 : decode cX8_look 47 = .ok (.invokevirtual 53, 3) := by decide +kernel
theorem dX8_look_50 : decode cX8_look 50 = .ok (.istore 6, 2) := by decide +kernel
theorem dX8_look_52 : decode cX8_look 52 = .ok (.iconst 0, 1) := by decide +kernel
theorem dX8_look_53 : decode cX8_look 53 = .ok (.istore 7, 2) := by decide +kernel
theorem dX8_look_55 : decode cX8_look 55 = .ok (.iload 7, 2) := by decide +kernel
theorem dX8_look_57 : decode cX8_look 57 = .ok (.bipush 100, 2) := by decide +kernel
theorem dX8_look_59 : decode cX8_look 59 = .ok (.if_icmp .ge 87, 3) := by decide +kernel
theorem dX8_look_62 : decode cX8_look 62 = .ok (.aload_n 2, 1) := by decide +kernel
theorem dX8_look_63 : decode cX8_look 63 = .ok (.aload_n 3, 1) := by decide +kernel
theorem dX8_look_64 : decode cX8_look 64 = .ok (.iload 4, 2) := by decide +kernel
theorem dX8_look_66 : decode cX8_look 66 = .ok (.iload 7, 2) := by decide +kernel
theorem dX8_look_68 : decode cX8_look 68 = .ok (.invokestatic 57, 3) := by decide +kernel
theorem dX8_look_71 : decode cX8_look 71 = .ok (.aload_n 0, 1) := by decide +kernel
theorem dX8_look_72 : decode cX8_look 72 = .ok (.aload_n 1, 1) := by decide +kernel
theorem dX8_look_73 : decode cX8_look 73 = .ok (.aload_n 3, 1) := by decide +kernel
theorem dX8_look_74 : decode cX8_look 74 = .ok (.iload 6, 2) := by decide +kernel
theorem dX8_look_76 : decode cX8_look 76 = .ok (.invokevirtual 61, 3) := by decide +kernel
theorem dX8_look_79 : decode cX8_look 79 = .ok (.istore 8, 2) := by decide +kernel
theorem dX8_look_81 : decode cX8_look 81 = .ok (.aload_n 0, 1) := by decide +kernel
theorem dX8_look_82 : decode cX8_look 82 = .ok (.getfield 15, 3) := by decide +kernel
theorem dX8_look_85 : decode cX8_look 85 = .ok (.iload 7, 2) := by decide +kernel
theorem dX8_look_87 : decode cX8_look 87 = .ok (.iload 8, 2) := by decide +kernel
theorem dX8_look_89 : decode cX8_look 89 = .ok (.ifCond .eq 7, 3) := by decide +kernel
theorem dX8_look_92 : decode cX8_look 92 = .ok (.iconst 1, 1) := by decide +kernel
theorem dX8_look_93 : decode cX8_look 93 = .ok (.goto 4, 3) := by decide +kernel
theorem dX8_look_96 : decode cX8_look 96 = .ok (.iconst 0, 1) := by decide +kernel
theorem dX8_look_97 : decode cX8_look 97 = .ok (.iastore, 1) := by decide +kernel
theorem dX8_look_98 : decode cX8_look 98 = .ok (.iload 8, 2) := by decide +kernel
theorem dX8_look_100 : decode cX8_look 100 = .ok (.ifCond .eq 40, 3) := by decide +kernel
theorem dX8_look_103 : decode cX8_look 103 = .ok (.aload_n 0, 1) := by decide +kernel
theorem dX8_look_104 : decode cX8_look 104 = .ok (.dup, 1) := by decide +kernel
theorem dX8_look_105 : decode cX8_look 105 = .ok (.getfield 44, 3) := by decide +kernel
theorem dX8_look_108 : decode cX8_look 108 = .ok (.iconst 1, 1) := by decide +kernel
theorem dX8_look_109 : decode cX8_look 109 = .ok (.iadd, 1) := by decide +kernel
theorem dX8_look_110 : decode cX8_look 110 = .ok (.putfield 44, 3) := by decide +kernel
theorem dX8_look_113 : decode cX8_look 113 = .ok (.aload_n 0, 1) := by decide +kernel
theorem dX8_look_114 : decode cX8_look 114 = .ok (.aload_n 0, 1) := by decide +kernel
theorem dX8_look_115 : decode cX8_look 115 = .ok (.getfield 47, 3) := by decide +kernel
theorem dX8_look_118 : decode cX8_look 118 = .ok (.iconst (-1), 1) := by decide +kernel
theorem dX8_look_119 : decode cX8_look 119 = .ok (.if_icmp .ne 8, 3) := by decide +kernel
theorem dX8_look_122 : decode cX8_look 122 = .ok (.iload 7, 2) := by decide +kernel
theorem dX8_look_124 : decode cX8_look 124 = .ok (.goto 7, 3) := by decide +kernel
theorem dX8_look_127 : decode cX8_look 127 = .ok (.aload_n 0, 1) := by decide +kernel
theorem dX8_look_128 : decode cX8_look 128 = .ok (.getfield 47, 3) := by decide +kernel
theorem dX8_look_131 : decode cX8_look 131 = .ok (.putfield 47, 3) := by decide +kernel
theorem dX8_look_134 : decode cX8_look 134 = .ok (.aload_n 0, 1) := by decide +kernel
theorem dX8_look_135 : decode cX8_look 135 = .ok (.iload 7, 2) := by decide +kernel
theorem dX8_look_137 : decode cX8_look 137 = .ok (.putfield 50, 3) := by decide +kernel
theorem dX8_look_140 : decode cX8_look 140 = .ok (.iinc 7 1, 3) := by decide +kernel
theorem dX8_look_143 : decode cX8_look 143 = .ok (.goto (-88), 3) := by decide +kernel
theorem dX8_look_146 : decode cX8_look 146 = .ok (.return_, 1) := by decide +kernel
theorem dX8_daysSeen_0 : decode cX8_daysSeen 0 = .ok (.iconst 0, 1) := by decide +kernel
theorem dX8_daysSeen_1 : decode cX8_daysSeen 1 = .ok (.istore_n 1, 1) := by decide +kernel
theorem dX8_daysSeen_2 : decode cX8_daysSeen 2 = .ok (.iconst 0, 1) := by decide +kernel
theorem dX8_daysSeen_3 : decode cX8_daysSeen 3 = .ok (.istore_n 2, 1) := by decide +kernel
theorem dX8_daysSeen_4 : decode cX8_daysSeen 4 = .ok (.iload_n 2, 1) := by decide +kernel
theorem dX8_daysSeen_5 : decode cX8_daysSeen 5 = .ok (.aload_n 0, 1) := by decide +kernel
theorem dX8_daysSeen_6 : decode cX8_daysSeen 6 = .ok (.getfield 38, 3) := by decide +kernel
theorem dX8_daysSeen_9 : decode cX8_daysSeen 9 = .ok (.if_icmp .ge 30, 3) := by decide +kernel
theorem dX8_daysSeen_12 : decode cX8_daysSeen 12 = .ok (.iload_n 2, 1) := by decide +kernel
theorem dX8_daysSeen_13 : decode cX8_daysSeen 13 = .ok (.bipush 16, 2) := by decide +kernel
theorem dX8_daysSeen_15 : decode cX8_daysSeen 15 = .ok (.if_icmp .ge 24, 3) := by decide +kernel
theorem dX8_daysSeen_18 : decode cX8_daysSeen 18 = .ok (.iload_n 1, 1) := by decide +kernel
theorem dX8_daysSeen_19 : decode cX8_daysSeen 19 = .ok (.aload_n 0, 1) := by decide +kernel
theorem dX8_daysSeen_20 : decode cX8_daysSeen 20 = .ok (.getfield 11, 3) := by decide +kernel
theorem dX8_daysSeen_23 : decode cX8_daysSeen 23 = .ok (.iconst 3, 1) := by decide +kernel
theorem dX8_daysSeen_24 : decode cX8_daysSeen 24 = .ok (.iload_n 2, 1) := by decide +kernel
theorem dX8_daysSeen_25 : decode cX8_daysSeen 25 = .ok (.imul, 1) := by decide +kernel
theorem dX8_daysSeen_26 : decode cX8_daysSeen 26 = .ok (.iaload, 1) := by decide +kernel
theorem dX8_daysSeen_27 : decode cX8_daysSeen 27 = .ok (.iconst 1, 1) := by decide +kernel
theorem dX8_daysSeen_28 : decode cX8_daysSeen 28 = .ok (.iadd, 1) := by decide +kernel
theorem dX8_daysSeen_29 : decode cX8_daysSeen 29 = .ok (.invokestatic 65, 3) := by decide +kernel
theorem dX8_daysSeen_32 : decode cX8_daysSeen 32 = .ok (.istore_n 1, 1) := by decide +kernel
theorem dX8_daysSeen_33 : decode cX8_daysSeen 33 = .ok (.iinc 2 1, 3) := by decide +kernel
theorem dX8_daysSeen_36 : decode cX8_daysSeen 36 = .ok (.goto (-32), 3) := by decide +kernel
theorem dX8_daysSeen_39 : decode cX8_daysSeen 39 = .ok (.iload_n 1, 1) := by decide +kernel
theorem dX8_daysSeen_40 : decode cX8_daysSeen 40 = .ok (.ireturn, 1) := by decide +kernel
theorem dX8_suppose_0 : decode cX8_suppose 0 = .ok (.aload_n 1, 1) := by decide +kernel
theorem dX8_suppose_1 : decode cX8_suppose 1 = .ok (.aload_n 0, 1) := by decide +kernel
theorem dX8_suppose_2 : decode cX8_suppose 2 = .ok (.invokevirtual 71, 3) := by decide +kernel
theorem dX8_suppose_5 : decode cX8_suppose 5 = .ok (.iload_n 2, 1) := by decide +kernel
theorem dX8_suppose_6 : decode cX8_suppose 6 = .ok (.ifCond .lt 16, 3) := by decide +kernel
theorem dX8_suppose_9 : decode cX8_suppose 9 = .ok (.iload_n 2, 1) := by decide +kernel
theorem dX8_suppose_10 : decode cX8_suppose 10 = .ok (.bipush 7, 2) := by decide +kernel
theorem dX8_suppose_12 : decode cX8_suppose 12 = .ok (.if_icmp .ge 10, 3) := by decide +kernel
theorem dX8_suppose_15 : decode cX8_suppose 15 = .ok (.aload_n 1, 1) := by decide +kernel
theorem dX8_suppose_16 : decode cX8_suppose 16 = .ok (.getfield 77, 3) := by decide +kernel
theorem dX8_suppose_19 : decode cX8_suppose 19 = .ok (.iload_n 2, 1) := by decide +kernel
theorem dX8_suppose_20 : decode cX8_suppose 20 = .ok (.iload_n 3, 1) := by decide +kernel
theorem dX8_suppose_21 : decode cX8_suppose 21 = .ok (.iastore, 1) := by decide +kernel
theorem dX8_suppose_22 : decode cX8_suppose 22 = .ok (.return_, 1) := by decide +kernel
theorem dX8_allIsSo_0 : decode cX8_allIsSo 0 = .ok (.iconst 0, 1) := by decide +kernel
theorem dX8_allIsSo_1 : decode cX8_allIsSo 1 = .ok (.istore 4, 2) := by decide +kernel
theorem dX8_allIsSo_3 : decode cX8_allIsSo 3 = .ok (.iload 4, 2) := by decide +kernel
theorem dX8_allIsSo_5 : decode cX8_allIsSo 5 = .ok (.iload_n 3, 1) := by decide +kernel
theorem dX8_allIsSo_6 : decode cX8_allIsSo 6 = .ok (.if_icmp .ge 115, 3) := by decide +kernel
theorem dX8_allIsSo_9 : decode cX8_allIsSo 9 = .ok (.aload_n 2, 1) := by decide +kernel
theorem dX8_allIsSo_10 : decode cX8_allIsSo 10 = .ok (.getfield 80, 3) := by decide +kernel
theorem dX8_allIsSo_13 : decode cX8_allIsSo 13 = .ok (.sipush 999, 3) := by decide +kernel
theorem dX8_allIsSo_16 : decode cX8_allIsSo 16 = .ok (.if_icmp .lt 5, 3) := by decide +kernel
theorem dX8_allIsSo_19 : decode cX8_allIsSo 19 = .ok (.iconst 0, 1) := by decide +kernel
theorem dX8_allIsSo_20 : decode cX8_allIsSo 20 = .ok (.ireturn, 1) := by decide +kernel
theorem dX8_allIsSo_21 : decode cX8_allIsSo 21 = .ok (.aload_n 1, 1) := by decide +kernel
theorem dX8_allIsSo_22 : decode cX8_allIsSo 22 = .ok (.aload_n 2, 1) := by decide +kernel
theorem dX8_allIsSo_23 : decode cX8_allIsSo 23 = .ok (.iconst 0, 1) := by decide +kernel
theorem dX8_allIsSo_24 : decode cX8_allIsSo 24 = .ok (.iconst 1, 1) := by decide +kernel
theorem dX8_allIsSo_25 : decode cX8_allIsSo 25 = .ok (.invokevirtual 83, 3) := by decide +kernel
theorem dX8_allIsSo_28 : decode cX8_allIsSo 28 = .ok (.iconst 0, 1) := by decide +kernel
theorem dX8_allIsSo_29 : decode cX8_allIsSo 29 = .ok (.istore 5, 2) := by decide +kernel
theorem dX8_allIsSo_31 : decode cX8_allIsSo 31 = .ok (.iload 5, 2) := by decide +kernel
theorem dX8_allIsSo_33 : decode cX8_allIsSo 33 = .ok (.aload_n 0, 1) := by decide +kernel
theorem dX8_allIsSo_34 : decode cX8_allIsSo 34 = .ok (.getfield 38, 3) := by decide +kernel
theorem dX8_allIsSo_37 : decode cX8_allIsSo 37 = .ok (.if_icmp .ge 78, 3) := by decide +kernel
theorem dX8_allIsSo_40 : decode cX8_allIsSo 40 = .ok (.iload 5, 2) := by decide +kernel
theorem dX8_allIsSo_42 : decode cX8_allIsSo 42 = .ok (.bipush 16, 2) := by decide +kernel
theorem dX8_allIsSo_44 : decode cX8_allIsSo 44 = .ok (.if_icmp .ge 71, 3) := by decide +kernel
theorem dX8_allIsSo_47 : decode cX8_allIsSo 47 = .ok (.aload_n 0, 1) := by decide +kernel
theorem dX8_allIsSo_48 : decode cX8_allIsSo 48 = .ok (.getfield 11, 3) := by decide +kernel
theorem dX8_allIsSo_51 : decode cX8_allIsSo 51 = .ok (.iconst 3, 1) := by decide +kernel
theorem dX8_allIsSo_52 : decode cX8_allIsSo 52 = .ok (.iload 5, 2) := by decide +kernel
theorem dX8_allIsSo_54 : decode cX8_allIsSo 54 = .ok (.imul, 1) := by decide +kernel
theorem dX8_allIsSo_55 : decode cX8_allIsSo 55 = .ok (.iconst 1, 1) := by decide +kernel
theorem dX8_allIsSo_56 : decode cX8_allIsSo 56 = .ok (.iadd, 1) := by decide +kernel
theorem dX8_allIsSo_57 : decode cX8_allIsSo 57 = .ok (.iaload, 1) := by decide +kernel
theorem dX8_allIsSo_58 : decode cX8_allIsSo 58 = .ok (.istore 6, 2) := by decide +kernel
theorem dX8_allIsSo_60 : decode cX8_allIsSo 60 = .ok (.aload_n 0, 1) := by decide +kernel
theorem dX8_allIsSo_61 : decode cX8_allIsSo 61 = .ok (.getfield 11, 3) := by decide +kernel
theorem dX8_allIsSo_64 : decode cX8_allIsSo 64 = .ok (.iconst 3, 1) := by decide +kernel
theorem dX8_allIsSo_65 : decode cX8_allIsSo 65 = .ok (.iload 5, 2) := by decide +kernel
theorem dX8_allIsSo_67 : decode cX8_allIsSo 67 = .ok (.imul, 1) := by decide +kernel
theorem dX8_allIsSo_68 : decode cX8_allIsSo 68 = .ok (.iaload, 1) := by decide +kernel
theorem dX8_allIsSo_69 : decode cX8_allIsSo 69 = .ok (.iload 4, 2) := by decide +kernel
theorem dX8_allIsSo_71 : decode cX8_allIsSo 71 = .ok (.if_icmp .ne 38, 3) := by decide +kernel
theorem dX8_allIsSo_74 : decode cX8_allIsSo 74 = .ok (.iload 6, 2) := by decide +kernel
theorem dX8_allIsSo_76 : decode cX8_allIsSo 76 = .ok (.ifCond .lt 33, 3) := by decide +kernel
theorem dX8_allIsSo_79 : decode cX8_allIsSo 79 = .ok (.iload 6, 2) := by decide +kernel
theorem dX8_allIsSo_81 : decode cX8_allIsSo 81 = .ok (.bipush 7, 2) := by decide +kernel
theorem dX8_allIsSo_83 : decode cX8_allIsSo 83 = .ok (.if_icmp .ge 26, 3) := by decide +kernel
theorem dX8_allIsSo_86 : decode cX8_allIsSo 86 = .ok (.aload_n 1, 1) := by decide +kernel
theorem dX8_allIsSo_87 : decode cX8_allIsSo 87 = .ok (.getfield 89, 3) := by decide +kernel
theorem dX8_allIsSo_90 : decode cX8_allIsSo 90 = .ok (.iload 6, 2) := by decide +kernel
theorem dX8_allIsSo_92 : decode cX8_allIsSo 92 = .ok (.iaload, 1) := by decide +kernel
theorem dX8_allIsSo_93 : decode cX8_allIsSo 93 = .ok (.aload_n 0, 1) := by decide +kernel
theorem dX8_allIsSo_94 : decode cX8_allIsSo 94 = .ok (.getfield 11, 3) := by decide +kernel
theorem dX8_allIsSo_97 : decode cX8_allIsSo 97 = .ok (.iconst 3, 1) := by decide +kernel
theorem dX8_allIsSo_98 : decode cX8_allIsSo 98 = .ok (.iload 5, 2) := by decide +kernel
theorem dX8_allIsSo_100 : decode cX8_allIsSo 100 = .ok (.imul, 1) := by decide +kernel
theorem dX8_allIsSo_101 : decode cX8_allIsSo 101 = .ok (.iconst 2, 1) := by decide +kernel
theorem dX8_allIsSo_102 : decode cX8_allIsSo 102 = .ok (.iadd, 1) := by decide +kernel
theorem dX8_allIsSo_103 : decode cX8_allIsSo 103 = .ok (.iaload, 1) := by decide +kernel
theorem dX8_allIsSo_104 : decode cX8_allIsSo 104 = .ok (.if_icmp .eq 5, 3) := by decide +kernel
theorem dX8_allIsSo_107 : decode cX8_allIsSo 107 = .ok (.iconst 0, 1) := by decide +kernel
theorem dX8_allIsSo_108 : decode cX8_allIsSo 108 = .ok (.ireturn, 1) := by decide +kernel
theorem dX8_allIsSo_109 : decode cX8_allIsSo 109 = .ok (.iinc 5 1, 3) := by decide +kernel
theorem dX8_allIsSo_112 : decode cX8_allIsSo 112 = .ok (.goto (-81), 3) := by decide +kernel
theorem dX8_allIsSo_115 : decode cX8_allIsSo 115 = .ok (.iinc 4 1, 3) := by decide +kernel
theorem dX8_allIsSo_118 : decode cX8_allIsSo 118 = .ok (.goto (-115), 3) := by decide +kernel
theorem dX8_allIsSo_121 : decode cX8_allIsSo 121 = .ok (.iconst 1, 1) := by decide +kernel
theorem dX8_allIsSo_122 : decode cX8_allIsSo 122 = .ok (.ireturn, 1) := by decide +kernel
theorem dX8_choose_0 : decode cX8_choose 0 = .ok (.aload_n 0, 1) := by decide +kernel
theorem dX8_choose_1 : decode cX8_choose 1 = .ok (.getfield 29, 3) := by decide +kernel
theorem dX8_choose_4 : decode cX8_choose 4 = .ok (.iload 5, 2) := by decide +kernel
theorem dX8_choose_6 : decode cX8_choose 6 = .ok (.if_icmp .ne 13, 3) := by decide +kernel
theorem dX8_choose_9 : decode cX8_choose 9 = .ok (.aload_n 0, 1) := by decide +kernel
theorem dX8_choose_10 : decode cX8_choose 10 = .ok (.getfield 92, 3) := by decide +kernel
theorem dX8_choose_13 : decode cX8_choose 13 = .ok (.iload 4, 2) := by decide +kernel
theorem dX8_choose_15 : decode cX8_choose 15 = .ok (.if_icmp .ne 4, 3) := by decide +kernel
theorem dX8_choose_18 : decode cX8_choose 18 = .ok (.return_, 1) := by decide +kernel
theorem dX8_choose_19 : decode cX8_choose 19 = .ok (.aload_n 0, 1) := by decide +kernel
theorem dX8_choose_20 : decode cX8_choose 20 = .ok (.iload 5, 2) := by decide +kernel
theorem dX8_choose_22 : decode cX8_choose 22 = .ok (.putfield 29, 3) := by decide +kernel
theorem dX8_choose_25 : decode cX8_choose 25 = .ok (.aload_n 0, 1) := by decide +kernel
theorem dX8_choose_26 : decode cX8_choose 26 = .ok (.iload 4, 2) := by decide +kernel
theorem dX8_choose_28 : decode cX8_choose 28 = .ok (.putfield 92, 3) := by decide +kernel
theorem dX8_choose_31 : decode cX8_choose 31 = .ok (.aload_n 0, 1) := by decide +kernel
theorem dX8_choose_32 : decode cX8_choose 32 = .ok (.iconst (-1), 1) := by decide +kernel
theorem dX8_choose_33 : decode cX8_choose 33 = .ok (.putfield 95, 3) := by decide +kernel
theorem dX8_choose_36 : decode cX8_choose 36 = .ok (.aload_n 0, 1) := by decide +kernel
theorem dX8_choose_37 : decode cX8_choose 37 = .ok (.iconst (-1), 1) := by decide +kernel
theorem dX8_choose_38 : decode cX8_choose 38 = .ok (.putfield 98, 3) := by decide +kernel
theorem dX8_choose_41 : decode cX8_choose 41 = .ok (.aload_n 0, 1) := by decide +kernel
theorem dX8_choose_42 : decode cX8_choose 42 = .ok (.iconst (-1), 1) := by decide +kernel
theorem dX8_choose_43 : decode cX8_choose 43 = .ok (.putfield 101, 3) := by decide +kernel
theorem dX8_choose_46 : decode cX8_choose 46 = .ok (.aload_n 0, 1) := by decide +kernel
theorem dX8_choose_47 : decode cX8_choose 47 = .ok (.getfield 44, 3) := by decide +kernel
theorem dX8_choose_50 : decode cX8_choose 50 = .ok (.ifCond .ne 4, 3) := by decide +kernel
theorem dX8_choose_53 : decode cX8_choose 53 = .ok (.return_, 1) := by decide +kernel
theorem dX8_choose_54 : decode cX8_choose 54 = .ok (.bipush 31, 2) := by decide +kernel
theorem dX8_choose_56 : decode cX8_choose 56 = .ok (.sipush 999, 3) := by decide +kernel
theorem dX8_choose_59 : decode cX8_choose 59 = .ok (.aload_n 2, 1) := by decide +kernel
theorem dX8_choose_60 : decode cX8_choose 60 = .ok (.getfield 80, 3) := by decide +kernel
theorem dX8_choose_63 : decode cX8_choose 63 = .ok (.isub, 1) := by decide +kernel
theorem dX8_choose_64 : decode cX8_choose 64 = .ok (.invokestatic 104, 3) := by decide +kernel
theorem dX8_choose_67 : decode cX8_choose 67 = .ok (.istore 6, 2) := by decide +kernel
theorem dX8_choose_69 : decode cX8_choose 69 = .ok (.iconst 0, 1) := by decide +kernel
theorem dX8_choose_70 : decode cX8_choose 70 = .ok (.istore 7, 2) := by decide +kernel
theorem dX8_choose_72 : decode cX8_choose 72 = .ok (.iload 7, 2) := by decide +kernel
theorem dX8_choose_74 : decode cX8_choose 74 = .ok (.bipush 100, 2) := by decide +kernel
theorem dX8_choose_76 : decode cX8_choose 76 = .ok (.if_icmp .ge 38, 3) := by decide +kernel
theorem dX8_choose_79 : decode cX8_choose 79 = .ok (.aload_n 0, 1) := by decide +kernel
theorem dX8_choose_80 : decode cX8_choose 80 = .ok (.getfield 15, 3) := by decide +kernel
theorem dX8_choose_83 : decode cX8_choose 83 = .ok (.iload 7, 2) := by decide +kernel
theorem dX8_choose_85 : decode cX8_choose 85 = .ok (.iaload, 1) := by decide +kernel
theorem dX8_choose_86 : decode cX8_choose 86 = .ok (.ifCond .eq 22, 3) := by decide +kernel
theorem dX8_choose_89 : decode cX8_choose 89 = .ok (.aload_n 2, 1) := by decide +kernel
theorem dX8_choose_90 : decode cX8_choose 90 = .ok (.aload_n 3, 1) := by decide +kernel
theorem dX8_choose_91 : decode cX8_choose 91 = .ok (.iload 4, 2) := by decide +kernel
theorem dX8_choose_93 : decode cX8_choose 93 = .ok (.iload 7, 2) := by decide +kernel
theorem dX8_choose_95 : decode cX8_choose 95 = .ok (.invokestatic 57, 3) := by decide +kernel
theorem dX8_choose_98 : decode cX8_choose 98 = .ok (.aload_n 0, 1) := by decide +kernel
theorem dX8_choose_99 : decode cX8_choose 99 = .ok (.aload_n 1, 1) := by decide +kernel
theorem dX8_choose_100 : decode cX8_choose 100 = .ok (.aload_n 3, 1) := by decide +kernel
theorem dX8_choose_101 : decode cX8_choose 101 = .ok (.iload 7, 2) := by decide +kernel
theorem dX8_choose_103 : decode cX8_choose 103 = .ok (.iload 6, 2) := by decide +kernel
theorem dX8_choose_105 : decode cX8_choose 105 = .ok (.invokevirtual 107, 3) := by decide +kernel
theorem dX8_choose_108 : decode cX8_choose 108 = .ok (.iinc 7 1, 3) := by decide +kernel
theorem dX8_choose_111 : decode cX8_choose 111 = .ok (.goto (-39), 3) := by decide +kernel
theorem dX8_choose_114 : decode cX8_choose 114 = .ok (.iconst 0, 1) := by decide +kernel
theorem dX8_choose_115 : decode cX8_choose 115 = .ok (.istore 7, 2) := by decide +kernel
theorem dX8_choose_117 : decode cX8_choose 117 = .ok (.iload 7, 2) := by decide +kernel
theorem dX8_choose_119 : decode cX8_choose 119 = .ok (.iload 6, 2) := by decide +kernel
theorem dX8_choose_121 : decode cX8_choose 121 = .ok (.if_icmp .ge 75, 3) := by decide +kernel
theorem dX8_choose_124 : decode cX8_choose 124 = .ok (.iconst 0, 1) := by decide +kernel
theorem dX8_choose_125 : decode cX8_choose 125 = .ok (.istore 8, 2) := by decide +kernel
theorem dX8_choose_127 : decode cX8_choose 127 = .ok (.iload 8, 2) := by decide +kernel
theorem dX8_choose_129 : decode cX8_choose 129 = .ok (.aload_n 1, 1) := by decide +kernel
theorem dX8_choose_130 : decode cX8_choose 130 = .ok (.getfield 111, 3) := by decide +kernel
theorem dX8_choose_133 : decode cX8_choose 133 = .ok (.getfield 115, 3) := by decide +kernel
theorem dX8_choose_136 : decode cX8_choose 136 = .ok (.if_icmp .ge 54, 3) := by decide +kernel
theorem dX8_choose_139 : decode cX8_choose 139 = .ok (.aload_n 0, 1) := by decide +kernel
theorem dX8_choose_140 : decode cX8_choose 140 = .ok (.iload 7, 2) := by decide +kernel
theorem dX8_choose_142 : decode cX8_choose 142 = .ok (.iload 8, 2) := by decide +kernel
theorem dX8_choose_144 : decode cX8_choose 144 = .ok (.invokevirtual 120, 3) := by decide +kernel
theorem dX8_choose_147 : decode cX8_choose 147 = .ok (.istore 9, 2) := by decide +kernel
theorem dX8_choose_149 : decode cX8_choose 149 = .ok (.aload_n 0, 1) := by decide +kernel
theorem dX8_choose_150 : decode cX8_choose 150 = .ok (.getfield 101, 3) := by decide +kernel
theorem dX8_choose_153 : decode cX8_choose 153 = .ok (.iconst (-1), 1) := by decide +kernel
theorem dX8_choose_154 : decode cX8_choose 154 = .ok (.if_icmp .eq 12, 3) := by decide +kernel
theorem dX8_choose_157 : decode cX8_choose 157 = .ok (.iload 9, 2) := by decide +kernel
theorem dX8_choose_159 : decode cX8_choose 159 = .ok (.aload_n 0, 1) := by decide +kernel
theorem dX8_choose_160 : decode cX8_choose 160 = .ok (.getfield 101, 3) := by decide +kernel
theorem dX8_choose_163 : decode cX8_choose 163 = .ok (.if_icmp .ge 21, 3) := by decide +kernel
theorem dX8_choose_166 : decode cX8_choose 166 = .ok (.aload_n 0, 1) := by decide +kernel
theorem dX8_choose_167 : decode cX8_choose 167 = .ok (.iload 7, 2) := by decide +kernel
theorem dX8_choose_169 : decode cX8_choose 169 = .ok (.putfield 95, 3) := by decide +kernel
theorem dX8_choose_172 : decode cX8_choose 172 = .ok (.aload_n 0, 1) := by decide +kernel
theorem dX8_choose_173 : decode cX8_choose 173 = .ok (.iload 8, 2) := by decide +kernel
theorem dX8_choose_175 : decode cX8_choose 175 = .ok (.putfield 98, 3) := by decide +kernel
theorem dX8_choose_178 : decode cX8_choose 178 = .ok (.aload_n 0, 1) := by decide +kernel
theorem dX8_choose_179 : decode cX8_choose 179 = .ok (.iload 9, 2) := by decide +kernel
theorem dX8_choose_181 : decode cX8_choose 181 = .ok (.putfield 101, 3) := by decide +kernel
theorem dX8_choose_184 : decode cX8_choose 184 = .ok (.iinc 8 1, 3) := by decide +kernel
theorem dX8_choose_187 : decode cX8_choose 187 = .ok (.goto (-60), 3) := by decide +kernel
theorem dX8_choose_190 : decode cX8_choose 190 = .ok (.iinc 7 1, 3) := by decide +kernel
theorem dX8_choose_193 : decode cX8_choose 193 = .ok (.goto (-76), 3) := by decide +kernel
theorem dX8_choose_196 : decode cX8_choose 196 = .ok (.return_, 1) := by decide +kernel
theorem dX8_tasteDays_0 : decode cX8_tasteDays 0 = .ok (.iconst 0, 1) := by decide +kernel
theorem dX8_tasteDays_1 : decode cX8_tasteDays 1 = .ok (.istore 5, 2) := by decide +kernel
theorem dX8_tasteDays_3 : decode cX8_tasteDays 3 = .ok (.iload 5, 2) := by decide +kernel
theorem dX8_tasteDays_5 : decode cX8_tasteDays 5 = .ok (.iload 4, 2) := by decide +kernel
theorem dX8_tasteDays_7 : decode cX8_tasteDays 7 = .ok (.if_icmp .ge 84, 3) := by decide +kernel
theorem dX8_tasteDays_10 : decode cX8_tasteDays 10 = .ok (.iload 5, 2) := by decide +kernel
theorem dX8_tasteDays_12 : decode cX8_tasteDays 12 = .ok (.bipush 31, 2) := by decide +kernel
theorem dX8_tasteDays_14 : decode cX8_tasteDays 14 = .ok (.if_icmp .ge 77, 3) := by decide +kernel
theorem dX8_tasteDays_17 : decode cX8_tasteDays 17 = .ok (.aload_n 1, 1) := by decide +kernel
theorem dX8_tasteDays_18 : decode cX8_tasteDays 18 = .ok (.aload_n 2, 1) := by decide +kernel
theorem dX8_tasteDays_19 : decode cX8_tasteDays 19 = .ok (.iconst 0, 1) := by decide +kernel
theorem dX8_tasteDays_20 : decode cX8_tasteDays 20 = .ok (.iconst 1, 1) := by decide +kernel
theorem dX8_tasteDays_21 : decode cX8_tasteDays 21 = .ok (.invokevirtual 83, 3) := by decide +kernel
theorem dX8_tasteDays_24 : decode cX8_tasteDays 24 = .ok (.lconst 0, 1) := by decide +kernel
theorem dX8_tasteDays_25 : decode cX8_tasteDays 25 = .ok (.lstore 6, 2) := by decide +kernel
theorem dX8_tasteDays_27 : decode cX8_tasteDays 27 = .ok (.iconst 0, 1) := by decide +kernel
theorem dX8_tasteDays_28 : decode cX8_tasteDays 28 = .ok (.istore 8, 2) := by decide +kernel
theorem dX8_tasteDays_30 : decode cX8_tasteDays 30 = .ok (.iload 8, 2) := by decide +kernel
theorem dX8_tasteDays_32 : decode cX8_tasteDays 32 = .ok (.bipush 7, 2) := by decide +kernel
theorem dX8_tasteDays_34 : decode cX8_tasteDays 34 = .ok (.if_icmp .ge 37, 3) := by decide +kernel
theorem dX8_tasteDays_37 : decode cX8_tasteDays 37 = .ok (.aload_n 1, 1) := by decide +kernel
theorem dX8_tasteDays_38 : decode cX8_tasteDays 38 = .ok (.getfield 89, 3) := by decide +kernel
theorem dX8_tasteDays_41 : decode cX8_tasteDays 41 = .ok (.iload 8, 2) := by decide +kernel
theorem dX8_tasteDays_43 : decode cX8_tasteDays 43 = .ok (.iaload, 1) := by decide +kernel
theorem dX8_tasteDays_44 : decode cX8_tasteDays 44 = .ok (.bipush 100, 2) := by decide +kernel
theorem dX8_tasteDays_46 : decode cX8_tasteDays 46 = .ok (.invokestatic 104, 3) := by decide +kernel
theorem dX8_tasteDays_49 : decode cX8_tasteDays 49 = .ok (.i2l, 1) := by decide +kernel
theorem dX8_tasteDays_50 : decode cX8_tasteDays 50 = .ok (.lstore 9, 2) := by decide +kernel
theorem dX8_tasteDays_52 : decode cX8_tasteDays 52 = .ok (.lload 6, 2) := by decide +kernel
theorem dX8_tasteDays_54 : decode cX8_tasteDays 54 = .ok (.lload 9, 2) := by decide +kernel
theorem dX8_tasteDays_56 : decode cX8_tasteDays 56 = .ok (.bipush 7, 2) := by decide +kernel
theorem dX8_tasteDays_58 : decode cX8_tasteDays 58 = .ok (.iload 8, 2) := by decide +kernel
theorem dX8_tasteDays_60 : decode cX8_tasteDays 60 = .ok (.imul, 1) := by decide +kernel
theorem dX8_tasteDays_61 : decode cX8_tasteDays 61 = .ok (.lshl, 1) := by decide +kernel
theorem dX8_tasteDays_62 : decode cX8_tasteDays 62 = .ok (.lor, 1) := by decide +kernel
theorem dX8_tasteDays_63 : decode cX8_tasteDays 63 = .ok (.lstore 6, 2) := by decide +kernel
theorem dX8_tasteDays_65 : decode cX8_tasteDays 65 = .ok (.iinc 8 1, 3) := by decide +kernel
theorem dX8_tasteDays_68 : decode cX8_tasteDays 68 = .ok (.goto (-38), 3) := by decide +kernel
theorem dX8_tasteDays_71 : decode cX8_tasteDays 71 = .ok (.aload_n 0, 1) := by decide +kernel
theorem dX8_tasteDays_72 : decode cX8_tasteDays 72 = .ok (.getfield 18, 3) := by decide +kernel
theorem dX8_tasteDays_75 : decode cX8_tasteDays 75 = .ok (.iload_n 3, 1) := by decide +kernel
theorem dX8_tasteDays_76 : decode cX8_tasteDays 76 = .ok (.bipush 31, 2) := by decide +kernel
theorem dX8_tasteDays_78 : decode cX8_tasteDays 78 = .ok (.imul, 1) := by decide +kernel
theorem dX8_tasteDays_79 : decode cX8_tasteDays 79 = .ok (.iload 5, 2) := by decide +kernel
theorem dX8_tasteDays_81 : decode cX8_tasteDays 81 = .ok (.iadd, 1) := by decide +kernel
theorem dX8_tasteDays_82 : decode cX8_tasteDays 82 = .ok (.lload 6, 2) := by decide +kernel
theorem dX8_tasteDays_84 : decode cX8_tasteDays 84 = .ok (.lastore, 1) := by decide +kernel
theorem dX8_tasteDays_85 : decode cX8_tasteDays 85 = .ok (.iinc 5 1, 3) := by decide +kernel
theorem dX8_tasteDays_88 : decode cX8_tasteDays 88 = .ok (.goto (-85), 3) := by decide +kernel
theorem dX8_tasteDays_91 : decode cX8_tasteDays 91 = .ok (.return_, 1) := by decide +kernel
theorem dX8_mostAlike_0 : decode cX8_mostAlike 0 = .ok (.aload_n 0, 1) := by decide +kernel
theorem dX8_mostAlike_1 : decode cX8_mostAlike 1 = .ok (.getfield 22, 3) := by decide +kernel
theorem dX8_mostAlike_4 : decode cX8_mostAlike 4 = .ok (.iconst 0, 1) := by decide +kernel
theorem dX8_mostAlike_5 : decode cX8_mostAlike 5 = .ok (.invokestatic 123, 3) := by decide +kernel
theorem dX8_mostAlike_8 : decode cX8_mostAlike 8 = .ok (.iconst 0, 1) := by decide +kernel
theorem dX8_mostAlike_9 : decode cX8_mostAlike 9 = .ok (.istore_n 3, 1) := by decide +kernel
theorem dX8_mostAlike_10 : decode cX8_mostAlike 10 = .ok (.iconst 0, 1) := by decide +kernel
theorem dX8_mostAlike_11 : decode cX8_mostAlike 11 = .ok (.istore 4, 2) := by decide +kernel
theorem dX8_mostAlike_13 : decode cX8_mostAlike 13 = .ok (.iload 4, 2) := by decide +kernel
theorem dX8_mostAlike_15 : decode cX8_mostAlike 15 = .ok (.bipush 100, 2) := by decide +kernel
theorem dX8_mostAlike_17 : decode cX8_mostAlike 17 = .ok (.if_icmp .ge 76, 3) := by decide +kernel
theorem dX8_mostAlike_20 : decode cX8_mostAlike 20 = .ok (.iload_n 1, 1) := by decide +kernel
theorem dX8_mostAlike_21 : decode cX8_mostAlike 21 = .ok (.ifCond .lt 72, 3) := by decide +kernel
theorem dX8_mostAlike_24 : decode cX8_mostAlike 24 = .ok (.iload_n 1, 1) := by decide +kernel
theorem dX8_mostAlike_25 : decode cX8_mostAlike 25 = .ok (.bipush 31, 2) := by decide +kernel
theorem dX8_mostAlike_27 : decode cX8_mostAlike 27 = .ok (.if_icmp .ge 66, 3) := by decide +kernel
theorem dX8_mostAlike_30 : decode cX8_mostAlike 30 = .ok (.aload_n 0, 1) := by decide +kernel
theorem dX8_mostAlike_31 : decode cX8_mostAlike 31 = .ok (.getfield 15, 3) := by decide +kernel
theorem dX8_mostAlike_34 : decode cX8_mostAlike 34 = .ok (.iload 4, 2) := by decide +kernel
theorem dX8_mostAlike_36 : decode cX8_mostAlike 36 = .ok (.iaload, 1) := by decide +kernel
theorem dX8_mostAlike_37 : decode cX8_mostAlike 37 = .ok (.ifCond .eq 50, 3) := by decide +kernel
theorem dX8_mostAlike_40 : decode cX8_mostAlike 40 = .ok (.aload_n 0, 1) := by decide +kernel
theorem dX8_mostAlike_41 : decode cX8_mostAlike 41 = .ok (.getfield 18, 3) := by decide +kernel
theorem dX8_mostAlike_44 : decode cX8_mostAlike 44 = .ok (.iload 4, 2) := by decide +kernel
theorem dX8_mostAlike_46 : decode cX8_mostAlike 46 = .ok (.bipush 31, 2) := by decide +kernel
theorem dX8_mostAlike_48 : decode cX8_mostAlike 48 = .ok (.imul, 1) := by decide +kernel
theorem dX8_mostAlike_49 : decode cX8_mostAlike 49 = .ok (.iload_n 1, 1) := by decide +kernel
theorem dX8_mostAlike_50 : decode cX8_mostAlike 50 = .ok (.iadd, 1) := by decide +kernel
theorem dX8_mostAlike_51 : decode cX8_mostAlike 51 = .ok (.laload, 1) := by decide +kernel
theorem dX8_mostAlike_52 : decode cX8_mostAlike 52 = .ok (.bipush 7, 2) := by decide +kernel
theorem dX8_mostAlike_54 : decode cX8_mostAlike 54 = .ok (.iload_n 2, 1) := by decide +kernel
theorem dX8_mostAlike_55 : decode cX8_mostAlike 55 = .ok (.imul, 1) := by decide +kernel
theorem dX8_mostAlike_56 : decode cX8_mostAlike 56 = .ok (.lshr, 1) := by decide +kernel
theorem dX8_mostAlike_57 : decode cX8_mostAlike 57 = .ok (.ldc2_w 129, 3) := by decide +kernel
theorem dX8_mostAlike_60 : decode cX8_mostAlike 60 = .ok (.land, 1) := by decide +kernel
theorem dX8_mostAlike_61 : decode cX8_mostAlike 61 = .ok (.l2i, 1) := by decide +kernel
theorem dX8_mostAlike_62 : decode cX8_mostAlike 62 = .ok (.istore 5, 2) := by decide +kernel
theorem dX8_mostAlike_64 : decode cX8_mostAlike 64 = .ok (.aload_n 0, 1) := by decide +kernel
theorem dX8_mostAlike_65 : decode cX8_mostAlike 65 = .ok (.getfield 22, 3) := by decide +kernel
theorem dX8_mostAlike_68 : decode cX8_mostAlike 68 = .ok (.iload 5, 2) := by decide +kernel
theorem dX8_mostAlike_70 : decode cX8_mostAlike 70 = .ok (.dup2, 1) := by decide +kernel
theorem dX8_mostAlike_71 : decode cX8_mostAlike 71 = .ok (.iaload, 1) := by decide +kernel
theorem dX8_mostAlike_72 : decode cX8_mostAlike 72 = .ok (.iconst 1, 1) := by decide +kernel
theorem dX8_mostAlike_73 : decode cX8_mostAlike 73 = .ok (.iadd, 1) := by decide +kernel
theorem dX8_mostAlike_74 : decode cX8_mostAlike 74 = .ok (.iastore, 1) := by decide +kernel
theorem dX8_mostAlike_75 : decode cX8_mostAlike 75 = .ok (.iload_n 3, 1) := by decide +kernel
theorem dX8_mostAlike_76 : decode cX8_mostAlike 76 = .ok (.aload_n 0, 1) := by decide +kernel
theorem dX8_mostAlike_77 : decode cX8_mostAlike 77 = .ok (.getfield 22, 3) := by decide +kernel
theorem dX8_mostAlike_80 : decode cX8_mostAlike 80 = .ok (.iload 5, 2) := by decide +kernel
theorem dX8_mostAlike_82 : decode cX8_mostAlike 82 = .ok (.iaload, 1) := by decide +kernel
theorem dX8_mostAlike_83 : decode cX8_mostAlike 83 = .ok (.invokestatic 65, 3) := by decide +kernel
theorem dX8_mostAlike_86 : decode cX8_mostAlike 86 = .ok (.istore_n 3, 1) := by decide +kernel
theorem dX8_mostAlike_87 : decode cX8_mostAlike 87 = .ok (.iinc 4 1, 3) := by decide +kernel
theorem dX8_mostAlike_90 : decode cX8_mostAlike 90 = .ok (.goto (-77), 3) := by decide +kernel
theorem dX8_mostAlike_93 : decode cX8_mostAlike 93 = .ok (.iload_n 3, 1) := by decide +kernel
theorem dX8_mostAlike_94 : decode cX8_mostAlike 94 = .ok (.ireturn, 1) := by decide +kernel
theorem dX9_init_0 : decode cX9_init 0 = .ok (.aload_n 0, 1) := by decide +kernel
theorem dX9_init_1 : decode cX9_init 1 = .ok (.invokespecial 3, 3) := by decide +kernel
theorem dX9_init_4 : decode cX9_init 4 = .ok (.aload_n 0, 1) := by decide +kernel
theorem dX9_init_5 : decode cX9_init 5 = .ok (.bipush 7, 2) := by decide +kernel
theorem dX9_init_7 : decode cX9_init 7 = .ok (.newarray .int, 2) := by decide +kernel
theorem dX9_init_9 : decode cX9_init 9 = .ok (.putfield 9, 3) := by decide +kernel
theorem dX9_init_12 : decode cX9_init 12 = .ok (.aload_n 0, 1) := by decide +kernel
theorem dX9_init_13 : decode cX9_init 13 = .ok (.bipush 7, 2) := by decide +kernel
theorem dX9_init_15 : decode cX9_init 15 = .ok (.newarray .int, 2) := by decide +kernel
theorem dX9_init_17 : decode cX9_init 17 = .ok (.putfield 15, 3) := by decide +kernel
theorem dX9_init_20 : decode cX9_init 20 = .ok (.aload_n 0, 1) := by decide +kernel
theorem dX9_init_21 : decode cX9_init 21 = .ok (.bipush 64, 2) := by decide +kernel
theorem dX9_init_23 : decode cX9_init 23 = .ok (.newarray .int, 2) := by decide +kernel
theorem dX9_init_25 : decode cX9_init 25 = .ok (.putfield 18, 3) := by decide +kernel
theorem dX9_init_28 : decode cX9_init 28 = .ok (.aload_n 0, 1) := by decide +kernel
theorem dX9_init_29 : decode cX9_init 29 = .ok (.bipush 40, 2) := by decide +kernel
theorem dX9_init_31 : decode cX9_init 31 = .ok (.newarray .int, 2) := by decide +kernel
theorem dX9_init_33 : decode cX9_init 33 = .ok (.putfield 21, 3) := by decide +kernel
theorem dX9_init_36 : decode cX9_init 36 = .ok (.return_, 1) := by decide +kernel
theorem dX9_begin_0 : decode cX9_begin 0 = .ok (.aload_n 0, 1) := by decide +kernel
theorem dX9_begin_1 : decode cX9_begin 1 = .ok (.iconst 0, 1) := by decide +kernel
theorem dX9_begin_2 : decode cX9_begin 2 = .ok (.putfield 24, 3) := by decide +kernel
theorem dX9_begin_5 : decode cX9_begin 5 = .ok (.aload_n 0, 1) := by decide +kernel
theorem dX9_begin_6 : decode cX9_begin 6 = .ok (.iconst 1, 1) := by decide +kernel
theorem dX9_begin_7 : decode cX9_begin 7 = .ok (.aload_n 1, 1) := by decide +kernel
theorem dX9_begin_8 : decode cX9_begin 8 = .ok (.getfield 28, 3) := by decide +kernel
theorem dX9_begin_11 : decode cX9_begin 11 = .ok (.ishl, 1) := by decide +kernel
theorem dX9_begin_12 : decode cX9_begin 12 = .ok (.iconst 1, 1) := by decide +kernel
theorem dX9_begin_13 : decode cX9_begin 13 = .ok (.isub, 1) := by decide +kernel
theorem dX9_begin_14 : decode cX9_begin 14 = .ok (.putfield 33, 3) := by decide +kernel
theorem dX9_begin_17 : decode cX9_begin 17 = .ok (.aload_n 0, 1) := by decide +kernel
theorem dX9_begin_18 : decode cX9_begin 18 = .ok (.iconst 0, 1) := by decide +kernel
theorem dX9_begin_19 : decode cX9_begin 19 = .ok (.putfield 36, 3) := by decide +kernel
theorem dX9_begin_22 : decode cX9_begin 22 = .ok (.aload_n 1, 1) := by decide +kernel
theorem dX9_begin_23 : decode cX9_begin 23 = .ok (.getfield 39, 3) := by decide +kernel
theorem dX9_begin_26 : decode cX9_begin 26 = .ok (.iconst 0, 1) := by decide +kernel
theorem dX9_begin_27 : decode cX9_begin 27 = .ok (.aload_n 0, 1) := by decide +kernel
theorem dX9_begin_28 : decode cX9_begin 28 = .ok (.getfield 9, 3) := by decide +kernel
theorem dX9_begin_31 : decode cX9_begin 31 = .ok (.iconst 0, 1) := by decide +kernel
theorem dX9_begin_32 : decode cX9_begin 32 = .ok (.bipush 7, 2) := by decide +kernel
theorem dX9_begin_34 : decode cX9_begin 34 = .ok (.invokestatic 40, 3) := by decide +kernel
theorem dX9_begin_37 : decode cX9_begin 37 = .ok (.aload_n 1, 1) := by decide +kernel
theorem dX9_begin_38 : decode cX9_begin 38 = .ok (.getfield 46, 3) := by decide +kernel
theorem dX9_begin_41 : decode cX9_begin 41 = .ok (.iconst 0, 1) := by decide +kernel
theorem dX9_begin_42 : decode cX9_begin 42 = .ok (.aload_n 0, 1) := by decide +kernel
theorem dX9_begin_43 : decode cX9_begin 43 = .ok (.getfield 18, 3) := by decide +kernel
theorem dX9_begin_46 : decode cX9_begin 46 = .ok (.iconst 0, 1) := by decide +kernel
theorem dX9_begin_47 : decode cX9_begin 47 = .ok (.bipush 64, 2) := by decide +kernel
theorem dX9_begin_49 : decode cX9_begin 49 = .ok (.invokestatic 40, 3) := by decide +kernel
theorem dX9_begin_52 : decode cX9_begin 52 = .ok (.aload_n 0, 1) := by decide +kernel
theorem dX9_begin_53 : decode cX9_begin 53 = .ok (.getfield 15, 3) := by decide +kernel
theorem dX9_begin_56 : decode cX9_begin 56 = .ok (.iconst 0, 1) := by decide +kernel
theorem dX9_begin_57 : decode cX9_begin 57 = .ok (.invokestatic 47, 3) := by decide +kernel
theorem dX9_begin_60 : decode cX9_begin 60 = .ok (.return_, 1) := by decide +kernel
theorem dX9_copyFrom_0 : decode cX9_copyFrom 0 = .ok (.aload_n 0, 1) := by decide +kernel
theorem dX9_copyFrom_1 : decode cX9_copyFrom 1 = .ok (.aload_n 1, 1) := by decide +kernel
theorem dX9_copyFrom_2 : decode cX9_copyFrom 2 = .ok (.getfield 24, 3) := by decide +kernel
theorem dX9_copyFrom_5 : decode cX9_copyFrom 5 = .ok (.putfield 24, 3) := by decide +kernel
theorem dX9_copyFrom_8 : decode cX9_copyFrom 8 = .ok (.aload_n 0, 1) := by decide +kernel
theorem dX9_copyFrom_9 : decode cX9_copyFrom 9 = .ok (.aload_n 1, 1) := by decide +kernel
theorem dX9_copyFrom_10 : decode cX9_copyFrom 10 = .ok (.getfield 33, 3) := by decide +kernel
theorem dX9_copyFrom_13 : decode cX9_copyFrom 13 = .ok (.putfield 33, 3) := by decide +kernel
theorem dX9_copyFrom_16 : decode cX9_copyFrom 16 = .ok (.aload_n 0, 1) := by decide +kernel
theorem dX9_copyFrom_17 : decode cX9_copyFrom 17 = .ok (.aload_n 1, 1) := by decide +kernel
theorem dX9_copyFrom_18 : decode cX9_copyFrom 18 = .ok (.getfield 36, 3) := by decide +kernel
theorem dX9_copyFrom_21 : decode cX9_copyFrom 21 = .ok (.putfield 36, 3) := by decide +kernel
theorem dX9_copyFrom_24 : decode cX9_copyFrom 24 = .ok (.aload_n 1, 1) := by decide +kernel
theorem dX9_copyFrom_25 : decode cX9_copyFrom 25 = .ok (.getfield 9, 3) := by decide +kernel
theorem dX9_copyFrom_28 : decode cX9_copyFrom 28 = .ok (.iconst 0, 1) := by decide +kernel
theorem dX9_copyFrom_29 : decode cX9_copyFrom 29 = .ok (.aload_n 0, 1) := by decide +kernel
theorem dX9_copyFrom_30 : decode cX9_copyFrom 30 = .ok (.getfield 9, 3) := by decide +kernel
theorem dX9_copyFrom_33 : decode cX9_copyFrom 33 = .ok (.iconst 0, 1) := by decide +kernel
theorem dX9_copyFrom_34 : decode cX9_copyFrom 34 = .ok (.bipush 7, 2) := by decide +kernel
theorem dX9_copyFrom_36 : decode cX9_copyFrom 36 = .ok (.invokestatic 40, 3) := by decide +kernel
theorem dX9_copyFrom_39 : decode cX9_copyFrom 39 = .ok (.aload_n 1, 1) := by decide +kernel
theorem dX9_copyFrom_40 : decode cX9_copyFrom 40 = .ok (.getfield 15, 3) := by decide +kernel
theorem dX9_copyFrom_43 : decode cX9_copyFrom 43 = .ok (.iconst 0, 1) := by decide +kernel
theorem dX9_copyFrom_44 : decode cX9_copyFrom 44 = .ok (.aload_n 0, 1) := by decide +kernel
theorem dX9_copyFrom_45 : decode cX9_copyFrom 45 = .ok (.getfield 15, 3) := by decide +kernel
theorem dX9_copyFrom_48 : decode cX9_copyFrom 48 = .ok (.iconst 0, 1) := by decide +kernel
theorem dX9_copyFrom_49 : decode cX9_copyFrom 49 = .ok (.bipush 7, 2) := by decide +kernel
theorem dX9_copyFrom_51 : decode cX9_copyFrom 51 = .ok (.invokestatic 40, 3) := by decide +kernel
theorem dX9_copyFrom_54 : decode cX9_copyFrom 54 = .ok (.aload_n 1, 1) := by decide +kernel
theorem dX9_copyFrom_55 : decode cX9_copyFrom 55 = .ok (.getfield 18, 3) := by decide +kernel
theorem dX9_copyFrom_58 : decode cX9_copyFrom 58 = .ok (.iconst 0, 1) := by decide +kernel
theorem dX9_copyFrom_59 : decode cX9_copyFrom 59 = .ok (.aload_n 0, 1) := by decide +kernel
theorem dX9_copyFrom_60 : decode cX9_copyFrom 60 = .ok (.getfield 18, 3) := by decide +kernel
theorem dX9_copyFrom_63 : decode cX9_copyFrom 63 = .ok (.iconst 0, 1) := by decide +kernel
theorem dX9_copyFrom_64 : decode cX9_copyFrom 64 = .ok (.bipush 64, 2) := by decide +kernel
theorem dX9_copyFrom_66 : decode cX9_copyFrom 66 = .ok (.invokestatic 40, 3) := by decide +kernel
theorem dX9_copyFrom_69 : decode cX9_copyFrom 69 = .ok (.aload_n 1, 1) := by decide +kernel
theorem dX9_copyFrom_70 : decode cX9_copyFrom 70 = .ok (.getfield 21, 3) := by decide +kernel
theorem dX9_copyFrom_73 : decode cX9_copyFrom 73 = .ok (.iconst 0, 1) := by decide +kernel
theorem dX9_copyFrom_74 : decode cX9_copyFrom 74 = .ok (.aload_n 0, 1) := by decide +kernel
theorem dX9_copyFrom_75 : decode cX9_copyFrom 75 = .ok (.getfield 21, 3) := by decide +kernel
theorem dX9_copyFrom_78 : decode cX9_copyFrom 78 = .ok (.iconst 0, 1) := by decide +kernel
theorem dX9_copyFrom_79 : decode cX9_copyFrom 79 = .ok (.bipush 40, 2) := by decide +kernel
theorem dX9_copyFrom_81 : decode cX9_copyFrom 81 = .ok (.invokestatic 40, 3) := by decide +kernel
theorem dX9_copyFrom_84 : decode cX9_copyFrom 84 = .ok (.return_, 1) := by decide +kernel
theorem dX9_isThere_0 : decode cX9_isThere 0 = .ok (.iload_n 1, 1) := by decide +kernel
theorem dX9_isThere_1 : decode cX9_isThere 1 = .ok (.ifCond .lt 24, 3) := by decide +kernel
theorem dX9_isThere_4 : decode cX9_isThere 4 = .ok (.iload_n 1, 1) := by decide +kernel
theorem dX9_isThere_5 : decode cX9_isThere 5 = .ok (.bipush 7, 2) := by decide +kernel
theorem dX9_isThere_7 : decode cX9_isThere 7 = .ok (.if_icmp .ge 18, 3) := by decide +kernel
theorem dX9_isThere_10 : decode cX9_isThere 10 = .ok (.aload_n 0, 1) := by decide +kernel
theorem dX9_isThere_11 : decode cX9_isThere 11 = .ok (.getfield 33, 3) := by decide +kernel
theorem dX9_isThere_14 : decode cX9_isThere 14 = .ok (.iload_n 1, 1) := by decide +kernel
theorem dX9_isThere_15 : decode cX9_isThere 15 = .ok (.ishr, 1) := by decide +kernel
theorem dX9_isThere_16 : decode cX9_isThere 16 = .ok (.iconst 1, 1) := by decide +kernel
theorem dX9_isThere_17 : decode cX9_isThere 17 = .ok (.iand, 1) := by decide +kernel
theorem dX9_isThere_18 : decode cX9_isThere 18 = .ok (.ifCond .eq 7, 3) := by decide +kernel
theorem dX9_isThere_21 : decode cX9_isThere 21 = .ok (.iconst 1, 1) := by decide +kernel
theorem dX9_isThere_22 : decode cX9_isThere 22 = .ok (.goto 4, 3) := by decide +kernel
theorem dX9_isThere_25 : decode cX9_isThere 25 = .ok (.iconst 0, 1) := by decide +kernel
theorem dX9_isThere_26 : decode cX9_isThere 26 = .ok (.ireturn, 1) := by decide +kernel
theorem dX9_setHate_0 : decode cX9_setHate 0 = .ok (.iload_n 1, 1) := by decide +kernel
theorem dX9_setHate_1 : decode cX9_setHate 1 = .ok (.ifCond .lt 43, 3) := by decide +kernel
theorem dX9_setHate_4 : decode cX9_setHate 4 = .ok (.iload_n 1, 1) := by decide +kernel
theorem dX9_setHate_5 : decode cX9_setHate 5 = .ok (.bipush 7, 2) := by decide +kernel
theorem dX9_setHate_7 : decode cX9_setHate 7 = .ok (.if_icmp .ge 37, 3) := by decide +kernel
theorem dX9_setHate_10 : decode cX9_setHate 10 = .ok (.iload_n 2, 1) := by decide +kernel
theorem dX9_setHate_11 : decode cX9_setHate 11 = .ok (.ifCond .lt 33, 3) := by decide +kernel
theorem dX9_setHate_14 : decode cX9_setHate 14 = .ok (.iload_n 2, 1) := by decide +kernel
theorem dX9_setHate_15 : decode cX9_setHate 15 = .ok (.bipush 7, 2) := by decide +kernel
theorem dX9_setHate_17 : decode cX9_setHate 17 = .ok (.if_icmp .ge 27, 3) := by decide +kernel
theorem dX9_setHate_20 : decode cX9_setHate 20 = .ok (.aload_n 0, 1) := by decide +kernel
theorem dX9_setHate_21 : decode cX9_setHate 21 = .ok (.getfield 18, 3) := by decide +kernel
theorem dX9_setHate_24 : decode cX9_setHate 24 = .ok (.bipush 8, 2) := by decide +kernel
theorem dX9_setHate_26 : decode cX9_setHate 26 = .ok (.iload_n 1, 1) := by decide +kernel
theorem dX9_setHate_27 : decode cX9_setHate 27 = .ok (.imul, 1) := by decide +kernel
theorem dX9_setHate_28 : decode cX9_setHate 28 = .ok (.iload_n 2, 1) := by decide +kernel
theorem dX9_setHate_29 : decode cX9_setHate 29 = .ok (.iadd, 1) := by decide +kernel
theorem dX9_setHate_30 : decode cX9_setHate 30 = .ok (.iload_n 3, 1) := by decide +kernel
theorem dX9_setHate_31 : decode cX9_setHate 31 = .ok (.iastore, 1) := by decide +kernel
theorem dX9_setHate_32 : decode cX9_setHate 32 = .ok (.aload_n 0, 1) := by decide +kernel
theorem dX9_setHate_33 : decode cX9_setHate 33 = .ok (.getfield 18, 3) := by decide +kernel
theorem dX9_setHate_36 : decode cX9_setHate 36 = .ok (.bipush 8, 2) := by decide +kernel
theorem dX9_setHate_38 : decode cX9_setHate 38 = .ok (.iload_n 2, 1) := by decide +kernel
theorem dX9_setHate_39 : decode cX9_setHate 39 = .ok (.imul, 1) := by decide +kernel
theorem dX9_setHate_40 : decode cX9_setHate 40 = .ok (.iload_n 1, 1) := by decide +kernel
theorem dX9_setHate_41 : decode cX9_setHate 41 = .ok (.iadd, 1) := by decide +kernel
theorem dX9_setHate_42 : decode cX9_setHate 42 = .ok (.iload_n 3, 1) := by decide +kernel
theorem dX9_setHate_43 : decode cX9_setHate 43 = .ok (.iastore, 1) := by decide +kernel
theorem dX9_setHate_44 : decode cX9_setHate 44 = .ok (.return_, 1) := by decide +kernel
theorem dX9_bury_0 : decode cX9_bury 0 = .ok (.aload_n 0, 1) := by decide +kernel
theorem dX9_bury_1 : decode cX9_bury 1 = .ok (.dup, 1) := by decide +kernel
theorem dX9_bury_2 : decode cX9_bury 2 = .ok (.getfield 33, 3) := by decide +kernel
theorem dX9_bury_5 : decode cX9_bury 5 = .ok (.iconst 1, 1) := by decide +kernel
theorem dX9_bury_6 : decode cX9_bury 6 = .ok (.iload_n 1, 1) := by decide +kernel
theorem dX9_bury_7 : decode cX9_bury 7 = .ok (.ishl, 1) := by decide +kernel
theorem dX9_bury_8 : decode cX9_bury 8 = .ok (.iconst (-1), 1) := by decide +kernel
theorem dX9_bury_9 : decode cX9_bury 9 = .ok (.ixor, 1) := by decide +kernel
theorem dX9_bury_10 : decode cX9_bury 10 = .ok (.iand, 1) := by decide +kernel
theorem dX9_bury_11 : decode cX9_bury 11 = .ok (.putfield 33, 3) := by decide +kernel
theorem dX9_bury_14 : decode cX9_bury 14 = .ok (.iconst 0, 1) := by decide +kernel
theorem dX9_bury_15 : decode cX9_bury 15 = .ok (.istore_n 2, 1) := by decide +kernel
theorem dX9_bury_16 : decode cX9_bury 16 = .ok (.iload_n 2, 1) := by decide +kernel
theorem dX9_bury_17 : decode cX9_bury 17 = .ok (.bipush 7, 2) := by decide +kernel
theorem dX9_bury_19 : decode cX9_bury 19 = .ok (.if_icmp .ge 16, 3) := by decide +kernel
theorem dX9_bury_22 : decode cX9_bury 22 = .ok (.aload_n 0, 1) := by decide +kernel
theorem dX9_bury_23 : decode cX9_bury 23 = .ok (.iload_n 1, 1) := by decide +kernel
theorem dX9_bury_24 : decode cX9_bury 24 = .ok (.iload_n 2, 1) := by decide +kernel
theorem dX9_bury_25 : decode cX9_bury 25 = .ok (.iconst 0, 1) := by decide +kernel
theorem dX9_bury_26 : decode cX9_bury 26 = .ok (.invokevirtual 53, 3) := by decide +kernel
theorem dX9_bury_29 : decode cX9_bury 29 = .ok (.iinc 2 1, 3) := by decide +kernel
theorem dX9_bury_32 : decode cX9_bury 32 = .ok (.goto (-16), 3) := by decide +kernel
theorem dX9_bury_35 : decode cX9_bury 35 = .ok (.return_, 1) := by decide +kernel
theorem dX9_countEnemies_0 : decode cX9_countEnemies 0 = .ok (.iconst 0, 1) := by decide +kernel
theorem dX9_countEnemies_1 : decode cX9_countEnemies 1 = .ok (.istore_n 2, 1) := by decide +kernel
theorem dX9_countEnemies_2 : decode cX9_countEnemies 2 = .ok (.iconst 0, 1) := by decide +kernel
theorem dX9_countEnemies_3 : decode cX9_countEnemies 3 = .ok (.istore_n 3, 1) := by decide +kernel
theorem dX9_countEnemies_4 : decode cX9_countEnemies 4 = .ok (.iload_n 3, 1) := by decide +kernel
theorem dX9_countEnemies_5 : decode cX9_countEnemies 5 = .ok (.bipush 7, 2) := by decide +kernel
theorem dX9_countEnemies_7 : decode cX9_countEnemies 7 = .ok (.if_icmp .ge 36, 3) := by decide +kernel
theorem dX9_countEnemies_10 : decode cX9_countEnemies 10 = .ok (.iload_n 1, 1) := by decide +kernel
theorem dX9_countEnemies_11 : decode cX9_countEnemies 11 = .ok (.ifCond .lt 32, 3) := by decide +kernel
theorem dX9_countEnemies_14 : decode cX9_countEnemies 14 = .ok (.iload_n 1, 1) := by decide +kernel
theorem dX9_countEnemies_15 : decode cX9_countEnemies 15 = .ok (.bipush 7, 2) := by decide +kernel
theorem dX9_countEnemies_17 : decode cX9_countEnemies 17 = .ok (.if_icmp .ge 26, 3) := by decide +kernel
theorem dX9_countEnemies_20 : decode cX9_countEnemies 20 = .ok (.aload_n 0, 1) := by decide +kernel
theorem dX9_countEnemies_21 : decode cX9_countEnemies 21 = .ok (.getfield 18, 3) := by decide +kernel
theorem dX9_countEnemies_24 : decode cX9_countEnemies 24 = .ok (.bipush 8, 2) := by decide +kernel
theorem dX9_countEnemies_26 : decode cX9_countEnemies 26 = .ok (.iload_n 1, 1) := by decide +kernel
theorem dX9_countEnemies_27 : decode cX9_countEnemies 27 = .ok (.imul, 1) := by decide +kernel
theorem dX9_countEnemies_28 : decode cX9_countEnemies 28 = .ok (.iload_n 3, 1) := by decide +kernel
theorem dX9_countEnemies_29 : decode cX9_countEnemies 29 = .ok (.iadd, 1) := by decide +kernel
theorem dX9_countEnemies_30 : decode cX9_countEnemies 30 = .ok (.iaload, 1) := by decide +kernel
theorem dX9_countEnemies_31 : decode cX9_countEnemies 31 = .ok (.ifCond .le 6, 3) := by decide +kernel
theorem dX9_countEnemies_34 : decode cX9_countEnemies 34 = .ok (.iinc 2 1, 3) := by decide +kernel
theorem dX9_countEnemies_37 : decode cX9_countEnemies 37 = .ok (.iinc 3 1, 3) := by decide +kernel
theorem dX9_countEnemies_40 : decode cX9_countEnemies 40 = .ok (.goto (-36), 3) := by decide +kernel
theorem dX9_countEnemies_43 : decode cX9_countEnemies 43 = .ok (.iload_n 2, 1) := by decide +kernel
theorem dX9_countEnemies_44 : decode cX9_countEnemies 44 = .ok (.ireturn, 1) := by decide +kernel
theorem dX9_countFeuds_0 : decode cX9_countFeuds 0 = .ok (.iconst 0, 1) := by decide +kernel
theorem dX9_countFeuds_1 : decode cX9_countFeuds 1 = .ok (.istore_n 1, 1) := by decide +kernel
theorem dX9_countFeuds_2 : decode cX9_countFeuds 2 = .ok (.iconst 0, 1) := by decide +kernel
theorem dX9_countFeuds_3 : decode cX9_countFeuds 3 = .ok (.istore_n 2, 1) := by decide +kernel
theorem dX9_countFeuds_4 : decode cX9_countFeuds 4 = .ok (.iload_n 2, 1) := by decide +kernel
theorem dX9_countFeuds_5 : decode cX9_countFeuds 5 = .ok (.bipush 7, 2) := by decide +kernel
theorem dX9_countFeuds_7 : decode cX9_countFeuds 7 = .ok (.if_icmp .ge 17, 3) := by decide +kernel
theorem dX9_countFeuds_10 : decode cX9_countFeuds 10 = .ok (.iload_n 1, 1) := by decide +kernel
theorem dX9_countFeuds_11 : decode cX9_countFeuds 11 = .ok (.aload_n 0, 1) := by decide +kernel
theorem dX9_countFeuds_12 : decode cX9_countFeuds 12 = .ok (.iload_n 2, 1) := by decide +kernel
theorem dX9_countFeuds_13 : decode cX9_countFeuds 13 = .ok (.invokevirtual 57, 3) := by decide +kernel
theorem dX9_countFeuds_16 : decode cX9_countFeuds 16 = .ok (.iadd, 1) := by decide +kernel
theorem dX9_countFeuds_17 : decode cX9_countFeuds 17 = .ok (.istore_n 1, 1) := by decide +kernel
theorem dX9_countFeuds_18 : decode cX9_countFeuds 18 = .ok (.iinc 2 1, 3) := by decide +kernel
theorem dX9_countFeuds_21 : decode cX9_countFeuds 21 = .ok (.goto (-17), 3) := by decide +kernel
theorem dX9_countFeuds_24 : decode cX9_countFeuds 24 = .ok (.iload_n 1, 1) := by decide +kernel
theorem dX9_countFeuds_25 : decode cX9_countFeuds 25 = .ok (.iconst 2, 1) := by decide +kernel
theorem dX9_countFeuds_26 : decode cX9_countFeuds 26 = .ok (.idiv, 1) := by decide +kernel
theorem dX9_countFeuds_27 : decode cX9_countFeuds 27 = .ok (.ireturn, 1) := by decide +kernel
theorem dX9_flourTogether_0 : decode cX9_flourTogether 0 = .ok (.iconst 0, 1) := by decide +kernel
theorem dX9_flourTogether_1 : decode cX9_flourTogether 1 = .ok (.istore_n 1, 1) := by decide +kernel
theorem dX9_flourTogether_2 : decode cX9_flourTogether 2 = .ok (.iconst 0, 1) := by decide +kernel
theorem dX9_flourTogether_3 : decode cX9_flourTogether 3 = .ok (.istore_n 2, 1) := by decide +kernel
theorem dX9_flourTogether_4 : decode cX9_flourTogether 4 = .ok (.iload_n 2, 1) := by decide +kernel
theorem dX9_flourTogether_5 : decode cX9_flourTogether 5 = .ok (.bipush 7, 2) := by decide +kernel
theorem dX9_flourTogether_7 : decode cX9_flourTogether 7 = .ok (.if_icmp .ge 26, 3) := by decide +kernel
theorem dX9_flourTogether_10 : decode cX9_flourTogether 10 = .ok (.aload_n 0, 1) := by decide +kernel
theorem dX9_flourTogether_11 : decode cX9_flourTogether 11 = .ok (.iload_n 2, 1) := by decide +kernel
theorem dX9_flourTogether_12 : decode cX9_flourTogether 12 = .ok (.invokevirtual 61, 3) := by decide +kernel
theorem dX9_flourTogether_15 : decode cX9_flourTogether 15 = .ok (.ifCond .eq 12, 3) := by decide +kernel
theorem dX9_flourTogether_18 : decode cX9_flourTogether 18 = .ok (.iload_n 1, 1) := by decide +kernel
theorem dX9_flourTogether_19 : decode cX9_flourTogether 19 = .ok (.aload_n 0, 1) := by decide +kernel
theorem dX9_flourTogether_20 : decode cX9_flourTogether 20 = .ok (.getfield 9, 3) := by decide +kernel
theorem dX9_flourTogether_23 : decode cX9_flourTogether 23 = .ok (.iload_n 2, 1) := by decide +kernel
theorem dX9_flourTogether_24 : decode cX9_flourTogether 24 = .ok (.iaload, 1) := by decide +kernel
theorem dX9_flourTogether_25 : decode cX9_flourTogether 25 = .ok (.iadd, 1) := by decide +kernel
theorem dX9_flourTogether_26 : decode cX9_flourTogether 26 = .ok (.istore_n 1, 1) := by decide +kernel
theorem dX9_flourTogether_27 : decode cX9_flourTogether 27 = .ok (.iinc 2 1, 3) := by decide +kernel
theorem dX9_flourTogether_30 : decode cX9_flourTogether 30 = .ok (.goto (-26), 3) := by decide +kernel
theorem dX9_flourTogether_33 : decode cX9_flourTogether 33 = .ok (.iload_n 1, 1) := by decide +kernel
theorem dX9_flourTogether_34 : decode cX9_flourTogether 34 = .ok (.ireturn, 1) := by decide +kernel
theorem dX9_keep_0 : decode cX9_keep 0 = .ok (.aload_n 0, 1) := by decide +kernel
theorem dX9_keep_1 : decode cX9_keep 1 = .ok (.getfield 36, 3) := by decide +kernel
theorem dX9_keep_4 : decode cX9_keep 4 = .ok (.bipush 40, 2) := by decide +kernel
theorem dX9_keep_6 : decode cX9_keep 6 = .ok (.irem, 1) := by decide +kernel
theorem dX9_keep_7 : decode cX9_keep 7 = .ok (.istore 4, 2) := by decide +kernel
theorem dX9_keep_9 : decode cX9_keep 9 = .ok (.iload 4, 2) := by decide +kernel
theorem dX9_keep_11 : decode cX9_keep 11 = .ok (.ifCond .lt 40, 3) := by decide +kernel
theorem dX9_keep_14 : decode cX9_keep 14 = .ok (.aload_n 0, 1) := by decide +kernel
theorem dX9_keep_15 : decode cX9_keep 15 = .ok (.getfield 21, 3) := by decide +kernel
theorem dX9_keep_18 : decode cX9_keep 18 = .ok (.iload 4, 2) := by decide +kernel
theorem dX9_keep_20 : decode cX9_keep 20 = .ok (.aload_n 0, 1) := by decide +kernel
theorem dX9_keep_21 : decode cX9_keep 21 = .ok (.getfield 24, 3) := by decide +kernel
theorem dX9_keep_24 : decode cX9_keep 24 = .ok (.bipush 8, 2) := by decide +kernel
theorem dX9_keep_26 : decode cX9_keep 26 = .ok (.imul, 1) := by decide +kernel
theorem dX9_keep_27 : decode cX9_keep 27 = .ok (.iload_n 1, 1) := by decide +kernel
theorem dX9_keep_28 : decode cX9_keep 28 = .ok (.iadd, 1) := by decide +kernel
theorem dX9_keep_29 : decode cX9_keep 29 = .ok (.bipush 8, 2) := by decide +kernel
theorem dX9_keep_31 : decode cX9_keep 31 = .ok (.imul, 1) := by decide +kernel
theorem dX9_keep_32 : decode cX9_keep 32 = .ok (.iload_n 2, 1) := by decide +kernel
theorem dX9_keep_33 : decode cX9_keep 33 = .ok (.iadd, 1) := by decide +kernel
theorem dX9_keep_34 : decode cX9_keep 34 = .ok (.sipush 128, 3) := by decide +kernel
theorem dX9_keep_37 : decode cX9_keep 37 = .ok (.imul, 1) := by decide +kernel
theorem dX9_keep_38 : decode cX9_keep 38 = .ok (.iload_n 3, 1) := by decide +kernel
theorem dX9_keep_39 : decode cX9_keep 39 = .ok (.iadd, 1) := by decide +kernel
theorem dX9_keep_40 : decode cX9_keep 40 = .ok (.iastore, 1) := by decide +kernel
theorem dX9_keep_41 : decode cX9_keep 41 = .ok (.aload_n 0, 1) := by decide +kernel
theorem dX9_keep_42 : decode cX9_keep 42 = .ok (.dup, 1) := by decide +kernel
theorem dX9_keep_43 : decode cX9_keep 43 = .ok (.getfield 36, 3) := by decide +kernel
theorem dX9_keep_46 : decode cX9_keep 46 = .ok (.iconst 1, 1) := by decide +kernel
theorem dX9_keep_47 : decode cX9_keep 47 = .ok (.iadd, 1) := by decide +kernel
theorem dX9_keep_48 : decode cX9_keep 48 = .ok (.putfield 36, 3) := by decide +kernel
theorem dX9_keep_51 : decode cX9_keep 51 = .ok (.return_, 1) := by decide +kernel
theorem dX9_toldLoaves_0 : decode cX9_toldLoaves 0 = .ok (.aload_n 0, 1) := by decide +kernel
theorem dX9_toldLoaves_1 : decode cX9_toldLoaves 1 = .ok (.getfield 36, 3) := by decide +kernel
theorem dX9_toldLoaves_4 : decode cX9_toldLoaves 4 = .ok (.bipush 40, 2) := by decide +kernel
theorem dX9_toldLoaves_6 : decode cX9_toldLoaves 6 = .ok (.invokestatic 65, 3) := by decide +kernel
theorem dX9_toldLoaves_9 : decode cX9_toldLoaves 9 = .ok (.ireturn, 1) := by decide +kernel
theorem dX9_toldOfLoaf_0 : decode cX9_toldOfLoaf 0 = .ok (.iload_n 1, 1) := by decide +kernel
theorem dX9_toldOfLoaf_1 : decode cX9_toldOfLoaf 1 = .ok (.ifCond .lt 11, 3) := by decide +kernel
theorem dX9_toldOfLoaf_4 : decode cX9_toldOfLoaf 4 = .ok (.iload_n 1, 1) := by decide +kernel
theorem dX9_toldOfLoaf_5 : decode cX9_toldOfLoaf 5 = .ok (.aload_n 0, 1) := by decide +kernel
theorem dX9_toldOfLoaf_6 : decode cX9_toldOfLoaf 6 = .ok (.invokevirtual 71, 3) := by decide +kernel
theorem dX9_toldOfLoaf_9 : decode cX9_toldOfLoaf 9 = .ok (.if_icmp .lt 5, 3) := by decide +kernel
theorem dX9_toldOfLoaf_12 : decode cX9_toldOfLoaf 12 = .ok (.iconst (-1), 1) := by decide +kernel
theorem dX9_toldOfLoaf_13 : decode cX9_toldOfLoaf 13 = .ok (.ireturn, 1) := by decide +kernel
theorem dX9_toldOfLoaf_14 : decode cX9_toldOfLoaf 14 = .ok (.aload_n 0, 1) := by decide +kernel
theorem dX9_toldOfLoaf_15 : decode cX9_toldOfLoaf 15 = .ok (.getfield 36, 3) := by decide +kernel
theorem dX9_toldOfLoaf_18 : decode cX9_toldOfLoaf 18 = .ok (.aload_n 0, 1) := by decide +kernel
theorem dX9_toldOfLoaf_19 : decode cX9_toldOfLoaf 19 = .ok (.invokevirtual 71, 3) := by decide +kernel
theorem dX9_toldOfLoaf_22 : decode cX9_toldOfLoaf 22 = .ok (.isub, 1) := by decide +kernel
theorem dX9_toldOfLoaf_23 : decode cX9_toldOfLoaf 23 = .ok (.iload_n 1, 1) := by decide +kernel
theorem dX9_toldOfLoaf_24 : decode cX9_toldOfLoaf 24 = .ok (.iadd, 1) := by decide +kernel
theorem dX9_toldOfLoaf_25 : decode cX9_toldOfLoaf 25 = .ok (.bipush 40, 2) := by decide +kernel
theorem dX9_toldOfLoaf_27 : decode cX9_toldOfLoaf 27 = .ok (.irem, 1) := by decide +kernel
theorem dX9_toldOfLoaf_28 : decode cX9_toldOfLoaf 28 = .ok (.istore_n 3, 1) := by decide +kernel
theorem dX9_toldOfLoaf_29 : decode cX9_toldOfLoaf 29 = .ok (.iload_n 3, 1) := by decide +kernel
theorem dX9_toldOfLoaf_30 : decode cX9_toldOfLoaf 30 = .ok (.ifCond .lt 12, 3) := by decide +kernel
theorem dX9_toldOfLoaf_33 : decode cX9_toldOfLoaf 33 = .ok (.aload_n 0, 1) := by decide +kernel
theorem dX9_toldOfLoaf_34 : decode cX9_toldOfLoaf 34 = .ok (.getfield 21, 3) := by decide +kernel
theorem dX9_toldOfLoaf_37 : decode cX9_toldOfLoaf 37 = .ok (.iload_n 3, 1) := by decide +kernel
theorem dX9_toldOfLoaf_38 : decode cX9_toldOfLoaf 38 = .ok (.iaload, 1) := by decide +kernel
theorem dX9_toldOfLoaf_39 : decode cX9_toldOfLoaf 39 = .ok (.goto 4, 3) := by decide +kernel
theorem dX9_toldOfLoaf_42 : decode cX9_toldOfLoaf 42 = .ok (.iconst 0, 1) := by decide +kernel
theorem dX9_toldOfLoaf_43 : decode cX9_toldOfLoaf 43 = .ok (.istore 4, 2) := by decide +kernel
theorem dX9_toldOfLoaf_45 : decode cX9_toldOfLoaf 45 = .ok (.iload_n 2, 1) := by decide +kernel
theorem dX9_toldOfLoaf_46 : decode cX9_toldOfLoaf 46 = .ok (.tableswitch 64 0 3 #[30, 37, 47, 57], 30) := by decide +kernel
theorem dX9_toldOfLoaf_76 : decode cX9_toldOfLoaf 76 = .ok (.iload 4, 2) := by decide +kernel
theorem dX9_toldOfLoaf_78 : decode cX9_toldOfLoaf 78 = .ok (.sipush 8192, 3) := by decide +kernel
theorem dX9_toldOfLoaf_81 : decode cX9_toldOfLoaf 81 = .ok (.idiv, 1) := by decide +kernel
theorem dX9_toldOfLoaf_82 : decode cX9_toldOfLoaf 82 = .ok (.ireturn, 1) := by decide +kernel
theorem dX9_toldOfLoaf_83 : decode cX9_toldOfLoaf 83 = .ok (.iload 4, 2) := by decide +kernel
theorem dX9_toldOfLoaf_85 : decode cX9_toldOfLoaf 85 = .ok (.sipush 1024, 3) := by decide +kernel
theorem dX9_toldOfLoaf_88 : decode cX9_toldOfLoaf 88 = .ok (.idiv, 1) := by decide +kernel
theorem dX9_toldOfLoaf_89 : decode cX9_toldOfLoaf 89 = .ok (.bipush 8, 2) := by decide +kernel
theorem dX9_toldOfLoaf_91 : decode cX9_toldOfLoaf 91 = .ok (.irem, 1) := by decide +kernel
theorem dX9_toldOfLoaf_92 : decode cX9_toldOfLoaf 92 = .ok (.ireturn, 1) := by decide +kernel
theorem dX9_toldOfLoaf_93 : decode cX9_toldOfLoaf 93 = .ok (.iload 4, 2) := by decide +kernel
theorem dX9_toldOfLoaf_95 : decode cX9_toldOfLoaf 95 = .ok (.sipush 128, 3) := by decide +kernel
theorem dX9_toldOfLoaf_98 : decode cX9_toldOfLoaf 98 = .ok (.idiv, 1) := by decide +kernel
theorem dX9_toldOfLoaf_99 : decode cX9_toldOfLoaf 99 = .ok (.bipush 8, 2) := by decide +kernel
theorem dX9_toldOfLoaf_101 : decode cX9_toldOfLoaf 101 = .ok (.irem, 1) := by decide +kernel
theorem dX9_toldOfLoaf_102 : decode cX9_toldOfLoaf 102 = .ok (.ireturn, 1) := by decide +kernel
theorem dX9_toldOfLoaf_103 : decode cX9_toldOfLoaf 103 = .ok (.iload 4, 2) := by decide +kernel
theorem dX9_toldOfLoaf_105 : decode cX9_toldOfLoaf 105 = .ok (.sipush 128, 3) := by decide +kernel
theorem dX9_toldOfLoaf_108 : decode cX9_toldOfLoaf 108 = .ok (.irem, 1) := by decide +kernel
theorem dX9_toldOfLoaf_109 : decode cX9_toldOfLoaf 109 = .ok (.ireturn, 1) := by decide +kernel
theorem dX9_toldOfLoaf_110 : decode cX9_toldOfLoaf 110 = .ok (.iconst (-1), 1) := by decide +kernel
theorem dX9_toldOfLoaf_111 : decode cX9_toldOfLoaf 111 = .ok (.ireturn, 1) := by decide +kernel
theorem dX9_imageLength_0 : decode cX9_imageLength 0 = .ok (.iconst 2, 1) := by decide +kernel
theorem dX9_imageLength_1 : decode cX9_imageLength 1 = .ok (.iconst 3, 1) := by decide +kernel
theorem dX9_imageLength_2 : decode cX9_imageLength 2 = .ok (.iload_n 0, 1) := by decide +kernel
theorem dX9_imageLength_3 : decode cX9_imageLength 3 = .ok (.imul, 1) := by decide +kernel
theorem dX9_imageLength_4 : decode cX9_imageLength 4 = .ok (.iadd, 1) := by decide +kernel
theorem dX9_imageLength_5 : decode cX9_imageLength 5 = .ok (.iload_n 0, 1) := by decide +kernel
theorem dX9_imageLength_6 : decode cX9_imageLength 6 = .ok (.iload_n 0, 1) := by decide +kernel
theorem dX9_imageLength_7 : decode cX9_imageLength 7 = .ok (.iconst 1, 1) := by decide +kernel
theorem dX9_imageLength_8 : decode cX9_imageLength 8 = .ok (.isub, 1) := by decide +kernel
theorem dX9_imageLength_9 : decode cX9_imageLength 9 = .ok (.imul, 1) := by decide +kernel
theorem dX9_imageLength_10 : decode cX9_imageLength 10 = .ok (.iconst 2, 1) := by decide +kernel
theorem dX9_imageLength_11 : decode cX9_imageLength 11 = .ok (.idiv, 1) := by decide +kernel
theorem dX9_imageLength_12 : decode cX9_imageLength 12 = .ok (.iadd, 1) := by decide +kernel
theorem dX9_imageLength_13 : decode cX9_imageLength 13 = .ok (.iconst 1, 1) := by decide +kernel
theorem dX9_imageLength_14 : decode cX9_imageLength 14 = .ok (.iadd, 1) := by decide +kernel
theorem dX9_imageLength_15 : decode cX9_imageLength 15 = .ok (.ireturn, 1) := by decide +kernel
theorem dX9_checkByte_0 : decode cX9_checkByte 0 = .ok (.sipush 233, 3) := by decide +kernel
theorem dX9_checkByte_3 : decode cX9_checkByte 3 = .ok (.istore_n 2, 1) := by decide +kernel
theorem dX9_checkByte_4 : decode cX9_checkByte 4 = .ok (.iconst 0, 1) := by decide +kernel
theorem dX9_checkByte_5 : decode cX9_checkByte 5 = .ok (.istore_n 3, 1) := by decide +kernel
theorem dX9_checkByte_6 : decode cX9_checkByte 6 = .ok (.iload_n 3, 1) := by decide +kernel
theorem dX9_checkByte_7 : decode cX9_checkByte 7 = .ok (.iload_n 1, 1) := by decide +kernel
theorem dX9_checkByte_8 : decode cX9_checkByte 8 = .ok (.if_icmp .ge 27, 3) := by decide +kernel
theorem dX9_checkByte_11 : decode cX9_checkByte 11 = .ok (.iload_n 3, 1) := by decide +kernel
theorem dX9_checkByte_12 : decode cX9_checkByte 12 = .ok (.aload_n 0, 1) := by decide +kernel
theorem dX9_checkByte_13 : decode cX9_checkByte 13 = .ok (.arraylength, 1) := by decide +kernel
theorem dX9_checkByte_14 : decode cX9_checkByte 14 = .ok (.if_icmp .ge 21, 3) := by decide +kernel
theorem dX9_checkByte_17 : decode cX9_checkByte 17 = .ok (.iconst 3, 1) := by decide +kernel
theorem dX9_checkByte_18 : decode cX9_checkByte 18 = .ok (.iload_n 2, 1) := by decide +kernel
theorem dX9_checkByte_19 : decode cX9_checkByte 19 = .ok (.imul, 1) := by decide +kernel
theorem dX9_checkByte_20 : decode cX9_checkByte 20 = .ok (.aload_n 0, 1) := by decide +kernel
theorem dX9_checkByte_21 : decode cX9_checkByte 21 = .ok (.iload_n 3, 1) := by decide +kernel
theorem dX9_checkByte_22 : decode cX9_checkByte 22 = .ok (.iaload, 1) := by decide +kernel
theorem dX9_checkByte_23 : decode cX9_checkByte 23 = .ok (.iadd, 1) := by decide +kernel
theorem dX9_checkByte_24 : decode cX9_checkByte 24 = .ok (.sipush 251, 3) := by decide +kernel
theorem dX9_checkByte_27 : decode cX9_checkByte 27 = .ok (.irem, 1) := by decide +kernel
theorem dX9_checkByte_28 : decode cX9_checkByte 28 = .ok (.istore_n 2, 1) := by decide +kernel
theorem dX9_checkByte_29 : decode cX9_checkByte 29 = .ok (.iinc 3 1, 3) := by decide +kernel
theorem dX9_checkByte_32 : decode cX9_checkByte 32 = .ok (.goto (-26), 3) := by decide +kernel
theorem dX9_checkByte_35 : decode cX9_checkByte 35 = .ok (.iload_n 2, 1) := by decide +kernel
theorem dX9_checkByte_36 : decode cX9_checkByte 36 = .ok (.ireturn, 1) := by decide +kernel
theorem dX9_writeImage_0 : decode cX9_writeImage 0 = .ok (.iload_n 2, 1) := by decide +kernel
theorem dX9_writeImage_1 : decode cX9_writeImage 1 = .ok (.invokestatic 75, 3) := by decide +kernel
theorem dX9_writeImage_4 : decode cX9_writeImage 4 = .ok (.istore_n 3, 1) := by decide +kernel
theorem dX9_writeImage_5 : decode cX9_writeImage 5 = .ok (.iload_n 3, 1) := by decide +kernel
theorem dX9_writeImage_6 : decode cX9_writeImage 6 = .ok (.aload_n 1, 1) := by decide +kernel
theorem dX9_writeImage_7 : decode cX9_writeImage 7 = .ok (.arraylength, 1) := by decide +kernel
theorem dX9_writeImage_8 : decode cX9_writeImage 8 = .ok (.if_icmp .le 5, 3) := by decide +kernel
theorem dX9_writeImage_11 : decode cX9_writeImage 11 = .ok (.iconst 0, 1) := by decide +kernel
theorem dX9_writeImage_12 : decode cX9_writeImage 12 = .ok (.ireturn, 1) := by decide +kernel
theorem dX9_writeImage_13 : decode cX9_writeImage 13 = .ok (.aload_n 1, 1) := by decide +kernel
theorem dX9_writeImage_14 : decode cX9_writeImage 14 = .ok (.iconst 0, 1) := by decide +kernel
theorem dX9_writeImage_15 : decode cX9_writeImage 15 = .ok (.aload_n 0, 1) := by decide +kernel
theorem dX9_writeImage_16 : decode cX9_writeImage 16 = .ok (.getfield 24, 3) := by decide +kernel
theorem dX9_writeImage_19 : decode cX9_writeImage 19 = .ok (.sipush 256, 3) := by decide +kernel
theorem dX9_writeImage_22 : decode cX9_writeImage 22 = .ok (.idiv, 1) := by decide +kernel
theorem dX9_writeImage_23 : decode cX9_writeImage 23 = .ok (.iastore, 1) := by decide +kernel
theorem dX9_writeImage_24 : decode cX9_writeImage 24 = .ok (.aload_n 1, 1) := by decide +kernel
theorem dX9_writeImage_25 : decode cX9_writeImage 25 = .ok (.iconst 1, 1) := by decide +kernel
theorem dX9_writeImage_26 : decode cX9_writeImage 26 = .ok (.aload_n 0, 1) := by decide +kernel
theorem dX9_writeImage_27 : decode cX9_writeImage 27 = .ok (.getfield 24, 3) := by decide +kernel
theorem dX9_writeImage_30 : decode cX9_writeImage 30 = .ok (.sipush 256, 3) := by decide +kernel
theorem dX9_writeImage_33 : decode cX9_writeImage 33 = .ok (.irem, 1) := by decide +kernel
theorem dX9_writeImage_34 : decode cX9_writeImage 34 = .ok (.iastore, 1) := by decide +kernel
theorem dX9_writeImage_35 : decode cX9_writeImage 35 = .ok (.iconst 2, 1) := by decide +kernel
theorem dX9_writeImage_36 : decode cX9_writeImage 36 = .ok (.istore 4, 2) := by decide +kernel
theorem dX9_writeImage_38 : decode cX9_writeImage 38 = .ok (.iconst 0, 1) := by decide +kernel
theorem dX9_writeImage_39 : decode cX9_writeImage 39 = .ok (.istore 5, 2) := by decide +kernel
theorem dX9_writeImage_41 : decode cX9_writeImage 41 = .ok (.iload 5, 2) := by decide +kernel
theorem dX9_writeImage_43 : decode cX9_writeImage 43 = .ok (.iload_n 2, 1) := by decide +kernel
theorem dX9_writeImage_44 : decode cX9_writeImage 44 = .ok (.if_icmp .ge 56, 3) := by decide +kernel
theorem dX9_writeImage_47 : decode cX9_writeImage 47 = .ok (.aload_n 1, 1) := by decide +kernel
theorem dX9_writeImage_48 : decode cX9_writeImage 48 = .ok (.iload 4, 2) := by decide +kernel
theorem dX9_writeImage_50 : decode cX9_writeImage 50 = .ok (.aload_n 0, 1) := by decide +kernel
theorem dX9_writeImage_51 : decode cX9_writeImage 51 = .ok (.iload 5, 2) := by decide +kernel
theorem dX9_writeImage_53 : decode cX9_writeImage 53 = .ok (.invokevirtual 61, 3) := by decide +kernel
theorem dX9_writeImage_56 : decode cX9_writeImage 56 = .ok (.ifCond .eq 7, 3) := by decide +kernel
theorem dX9_writeImage_59 : decode cX9_writeImage 59 = .ok (.iconst 1, 1) := by decide +kernel
theorem dX9_writeImage_60 : decode cX9_writeImage 60 = .ok (.goto 4, 3) := by decide +kernel
theorem dX9_writeImage_63 : decode cX9_writeImage 63 = .ok (.iconst 0, 1) := by decide +kernel
theorem dX9_writeImage_64 : decode cX9_writeImage 64 = .ok (.iastore, 1) := by decide +kernel
theorem dX9_writeImage_65 : decode cX9_writeImage 65 = .ok (.aload_n 1, 1) := by decide +kernel
theorem dX9_writeImage_66 : decode cX9_writeImage 66 = .ok (.iload 4, 2) := by decide +kernel
theorem dX9_writeImage_68 : decode cX9_writeImage 68 = .ok (.iconst 1, 1) := by decide +kernel
theorem dX9_writeImage_69 : decode cX9_writeImage 69 = .ok (.iadd, 1) := by decide +kernel
theorem dX9_writeImage_70 : decode cX9_writeImage 70 = .ok (.aload_n 0, 1) := by decide +kernel
theorem dX9_writeImage_71 : decode cX9_writeImage 71 = .ok (.getfield 9, 3) := by decide +kernel
theorem dX9_writeImage_74 : decode cX9_writeImage 74 = .ok (.iload 5, 2) := by decide +kernel
theorem dX9_writeImage_76 : decode cX9_writeImage 76 = .ok (.iaload, 1) := by decide +kernel
theorem dX9_writeImage_77 : decode cX9_writeImage 77 = .ok (.iastore, 1) := by decide +kernel
theorem dX9_writeImage_78 : decode cX9_writeImage 78 = .ok (.aload_n 1, 1) := by decide +kernel
theorem dX9_writeImage_79 : decode cX9_writeImage 79 = .ok (.iload 4, 2) := by decide +kernel
theorem dX9_writeImage_81 : decode cX9_writeImage 81 = .ok (.iconst 2, 1) := by decide +kernel
theorem dX9_writeImage_82 : decode cX9_writeImage 82 = .ok (.iadd, 1) := by decide +kernel
theorem dX9_writeImage_83 : decode cX9_writeImage 83 = .ok (.aload_n 0, 1) := by decide +kernel
theorem dX9_writeImage_84 : decode cX9_writeImage 84 = .ok (.getfield 15, 3) := by decide +kernel
theorem dX9_writeImage_87 : decode cX9_writeImage 87 = .ok (.iload 5, 2) := by decide +kernel
theorem dX9_writeImage_89 : decode cX9_writeImage 89 = .ok (.iaload, 1) := by decide +kernel
theorem dX9_writeImage_90 : decode cX9_writeImage 90 = .ok (.iastore, 1) := by decide +kernel
theorem dX9_writeImage_91 : decode cX9_writeImage 91 = .ok (.iinc 4 3, 3) := by decide +kernel
theorem dX9_writeImage_94 : decode cX9_writeImage 94 = .ok (.iinc 5 1, 3) := by decide +kernel
theorem dX9_writeImage_97 : decode cX9_writeImage 97 = .ok (.goto (-56), 3) := by decide +kernel
theorem dX9_writeImage_100 : decode cX9_writeImage 100 = .ok (.iconst 0, 1) := by decide +kernel
theorem dX9_writeImage_101 : decode cX9_writeImage 101 = .ok (.istore 5, 2) := by decide +kernel
theorem dX9_writeImage_103 : decode cX9_writeImage 103 = .ok (.iload 5, 2) := by decide +kernel
theorem dX9_writeImage_105 : decode cX9_writeImage 105 = .ok (.iload_n 2, 1) := by decide +kernel
theorem dX9_writeImage_106 : decode cX9_writeImage 106 = .ok (.if_icmp .ge 47, 3) := by decide +kernel
theorem dX9_writeImage_109 : decode cX9_writeImage 109 = .ok (.iload 5, 2) := by decide +kernel
theorem dX9_writeImage_111 : decode cX9_writeImage 111 = .ok (.iconst 1, 1) := by decide +kernel
theorem dX9_writeImage_112 : decode cX9_writeImage 112 = .ok (.iadd, 1) := by decide +kernel
theorem dX9_writeImage_113 : decode cX9_writeImage 113 = .ok (.istore 6, 2) := by decide +kernel
theorem dX9_writeImage_115 : decode cX9_writeImage 115 = .ok (.iload 6, 2) := by decide +kernel
theorem dX9_writeImage_117 : decode cX9_writeImage 117 = .ok (.iload_n 2, 1) := by decide +kernel
theorem dX9_writeImage_118 : decode cX9_writeImage 118 = .ok (.if_icmp .ge 29, 3) := by decide +kernel
theorem dX9_writeImage_121 : decode cX9_writeImage 121 = .ok (.aload_n 1, 1) := by decide +kernel
theorem dX9_writeImage_122 : decode cX9_writeImage 122 = .ok (.iload 4, 2) := by decide +kernel
theorem dX9_writeImage_124 : decode cX9_writeImage 124 = .ok (.aload_n 0, 1) := by decide +kernel
theorem dX9_writeImage_125 : decode cX9_writeImage 125 = .ok (.getfield 18, 3) := by decide +kernel
theorem dX9_writeImage_128 : decode cX9_writeImage 128 = .ok (.bipush 8, 2) := by decide +kernel
theorem dX9_writeImage_130 : decode cX9_writeImage 130 = .ok (.iload 5, 2) := by decide +kernel
theorem dX9_writeImage_132 : decode cX9_writeImage 132 = .ok (.imul, 1) := by decide +kernel
theorem dX9_writeImage_133 : decode cX9_writeImage 133 = .ok (.iload 6, 2) := by decide +kernel
theorem dX9_writeImage_135 : decode cX9_writeImage 135 = .ok (.iadd, 1) := by decide +kernel
theorem dX9_writeImage_136 : decode cX9_writeImage 136 = .ok (.iaload, 1) := by decide +kernel
theorem dX9_writeImage_137 : decode cX9_writeImage 137 = .ok (.iastore, 1) := by decide +kernel
theorem dX9_writeImage_138 : decode cX9_writeImage 138 = .ok (.iinc 4 1, 3) := by decide +kernel
theorem dX9_writeImage_141 : decode cX9_writeImage 141 = .ok (.iinc 6 1, 3) := by decide +kernel
theorem dX9_writeImage_144 : decode cX9_writeImage 144 = .ok (.goto (-29), 3) := by decide +kernel
theorem dX9_writeImage_147 : decode cX9_writeImage 147 = .ok (.iinc 5 1, 3) := by decide +kernel
theorem dX9_writeImage_150 : decode cX9_writeImage 150 = .ok (.goto (-47), 3) := by decide +kernel
theorem dX9_writeImage_153 : decode cX9_writeImage 153 = .ok (.aload_n 1, 1) := by decide +kernel
theorem dX9_writeImage_154 : decode cX9_writeImage 154 = .ok (.iload 4, 2) := by decide +kernel
theorem dX9_writeImage_156 : decode cX9_writeImage 156 = .ok (.aload_n 1, 1) := by decide +kernel
theorem dX9_writeImage_157 : decode cX9_writeImage 157 = .ok (.iload 4, 2) := by decide +kernel
theorem dX9_writeImage_159 : decode cX9_writeImage 159 = .ok (.invokestatic 78, 3) := by decide +kernel
theorem dX9_writeImage_162 : decode cX9_writeImage 162 = .ok (.iastore, 1) := by decide +kernel
theorem dX9_writeImage_163 : decode cX9_writeImage 163 = .ok (.iload_n 3, 1) := by decide +kernel
theorem dX9_writeImage_164 : decode cX9_writeImage 164 = .ok (.ireturn, 1) := by decide +kernel
theorem dX9_isImage_0 : decode cX9_isImage 0 = .ok (.iload_n 1, 1) := by decide +kernel
theorem dX9_isImage_1 : decode cX9_isImage 1 = .ok (.iload_n 2, 1) := by decide +kernel
theorem dX9_isImage_2 : decode cX9_isImage 2 = .ok (.invokestatic 75, 3) := by decide +kernel
theorem dX9_isImage_5 : decode cX9_isImage 5 = .ok (.if_icmp .ne 41, 3) := by decide +kernel
theorem dX9_isImage_8 : decode cX9_isImage 8 = .ok (.iload_n 1, 1) := by decide +kernel
theorem dX9_isImage_9 : decode cX9_isImage 9 = .ok (.aload_n 0, 1) := by decide +kernel
theorem dX9_isImage_10 : decode cX9_isImage 10 = .ok (.arraylength, 1) := by decide +kernel
theorem dX9_isImage_11 : decode cX9_isImage 11 = .ok (.if_icmp .gt 35, 3) := by decide +kernel
theorem dX9_isImage_14 : decode cX9_isImage 14 = .ok (.aload_n 0, 1) := by decide +kernel
theorem dX9_isImage_15 : decode cX9_isImage 15 = .ok (.iconst 0, 1) := by decide +kernel
theorem dX9_isImage_16 : decode cX9_isImage 16 = .ok (.iaload, 1) := by decide +kernel
theorem dX9_isImage_17 : decode cX9_isImage 17 = .ok (.sipush 256, 3) := by decide +kernel
theorem dX9_isImage_20 : decode cX9_isImage 20 = .ok (.imul, 1) := by decide +kernel
theorem dX9_isImage_21 : decode cX9_isImage 21 = .ok (.aload_n 0, 1) := by decide +kernel
theorem dX9_isImage_22 : decode cX9_isImage 22 = .ok (.iconst 1, 1) := by decide +kernel
theorem dX9_isImage_23 : decode cX9_isImage 23 = .ok (.iaload, 1) := by decide +kernel
theorem dX9_isImage_24 : decode cX9_isImage 24 = .ok (.iadd, 1) := by decide +kernel
theorem dX9_isImage_25 : decode cX9_isImage 25 = .ok (.sipush 999, 3) := by decide +kernel
theorem dX9_isImage_28 : decode cX9_isImage 28 = .ok (.if_icmp .gt 18, 3) := by decide +kernel
theorem dX9_isImage_31 : decode cX9_isImage 31 = .ok (.aload_n 0, 1) := by decide +kernel
theorem dX9_isImage_32 : decode cX9_isImage 32 = .ok (.iload_n 1, 1) := by decide +kernel
theorem dX9_isImage_33 : decode cX9_isImage 33 = .ok (.iconst 1, 1) := by decide +kernel
theorem dX9_isImage_34 : decode cX9_isImage 34 = .ok (.isub, 1) := by decide +kernel
theorem dX9_isImage_35 : decode cX9_isImage 35 = .ok (.iaload, 1) := by decide +kernel
theorem dX9_isImage_36 : decode cX9_isImage 36 = .ok (.aload_n 0, 1) := by decide +kernel
theorem dX9_isImage_37 : decode cX9_isImage 37 = .ok (.iload_n 1, 1) := by decide +kernel
theorem dX9_isImage_38 : decode cX9_isImage 38 = .ok (.iconst 1, 1) := by decide +kernel
theorem dX9_isImage_39 : decode cX9_isImage 39 = .ok (.isub, 1) := by decide +kernel
theorem dX9_isImage_40 : decode cX9_isImage 40 = .ok (.invokestatic 78, 3) := by decide +kernel
theorem dX9_isImage_43 : decode cX9_isImage 43 = .ok (.if_icmp .eq 5, 3) := by decide +kernel
theorem dX9_isImage_46 : decode cX9_isImage 46 = .ok (.iconst 0, 1) := by decide +kernel
theorem dX9_isImage_47 : decode cX9_isImage 47 = .ok (.ireturn, 1) := by decide +kernel
theorem dX9_isImage_48 : decode cX9_isImage 48 = .ok (.iconst 0, 1) := by decide +kernel
theorem dX9_isImage_49 : decode cX9_isImage 49 = .ok (.istore_n 3, 1) := by decide +kernel
theorem dX9_isImage_50 : decode cX9_isImage 50 = .ok (.iload_n 3, 1) := by decide +kernel
theorem dX9_isImage_51 : decode cX9_isImage 51 = .ok (.iload_n 2, 1) := by decide +kernel
theorem dX9_isImage_52 : decode cX9_isImage 52 = .ok (.if_icmp .ge 48, 3) := by decide +kernel
theorem dX9_isImage_55 : decode cX9_isImage 55 = .ok (.iconst 2, 1) := by decide +kernel
theorem dX9_isImage_56 : decode cX9_isImage 56 = .ok (.iconst 3, 1) := by decide +kernel
theorem dX9_isImage_57 : decode cX9_isImage 57 = .ok (.iload_n 3, 1) := by decide +kernel
theorem dX9_isImage_58 : decode cX9_isImage 58 = .ok (.imul, 1) := by decide +kernel
theorem dX9_isImage_59 : decode cX9_isImage 59 = .ok (.iadd, 1) := by decide +kernel
theorem dX9_isImage_60 : decode cX9_isImage 60 = .ok (.istore 4, 2) := by decide +kernel
theorem dX9_isImage_62 : decode cX9_isImage 62 = .ok (.aload_n 0, 1) := by decide +kernel
theorem dX9_isImage_63 : decode cX9_isImage 63 = .ok (.iload 4, 2) := by decide +kernel
theorem dX9_isImage_65 : decode cX9_isImage 65 = .ok (.iaload, 1) := by decide +kernel
theorem dX9_isImage_66 : decode cX9_isImage 66 = .ok (.iconst 1, 1) := by decide +kernel
theorem dX9_isImage_67 : decode cX9_isImage 67 = .ok (.if_icmp .gt 25, 3) := by decide +kernel
theorem dX9_isImage_70 : decode cX9_isImage 70 = .ok (.aload_n 0, 1) := by decide +kernel
theorem dX9_isImage_71 : decode cX9_isImage 71 = .ok (.iload 4, 2) := by decide +kernel
theorem dX9_isImage_73 : decode cX9_isImage 73 = .ok (.iconst 1, 1) := by decide +kernel
theorem dX9_isImage_74 : decode cX9_isImage 74 = .ok (.iadd, 1) := by decide +kernel
theorem dX9_isImage_75 : decode cX9_isImage 75 = .ok (.iaload, 1) := by decide +kernel
theorem dX9_isImage_76 : decode cX9_isImage 76 = .ok (.bipush 99, 2) := by decide +kernel
theorem dX9_isImage_78 : decode cX9_isImage 78 = .ok (.if_icmp .gt 14, 3) := by decide +kernel
theorem dX9_isImage_81 : decode cX9_isImage 81 = .ok (.aload_n 0, 1) := by decide +kernel
theorem dX9_isImage_82 : decode cX9_isImage 82 = .ok (.iload 4, 2) := by decide +kernel
theorem dX9_isImage_84 : decode cX9_isImage 84 = .ok (.iconst 2, 1) := by decide +kernel
theorem dX9_isImage_85 : decode cX9_isImage 85 = .ok (.iadd, 1) := by decide +kernel
theorem dX9_isImage_86 : decode cX9_isImage 86 = .ok (.iaload, 1) := by decide +kernel
theorem dX9_isImage_87 : decode cX9_isImage 87 = .ok (.bipush 9, 2) := by decide +kernel
theorem dX9_isImage_89 : decode cX9_isImage 89 = .ok (.if_icmp .le 5, 3) := by decide +kernel
theorem dX9_isImage_92 : decode cX9_isImage 92 = .ok (.iconst 0, 1) := by decide +kernel
theorem dX9_isImage_93 : decode cX9_isImage 93 = .ok (.ireturn, 1) := by decide +kernel
theorem dX9_isImage_94 : decode cX9_isImage 94 = .ok (.iinc 3 1, 3) := by decide +kernel
theorem dX9_isImage_97 : decode cX9_isImage 97 = .ok (.goto (-47), 3) := by decide +kernel
theorem dX9_isImage_100 : decode cX9_isImage 100 = .ok (.iconst 2, 1) := by decide +kernel
theorem dX9_isImage_101 : decode cX9_isImage 101 = .ok (.iconst 3, 1) := by decide +kernel
theorem dX9_isImage_102 : decode cX9_isImage 102 = .ok (.iload_n 2, 1) := by decide +kernel
theorem dX9_isImage_103 : decode cX9_isImage 103 = .ok (.imul, 1) := by decide +kernel
theorem dX9_isImage_104 : decode cX9_isImage 104 = .ok (.iadd, 1) := by decide +kernel
theorem dX9_isImage_105 : decode cX9_isImage 105 = .ok (.istore_n 3, 1) := by decide +kernel
theorem dX9_isImage_106 : decode cX9_isImage 106 = .ok (.iconst 0, 1) := by decide +kernel
theorem dX9_isImage_107 : decode cX9_isImage 107 = .ok (.istore 4, 2) := by decide +kernel
theorem dX9_isImage_109 : decode cX9_isImage 109 = .ok (.iload 4, 2) := by decide +kernel
theorem dX9_isImage_111 : decode cX9_isImage 111 = .ok (.iload_n 2, 1) := by decide +kernel
theorem dX9_isImage_112 : decode cX9_isImage 112 = .ok (.if_icmp .ge 80, 3) := by decide +kernel
theorem dX9_isImage_115 : decode cX9_isImage 115 = .ok (.iload 4, 2) := by decide +kernel
theorem dX9_isImage_117 : decode cX9_isImage 117 = .ok (.iconst 1, 1) := by decide +kernel
theorem dX9_isImage_118 : decode cX9_isImage 118 = .ok (.iadd, 1) := by decide +kernel
theorem dX9_isImage_119 : decode cX9_isImage 119 = .ok (.istore 5, 2) := by decide +kernel
theorem dX9_isImage_121 : decode cX9_isImage 121 = .ok (.iload 5, 2) := by decide +kernel
theorem dX9_isImage_123 : decode cX9_isImage 123 = .ok (.iload_n 2, 1) := by decide +kernel
theorem dX9_isImage_124 : decode cX9_isImage 124 = .ok (.if_icmp .ge 62, 3) := by decide +kernel
theorem dX9_isImage_127 : decode cX9_isImage 127 = .ok (.aload_n 0, 1) := by decide +kernel
theorem dX9_isImage_128 : decode cX9_isImage 128 = .ok (.iconst 2, 1) := by decide +kernel
theorem dX9_isImage_129 : decode cX9_isImage 129 = .ok (.iconst 3, 1) := by decide +kernel
theorem dX9_isImage_130 : decode cX9_isImage 130 = .ok (.iload 4, 2) := by decide +kernel
theorem dX9_isImage_132 : decode cX9_isImage 132 = .ok (.imul, 1) := by decide +kernel
theorem dX9_isImage_133 : decode cX9_isImage 133 = .ok (.iadd, 1) := by decide +kernel
theorem dX9_isImage_134 : decode cX9_isImage 134 = .ok (.iaload, 1) := by decide +kernel
theorem dX9_isImage_135 : decode cX9_isImage 135 = .ok (.iconst 1, 1) := by decide +kernel
theorem dX9_isImage_136 : decode cX9_isImage 136 = .ok (.if_icmp .ne 19, 3) := by decide +kernel
theorem dX9_isImage_139 : decode cX9_isImage 139 = .ok (.aload_n 0, 1) := by decide +kernel
theorem dX9_isImage_140 : decode cX9_isImage 140 = .ok (.iconst 2, 1) := by decide +kernel
theorem dX9_isImage_141 : decode cX9_isImage 141 = .ok (.iconst 3, 1) := by decide +kernel
theorem dX9_isImage_142 : decode cX9_isImage 142 = .ok (.iload 5, 2) := by decide +kernel
theorem dX9_isImage_144 : decode cX9_isImage 144 = .ok (.imul, 1) := by decide +kernel
theorem dX9_isImage_145 : decode cX9_isImage 145 = .ok (.iadd, 1) := by decide +kernel
theorem dX9_isImage_146 : decode cX9_isImage 146 = .ok (.iaload, 1) := by decide +kernel
theorem dX9_isImage_147 : decode cX9_isImage 147 = .ok (.iconst 1, 1) := by decide +kernel
theorem dX9_isImage_148 : decode cX9_isImage 148 = .ok (.if_icmp .ne 7, 3) := by decide +kernel
theorem dX9_isImage_151 : decode cX9_isImage 151 = .ok (.iconst 1, 1) := by decide +kernel
theorem dX9_isImage_152 : decode cX9_isImage 152 = .ok (.goto 4, 3) := by decide +kernel
theorem dX9_isImage_155 : decode cX9_isImage 155 = .ok (.iconst 0, 1) := by decide +kernel
theorem dX9_isImage_156 : decode cX9_isImage 156 = .ok (.istore 6, 2) := by decide +kernel
theorem dX9_isImage_158 : decode cX9_isImage 158 = .ok (.aload_n 0, 1) := by decide +kernel
theorem dX9_isImage_159 : decode cX9_isImage 159 = .ok (.iload_n 3, 1) := by decide +kernel
theorem dX9_isImage_160 : decode cX9_isImage 160 = .ok (.iaload, 1) := by decide +kernel
theorem dX9_isImage_161 : decode cX9_isImage 161 = .ok (.iload 6, 2) := by decide +kernel
theorem dX9_isImage_163 : decode cX9_isImage 163 = .ok (.ifCond .eq 8, 3) := by decide +kernel
theorem dX9_isImage_166 : decode cX9_isImage 166 = .ok (.bipush 99, 2) := by decide +kernel
theorem dX9_isImage_168 : decode cX9_isImage 168 = .ok (.goto 4, 3) := by decide +kernel
theorem dX9_isImage_171 : decode cX9_isImage 171 = .ok (.iconst 0, 1) := by decide +kernel
theorem dX9_isImage_172 : decode cX9_isImage 172 = .ok (.if_icmp .le 5, 3) := by decide +kernel
theorem dX9_isImage_175 : decode cX9_isImage 175 = .ok (.iconst 0, 1) := by decide +kernel
theorem dX9_isImage_176 : decode cX9_isImage 176 = .ok (.ireturn, 1) := by decide +kernel
theorem dX9_isImage_177 : decode cX9_isImage 177 = .ok (.iinc 3 1, 3) := by decide +kernel
theorem dX9_isImage_180 : decode cX9_isImage 180 = .ok (.iinc 5 1, 3) := by decide +kernel
theorem dX9_isImage_183 : decode cX9_isImage 183 = .ok (.goto (-62), 3) := by decide +kernel
theorem dX9_isImage_186 : decode cX9_isImage 186 = .ok (.iinc 4 1, 3) := by decide +kernel
theorem dX9_isImage_189 : decode cX9_isImage 189 = .ok (.goto (-80), 3) := by decide +kernel
theorem dX9_isImage_192 : decode cX9_isImage 192 = .ok (.iconst 1, 1) := by decide +kernel
theorem dX9_isImage_193 : decode cX9_isImage 193 = .ok (.ireturn, 1) := by decide +kernel
theorem dX9_readImage_0 : decode cX9_readImage 0 = .ok (.iload_n 2, 1) := by decide +kernel
theorem dX9_readImage_1 : decode cX9_readImage 1 = .ok (.invokestatic 75, 3) := by decide +kernel
theorem dX9_readImage_4 : decode cX9_readImage 4 = .ok (.aload_n 1, 1) := by decide +kernel
theorem dX9_readImage_5 : decode cX9_readImage 5 = .ok (.arraylength, 1) := by decide +kernel
theorem dX9_readImage_6 : decode cX9_readImage 6 = .ok (.if_icmp .gt 9, 3) := by decide +kernel
theorem dX9_readImage_9 : decode cX9_readImage 9 = .ok (.iload_n 2, 1) := by decide +kernel
theorem dX9_readImage_10 : decode cX9_readImage 10 = .ok (.bipush 7, 2) := by decide +kernel
theorem dX9_readImage_12 : decode cX9_readImage 12 = .ok (.if_icmp .le 4, 3) := by decide +kernel
theorem dX9_readImage_15 : decode cX9_readImage 15 = .ok (.return_, 1) := by decide +kernel
theorem dX9_readImage_16 : decode cX9_readImage 16 = .ok (.aload_n 0, 1) := by decide +kernel
theorem dX9_readImage_17 : decode cX9_readImage 17 = .ok (.aload_n 1, 1) := by decide +kernel
theorem dX9_readImage_18 : decode cX9_readImage 18 = .ok (.iconst 0, 1) := by decide +kernel
theorem dX9_readImage_19 : decode cX9_readImage 19 = .ok (.iaload, 1) := by decide +kernel
theorem dX9_readImage_20 : decode cX9_readImage 20 = .ok (.sipush 256, 3) := by decide +kernel
theorem dX9_readImage_23 : decode cX9_readImage 23 = .ok (.imul, 1) := by decide +kernel
theorem dX9_readImage_24 : decode cX9_readImage 24 = .ok (.aload_n 1, 1) := by decide +kernel
theorem dX9_readImage_25 : decode cX9_readImage 25 = .ok (.iconst 1, 1) := by decide +kernel
theorem dX9_readImage_26 : decode cX9_readImage 26 = .ok (.iaload, 1) := by decide +kernel
theorem dX9_readImage_27 : decode cX9_readImage 27 = .ok (.iadd, 1) := by decide +kernel
theorem dX9_readImage_28 : decode cX9_readImage 28 = .ok (.putfield 24, 3) := by decide +kernel
theorem dX9_readImage_31 : decode cX9_readImage 31 = .ok (.aload_n 0, 1) := by decide +kernel
theorem dX9_readImage_32 : decode cX9_readImage 32 = .ok (.iconst 0, 1) := by decide +kernel
theorem dX9_readImage_33 : decode cX9_readImage 33 = .ok (.putfield 33, 3) := by decide +kernel
theorem dX9_readImage_36 : decode cX9_readImage 36 = .ok (.aload_n 0, 1) := by decide +kernel
theorem dX9_readImage_37 : decode cX9_readImage 37 = .ok (.iconst 0, 1) := by decide +kernel
theorem dX9_readImage_38 : decode cX9_readImage 38 = .ok (.putfield 36, 3) := by decide +kernel
theorem dX9_readImage_41 : decode cX9_readImage 41 = .ok (.iconst 2, 1) := by decide +kernel
theorem dX9_readImage_42 : decode cX9_readImage 42 = .ok (.istore_n 3, 1) := by decide +kernel
theorem dX9_readImage_43 : decode cX9_readImage 43 = .ok (.iconst 0, 1) := by decide +kernel
theorem dX9_readImage_44 : decode cX9_readImage 44 = .ok (.istore 4, 2) := by decide +kernel
theorem dX9_readImage_46 : decode cX9_readImage 46 = .ok (.iload 4, 2) := by decide +kernel
theorem dX9_readImage_48 : decode cX9_readImage 48 = .ok (.iload_n 2, 1) := by decide +kernel
theorem dX9_readImage_49 : decode cX9_readImage 49 = .ok (.if_icmp .ge 51, 3) := by decide +kernel
theorem dX9_readImage_52 : decode cX9_readImage 52 = .ok (.aload_n 0, 1) := by decide +kernel
theorem dX9_readImage_53 : decode cX9_readImage 53 = .ok (.dup, 1) := by decide +kernel
theorem dX9_readImage_54 : decode cX9_readImage 54 = .ok (.getfield 33, 3) := by decide +kernel
theorem dX9_readImage_57 : decode cX9_readImage 57 = .ok (.aload_n 1, 1) := by decide +kernel
theorem dX9_readImage_58 : decode cX9_readImage 58 = .ok (.iload_n 3, 1) := by decide +kernel
theorem dX9_readImage_59 : decode cX9_readImage 59 = .ok (.iaload, 1) := by decide +kernel
theorem dX9_readImage_60 : decode cX9_readImage 60 = .ok (.iload 4, 2) := by decide +kernel
theorem dX9_readImage_62 : decode cX9_readImage 62 = .ok (.ishl, 1) := by decide +kernel
theorem dX9_readImage_63 : decode cX9_readImage 63 = .ok (.ior, 1) := by decide +kernel
theorem dX9_readImage_64 : decode cX9_readImage 64 = .ok (.putfield 33, 3) := by decide +kernel
theorem dX9_readImage_67 : decode cX9_readImage 67 = .ok (.aload_n 0, 1) := by decide +kernel
theorem dX9_readImage_68 : decode cX9_readImage 68 = .ok (.getfield 9, 3) := by decide +kernel
theorem dX9_readImage_71 : decode cX9_readImage 71 = .ok (.iload 4, 2) := by decide +kernel
theorem dX9_readImage_73 : decode cX9_readImage 73 = .ok (.aload_n 1, 1) := by decide +kernel
theorem dX9_readImage_74 : decode cX9_readImage 74 = .ok (.iload_n 3, 1) := by decide +kernel
theorem dX9_readImage_75 : decode cX9_readImage 75 = .ok (.iconst 1, 1) := by decide +kernel
theorem dX9_readImage_76 : decode cX9_readImage 76 = .ok (.iadd, 1) := by decide +kernel
theorem dX9_readImage_77 : decode cX9_readImage 77 = .ok (.iaload, 1) := by decide +kernel
theorem dX9_readImage_78 : decode cX9_readImage 78 = .ok (.iastore, 1) := by decide +kernel
theorem dX9_readImage_79 : decode cX9_readImage 79 = .ok (.aload_n 0, 1) := by decide +kernel
theorem dX9_readImage_80 : decode cX9_readImage 80 = .ok (.getfield 15, 3) := by decide +kernel
theorem dX9_readImage_83 : decode cX9_readImage 83 = .ok (.iload 4, 2) := by decide +kernel
theorem dX9_readImage_85 : decode cX9_readImage 85 = .ok (.aload_n 1, 1) := by decide +kernel
theorem dX9_readImage_86 : decode cX9_readImage 86 = .ok (.iload_n 3, 1) := by decide +kernel
theorem dX9_readImage_87 : decode cX9_readImage 87 = .ok (.iconst 2, 1) := by decide +kernel
theorem dX9_readImage_88 : decode cX9_readImage 88 = .ok (.iadd, 1) := by decide +kernel
theorem dX9_readImage_89 : decode cX9_readImage 89 = .ok (.iaload, 1) := by decide +kernel
theorem dX9_readImage_90 : decode cX9_readImage 90 = .ok (.iastore, 1) := by decide +kernel
theorem dX9_readImage_91 : decode cX9_readImage 91 = .ok (.iinc 3 3, 3) := by decide +kernel
theorem dX9_readImage_94 : decode cX9_readImage 94 = .ok (.iinc 4 1, 3) := by decide +kernel
theorem dX9_readImage_97 : decode cX9_readImage 97 = .ok (.goto (-51), 3) := by decide +kernel
theorem dX9_readImage_100 : decode cX9_readImage 100 = .ok (.iconst 0, 1) := by decide +kernel
theorem dX9_readImage_101 : decode cX9_readImage 101 = .ok (.istore 4, 2) := by decide +kernel
theorem dX9_readImage_103 : decode cX9_readImage 103 = .ok (.iload 4, 2) := by decide +kernel
theorem dX9_readImage_105 : decode cX9_readImage 105 = .ok (.iload_n 2, 1) := by decide +kernel
theorem dX9_readImage_106 : decode cX9_readImage 106 = .ok (.if_icmp .ge 41, 3) := by decide +kernel
theorem dX9_readImage_109 : decode cX9_readImage 109 = .ok (.iload 4, 2) := by decide +kernel
theorem dX9_readImage_111 : decode cX9_readImage 111 = .ok (.iconst 1, 1) := by decide +kernel
theorem dX9_readImage_112 : decode cX9_readImage 112 = .ok (.iadd, 1) := by decide +kernel
theorem dX9_readImage_113 : decode cX9_readImage 113 = .ok (.istore 5, 2) := by decide +kernel
theorem dX9_readImage_115 : decode cX9_readImage 115 = .ok (.iload 5, 2) := by decide +kernel
theorem dX9_readImage_117 : decode cX9_readImage 117 = .ok (.iload_n 2, 1) := by decide +kernel
theorem dX9_readImage_118 : decode cX9_readImage 118 = .ok (.if_icmp .ge 23, 3) := by decide +kernel
theorem dX9_readImage_121 : decode cX9_readImage 121 = .ok (.aload_n 0, 1) := by decide +kernel
theorem dX9_readImage_122 : decode cX9_readImage 122 = .ok (.iload 4, 2) := by decide +kernel
theorem dX9_readImage_124 : decode cX9_readImage 124 = .ok (.iload 5, 2) := by decide +kernel
theorem dX9_readImage_126 : decode cX9_readImage 126 = .ok (.aload_n 1, 1) := by decide +kernel
theorem dX9_readImage_127 : decode cX9_readImage 127 = .ok (.iload_n 3, 1) := by decide +kernel
theorem dX9_readImage_128 : decode cX9_readImage 128 = .ok (.iaload, 1) := by decide +kernel
theorem dX9_readImage_129 : decode cX9_readImage 129 = .ok (.invokevirtual 53, 3) := by decide +kernel
theorem dX9_readImage_132 : decode cX9_readImage 132 = .ok (.iinc 3 1, 3) := by decide +kernel
theorem dX9_readImage_135 : decode cX9_readImage 135 = .ok (.iinc 5 1, 3) := by decide +kernel
theorem dX9_readImage_138 : decode cX9_readImage 138 = .ok (.goto (-23), 3) := by decide +kernel
theorem dX9_readImage_141 : decode cX9_readImage 141 = .ok (.iinc 4 1, 3) := by decide +kernel
theorem dX9_readImage_144 : decode cX9_readImage 144 = .ok (.goto (-41), 3) := by decide +kernel
theorem dX9_readImage_147 : decode cX9_readImage 147 = .ok (.return_, 1) := by decide +kernel
theorem dX10_init_0 : decode cX10_init 0 = .ok (.aload_n 0, 1) := by decide +kernel
theorem dX10_init_1 : decode cX10_init 1 = .ok (.invokespecial 3, 3) := by decide +kernel
theorem dX10_init_4 : decode cX10_init 4 = .ok (.aload_n 0, 1) := by decide +kernel
theorem dX10_init_5 : decode cX10_init 5 = .ok (.bipush 7, 2) := by decide +kernel
theorem dX10_init_7 : decode cX10_init 7 = .ok (.newarray .int, 2) := by decide +kernel
theorem dX10_init_9 : decode cX10_init 9 = .ok (.putfield 9, 3) := by decide +kernel
theorem dX10_init_12 : decode cX10_init 12 = .ok (.aload_n 0, 1) := by decide +kernel
theorem dX10_init_13 : decode cX10_init 13 = .ok (.iconst 3, 1) := by decide +kernel
theorem dX10_init_14 : decode cX10_init 14 = .ok (.newarray .int, 2) := by decide +kernel
theorem dX10_init_16 : decode cX10_init 16 = .ok (.putfield 15, 3) := by decide +kernel
theorem dX10_init_19 : decode cX10_init 19 = .ok (.aload_n 0, 1) := by decide +kernel
theorem dX10_init_20 : decode cX10_init 20 = .ok (.iconst (-1), 1) := by decide +kernel
theorem dX10_init_21 : decode cX10_init 21 = .ok (.putfield 18, 3) := by decide +kernel
theorem dX10_init_24 : decode cX10_init 24 = .ok (.aload_n 0, 1) := by decide +kernel
theorem dX10_init_25 : decode cX10_init 25 = .ok (.iconst (-1), 1) := by decide +kernel
theorem dX10_init_26 : decode cX10_init 26 = .ok (.putfield 22, 3) := by decide +kernel
theorem dX10_init_29 : decode cX10_init 29 = .ok (.aload_n 0, 1) := by decide +kernel
theorem dX10_init_30 : decode cX10_init 30 = .ok (.sipush 1024, 3) := by decide +kernel
theorem dX10_init_33 : decode cX10_init 33 = .ok (.newarray .int, 2) := by decide +kernel
theorem dX10_init_35 : decode cX10_init 35 = .ok (.putfield 25, 3) := by decide +kernel
theorem dX10_init_38 : decode cX10_init 38 = .ok (.aload_n 0, 1) := by decide +kernel
theorem dX10_init_39 : decode cX10_init 39 = .ok (.bipush 64, 2) := by decide +kernel
theorem dX10_init_41 : decode cX10_init 41 = .ok (.newarray .int, 2) := by decide +kernel
theorem dX10_init_43 : decode cX10_init 43 = .ok (.putfield 28, 3) := by decide +kernel
theorem dX10_init_46 : decode cX10_init 46 = .ok (.aload_n 0, 1) := by decide +kernel
theorem dX10_init_47 : decode cX10_init 47 = .ok (.bipush 7, 2) := by decide +kernel
theorem dX10_init_49 : decode cX10_init 49 = .ok (.newarray .int, 2) := by decide +kernel
theorem dX10_init_51 : decode cX10_init 51 = .ok (.putfield 31, 3) := by decide +kernel
theorem dX10_init_54 : decode cX10_init 54 = .ok (.aload_n 0, 1) := by decide +kernel
theorem dX10_init_55 : decode cX10_init 55 = .ok (.sipush 128, 3) := by decide +kernel
theorem dX10_init_58 : decode cX10_init 58 = .ok (.newarray .int, 2) := by decide +kernel
theorem dX10_init_60 : decode cX10_init 60 = .ok (.putfield 34, 3) := by decide +kernel
theorem dX10_init_63 : decode cX10_init 63 = .ok (.return_, 1) := by decide +kernel
theorem dX10_seat_0 : decode cX10_seat 0 = .ok (.aload_n 0, 1) := by decide +kernel
theorem dX10_seat_1 : decode cX10_seat 1 = .ok (.getfield 18, 3) := by decide +kernel
theorem dX10_seat_4 : decode cX10_seat 4 = .ok (.iload_n 3, 1) := by decide +kernel
theorem dX10_seat_5 : decode cX10_seat 5 = .ok (.if_icmp .ne 4, 3) := by decide +kernel
theorem dX10_seat_8 : decode cX10_seat 8 = .ok (.return_, 1) := by decide +kernel
theorem dX10_seat_9 : decode cX10_seat 9 = .ok (.aload_n 0, 1) := by decide +kernel
theorem dX10_seat_10 : decode cX10_seat 10 = .ok (.iload_n 3, 1) := by decide +kernel
theorem dX10_seat_11 : decode cX10_seat 11 = .ok (.putfield 18, 3) := by decide +kernel
theorem dX10_seat_14 : decode cX10_seat 14 = .ok (.aload_n 0, 1) := by decide +kernel
theorem dX10_seat_15 : decode cX10_seat 15 = .ok (.aload_n 1, 1) := by decide +kernel
theorem dX10_seat_16 : decode cX10_seat 16 = .ok (.aload_n 2, 1) := by decide +kernel
theorem dX10_seat_17 : decode cX10_seat 17 = .ok (.invokevirtual 37, 3) := by decide +kernel
theorem dX10_seat_20 : decode cX10_seat 20 = .ok (.aload_n 0, 1) := by decide +kernel
theorem dX10_seat_21 : decode cX10_seat 21 = .ok (.getfield 25, 3) := by decide +kernel
theorem dX10_seat_24 : decode cX10_seat 24 = .ok (.iconst 0, 1) := by decide +kernel
theorem dX10_seat_25 : decode cX10_seat 25 = .ok (.invokestatic 41, 3) := by decide +kernel
theorem dX10_seat_28 : decode cX10_seat 28 = .ok (.bipush 6, 2) := by decide +kernel
theorem dX10_seat_30 : decode cX10_seat 30 = .ok (.istore 4, 2) := by decide +kernel
theorem dX10_seat_32 : decode cX10_seat 32 = .ok (.iload 4, 2) := by decide +kernel
theorem dX10_seat_34 : decode cX10_seat 34 = .ok (.ifCond .lt 48, 3) := by decide +kernel
theorem dX10_seat_37 : decode cX10_seat 37 = .ok (.iconst 0, 1) := by decide +kernel
theorem dX10_seat_38 : decode cX10_seat 38 = .ok (.istore 5, 2) := by decide +kernel
theorem dX10_seat_40 : decode cX10_seat 40 = .ok (.iload 5, 2) := by decide +kernel
theorem dX10_seat_42 : decode cX10_seat 42 = .ok (.sipush 128, 3) := by decide +kernel
theorem dX10_seat_45 : decode cX10_seat 45 = .ok (.if_icmp .ge 31, 3) := by decide +kernel
theorem dX10_seat_48 : decode cX10_seat 48 = .ok (.aload_n 0, 1) := by decide +kernel
theorem dX10_seat_49 : decode cX10_seat 49 = .ok (.getfield 25, 3) := by decide +kernel
theorem dX10_seat_52 : decode cX10_seat 52 = .ok (.iload 4, 2) := by decide +kernel
theorem dX10_seat_54 : decode cX10_seat 54 = .ok (.sipush 128, 3) := by decide +kernel
theorem dX10_seat_57 : decode cX10_seat 57 = .ok (.imul, 1) := by decide +kernel
theorem dX10_seat_58 : decode cX10_seat 58 = .ok (.iload 5, 2) := by decide +kernel
theorem dX10_seat_60 : decode cX10_seat 60 = .ok (.iadd, 1) := by decide +kernel
theorem dX10_seat_61 : decode cX10_seat 61 = .ok (.aload_n 0, 1) := by decide +kernel
theorem dX10_seat_62 : decode cX10_seat 62 = .ok (.iload 4, 2) := by decide +kernel
theorem dX10_seat_64 : decode cX10_seat 64 = .ok (.iload 5, 2) := by decide +kernel
theorem dX10_seat_66 : decode cX10_seat 66 = .ok (.invokevirtual 47, 3) := by decide +kernel
theorem dX10_seat_69 : decode cX10_seat 69 = .ok (.iastore, 1) := by decide +kernel
theorem dX10_seat_70 : decode cX10_seat 70 = .ok (.iinc 5 1, 3) := by decide +kernel
theorem dX10_seat_73 : decode cX10_seat 73 = .ok (.goto (-33), 3) := by decide +kernel
theorem dX10_seat_76 : decode cX10_seat 76 = .ok (.iinc 4 (-1), 3) := by decide +kernel
theorem dX10_seat_79 : decode cX10_seat 79 = .ok (.goto (-47), 3) := by decide +kernel
theorem dX10_seat_82 : decode cX10_seat 82 = .ok (.aload_n 0, 1) := by decide +kernel
theorem dX10_seat_83 : decode cX10_seat 83 = .ok (.aload_n 2, 1) := by decide +kernel
theorem dX10_seat_84 : decode cX10_seat 84 = .ok (.invokevirtual 51, 3) := by decide +kernel
theorem dX10_seat_87 : decode cX10_seat 87 = .ok (.return_, 1) := by decide +kernel
theorem dX10_weighMeals_0 : decode cX10_weighMeals 0 = .ok (.iconst 0, 1) := by decide +kernel
theorem dX10_weighMeals_1 : decode cX10_weighMeals 1 = .ok (.istore_n 3, 1) := by decide +kernel
theorem dX10_weighMeals_2 : decode cX10_weighMeals 2 = .ok (.iload_n 3, 1) := by decide +kernel
theorem dX10_weighMeals_3 : decode cX10_weighMeals 3 = .ok (.bipush 7, 2) := by decide +kernel
theorem dX10_weighMeals_5 : decode cX10_weighMeals 5 = .ok (.if_icmp .ge 92, 3) := by decide +kernel
theorem dX10_weighMeals_8 : decode cX10_weighMeals 8 = .ok (.iconst 0, 1) := by decide +kernel
theorem dX10_weighMeals_9 : decode cX10_weighMeals 9 = .ok (.istore 4, 2) := by decide +kernel
theorem dX10_weighMeals_11 : decode cX10_weighMeals 11 = .ok (.iload 4, 2) := by decide +kernel
theorem dX10_weighMeals_13 : decode cX10_weighMeals 13 = .ok (.bipush 7, 2) := by decide +kernel
theorem dX10_weighMeals_15 : decode cX10_weighMeals 15 = .ok (.if_icmp .ge 76, 3) := by decide +kernel
theorem dX10_weighMeals_18 : decode cX10_weighMeals 18 = .ok (.aload_n 2, 1) := by decide +kernel
theorem dX10_weighMeals_19 : decode cX10_weighMeals 19 = .ok (.getfield 55, 3) := by decide +kernel
theorem dX10_weighMeals_22 : decode cX10_weighMeals 22 = .ok (.bipush 8, 2) := by decide +kernel
theorem dX10_weighMeals_24 : decode cX10_weighMeals 24 = .ok (.iload_n 3, 1) := by decide +kernel
theorem dX10_weighMeals_25 : decode cX10_weighMeals 25 = .ok (.imul, 1) := by decide +kernel
theorem dX10_weighMeals_26 : decode cX10_weighMeals 26 = .ok (.iload 4, 2) := by decide +kernel
theorem dX10_weighMeals_28 : decode cX10_weighMeals 28 = .ok (.iadd, 1) := by decide +kernel
theorem dX10_weighMeals_29 : decode cX10_weighMeals 29 = .ok (.iaload, 1) := by decide +kernel
theorem dX10_weighMeals_30 : decode cX10_weighMeals 30 = .ok (.istore 5, 2) := by decide +kernel
theorem dX10_weighMeals_32 : decode cX10_weighMeals 32 = .ok (.iload 5, 2) := by decide +kernel
theorem dX10_weighMeals_34 : decode cX10_weighMeals 34 = .ok (.ifCond .le 21, 3) := by decide +kernel
theorem dX10_weighMeals_37 : decode cX10_weighMeals 37 = .ok (.aload_n 2, 1) := by decide +kernel
theorem dX10_weighMeals_38 : decode cX10_weighMeals 38 = .ok (.getfield 60, 3) := by decide +kernel
theorem dX10_weighMeals_41 : decode cX10_weighMeals 41 = .ok (.iload 4, 2) := by decide +kernel
theorem dX10_weighMeals_43 : decode cX10_weighMeals 43 = .ok (.iaload, 1) := by decide +kernel
theorem dX10_weighMeals_44 : decode cX10_weighMeals 44 = .ok (.aload_n 1, 1) := by decide +kernel
theorem dX10_weighMeals_45 : decode cX10_weighMeals 45 = .ok (.getfield 63, 3) := by decide +kernel
theorem dX10_weighMeals_48 : decode cX10_weighMeals 48 = .ok (.if_icmp .lt 7, 3) := by decide +kernel
theorem dX10_weighMeals_51 : decode cX10_weighMeals 51 = .ok (.iconst 1, 1) := by decide +kernel
theorem dX10_weighMeals_52 : decode cX10_weighMeals 52 = .ok (.goto 4, 3) := by decide +kernel
theorem dX10_weighMeals_55 : decode cX10_weighMeals 55 = .ok (.iconst 0, 1) := by decide +kernel
theorem dX10_weighMeals_56 : decode cX10_weighMeals 56 = .ok (.istore 6, 2) := by decide +kernel
theorem dX10_weighMeals_58 : decode cX10_weighMeals 58 = .ok (.aload_n 0, 1) := by decide +kernel
theorem dX10_weighMeals_59 : decode cX10_weighMeals 59 = .ok (.getfield 28, 3) := by decide +kernel
theorem dX10_weighMeals_62 : decode cX10_weighMeals 62 = .ok (.bipush 8, 2) := by decide +kernel
theorem dX10_weighMeals_64 : decode cX10_weighMeals 64 = .ok (.iload_n 3, 1) := by decide +kernel
theorem dX10_weighMeals_65 : decode cX10_weighMeals 65 = .ok (.imul, 1) := by decide +kernel
theorem dX10_weighMeals_66 : decode cX10_weighMeals 66 = .ok (.iload 4, 2) := by decide +kernel
theorem dX10_weighMeals_68 : decode cX10_weighMeals 68 = .ok (.iadd, 1) := by decide +kernel
theorem dX10_weighMeals_69 : decode cX10_weighMeals 69 = .ok (.iload 6, 2) := by decide +kernel
theorem dX10_weighMeals_71 : decode cX10_weighMeals 71 = .ok (.ifCond .eq 12, 3) := by decide +kernel
theorem dX10_weighMeals_74 : decode cX10_weighMeals 74 = .ok (.sipush 1000, 3) := by decide +kernel
theorem dX10_weighMeals_77 : decode cX10_weighMeals 77 = .ok (.iload 5, 2) := by decide +kernel
theorem dX10_weighMeals_79 : decode cX10_weighMeals 79 = .ok (.isub, 1) := by decide +kernel
theorem dX10_weighMeals_80 : decode cX10_weighMeals 80 = .ok (.goto 4, 3) := by decide +kernel
theorem dX10_weighMeals_83 : decode cX10_weighMeals 83 = .ok (.iconst 0, 1) := by decide +kernel
theorem dX10_weighMeals_84 : decode cX10_weighMeals 84 = .ok (.iastore, 1) := by decide +kernel
theorem dX10_weighMeals_85 : decode cX10_weighMeals 85 = .ok (.iinc 4 1, 3) := by decide +kernel
theorem dX10_weighMeals_88 : decode cX10_weighMeals 88 = .ok (.goto (-77), 3) := by decide +kernel
theorem dX10_weighMeals_91 : decode cX10_weighMeals 91 = .ok (.iinc 3 1, 3) := by decide +kernel
theorem dX10_weighMeals_94 : decode cX10_weighMeals 94 = .ok (.goto (-92), 3) := by decide +kernel
theorem dX10_weighMeals_97 : decode cX10_weighMeals 97 = .ok (.return_, 1) := by decide +kernel
theorem dX10_bestFrom_0 : decode cX10_bestFrom 0 = .ok (.iload_n 1, 1) := by decide +kernel
theorem dX10_bestFrom_1 : decode cX10_bestFrom 1 = .ok (.iconst 1, 1) := by decide +kernel
theorem dX10_bestFrom_2 : decode cX10_bestFrom 2 = .ok (.iadd, 1) := by decide +kernel
theorem dX10_bestFrom_3 : decode cX10_bestFrom 3 = .ok (.sipush 128, 3) := by decide +kernel
theorem dX10_bestFrom_6 : decode cX10_bestFrom 6 = .ok (.imul, 1) := by decide +kernel
theorem dX10_bestFrom_7 : decode cX10_bestFrom 7 = .ok (.istore_n 3, 1) := by decide +kernel
theorem dX10_bestFrom_8 : decode cX10_bestFrom 8 = .ok (.aload_n 0, 1) := by decide +kernel
theorem dX10_bestFrom_9 : decode cX10_bestFrom 9 = .ok (.getfield 25, 3) := by decide +kernel
theorem dX10_bestFrom_12 : decode cX10_bestFrom 12 = .ok (.iload_n 3, 1) := by decide +kernel
theorem dX10_bestFrom_13 : decode cX10_bestFrom 13 = .ok (.iload_n 2, 1) := by decide +kernel
theorem dX10_bestFrom_14 : decode cX10_bestFrom 14 = .ok (.iadd, 1) := by decide +kernel
theorem dX10_bestFrom_15 : decode cX10_bestFrom 15 = .ok (.iaload, 1) := by decide +kernel
theorem dX10_bestFrom_16 : decode cX10_bestFrom 16 = .ok (.istore 4, 2) := by decide +kernel
theorem dX10_bestFrom_18 : decode cX10_bestFrom 18 = .ok (.iconst 0, 1) := by decide +kernel
theorem dX10_bestFrom_19 : decode cX10_bestFrom 19 = .ok (.istore 5, 2) := by decide +kernel
theorem dX10_bestFrom_21 : decode cX10_bestFrom 21 = .ok (.iload 5, 2) := by decide +kernel
theorem dX10_bestFrom_23 : decode cX10_bestFrom 23 = .ok (.bipush 7, 2) := by decide +kernel
theorem dX10_bestFrom_25 : decode cX10_bestFrom 25 = .ok (.if_icmp .ge 60, 3) := by decide +kernel
theorem dX10_bestFrom_28 : decode cX10_bestFrom 28 = .ok (.aload_n 0, 1) := by decide +kernel
theorem dX10_bestFrom_29 : decode cX10_bestFrom 29 = .ok (.getfield 28, 3) := by decide +kernel
theorem dX10_bestFrom_32 : decode cX10_bestFrom 32 = .ok (.bipush 8, 2) := by decide +kernel
theorem dX10_bestFrom_34 : decode cX10_bestFrom 34 = .ok (.iload_n 1, 1) := by decide +kernel
theorem dX10_bestFrom_35 : decode cX10_bestFrom 35 = .ok (.imul, 1) := by decide +kernel
theorem dX10_bestFrom_36 : decode cX10_bestFrom 36 = .ok (.iload 5, 2) := by decide +kernel
theorem dX10_bestFrom_38 : decode cX10_bestFrom 38 = .ok (.iadd, 1) := by decide +kernel
theorem dX10_bestFrom_39 : decode cX10_bestFrom 39 = .ok (.iaload, 1) := by decide +kernel
theorem dX10_bestFrom_40 : decode cX10_bestFrom 40 = .ok (.istore 6, 2) := by decide +kernel
theorem dX10_bestFrom_42 : decode cX10_bestFrom 42 = .ok (.iload 6, 2) := by decide +kernel
theorem dX10_bestFrom_44 : decode cX10_bestFrom 44 = .ok (.ifCond .le 35, 3) := by decide +kernel
theorem dX10_bestFrom_47 : decode cX10_bestFrom 47 = .ok (.iload_n 2, 1) := by decide +kernel
theorem dX10_bestFrom_48 : decode cX10_bestFrom 48 = .ok (.iload 5, 2) := by decide +kernel
theorem dX10_bestFrom_50 : decode cX10_bestFrom 50 = .ok (.ishr, 1) := by decide +kernel
theorem dX10_bestFrom_51 : decode cX10_bestFrom 51 = .ok (.iconst 1, 1) := by decide +kernel
theorem dX10_bestFrom_52 : decode cX10_bestFrom 52 = .ok (.iand, 1) := by decide +kernel
theorem dX10_bestFrom_53 : decode cX10_bestFrom 53 = .ok (.ifCond .ne 26, 3) := by decide +kernel
theorem dX10_bestFrom_56 : decode cX10_bestFrom 56 = .ok (.iload 4, 2) := by decide +kernel
theorem dX10_bestFrom_58 : decode cX10_bestFrom 58 = .ok (.iload 6, 2) := by decide +kernel
theorem dX10_bestFrom_60 : decode cX10_bestFrom 60 = .ok (.aload_n 0, 1) := by decide +kernel
theorem dX10_bestFrom_61 : decode cX10_bestFrom 61 = .ok (.getfield 25, 3) := by decide +kernel
theorem dX10_bestFrom_64 : decode cX10_bestFrom 64 = .ok (.iload_n 3, 1) := by decide +kernel
theorem dX10_bestFrom_65 : decode cX10_bestFrom 65 = .ok (.iload_n 2, 1) := by decide +kernel
theorem dX10_bestFrom_66 : decode cX10_bestFrom 66 = .ok (.iconst 1, 1) := by decide +kernel
theorem dX10_bestFrom_67 : decode cX10_bestFrom 67 = .ok (.iload 5, 2) := by decide +kernel
theorem dX10_bestFrom_69 : decode cX10_bestFrom 69 = .ok (.ishl, 1) := by decide +kernel
theorem dX10_bestFrom_70 : decode cX10_bestFrom 70 = .ok (.ior, 1) := by decide +kernel
theorem dX10_bestFrom_71 : decode cX10_bestFrom 71 = .ok (.iadd, 1) := by decide +kernel
theorem dX10_bestFrom_72 : decode cX10_bestFrom 72 = .ok (.iaload, 1) := by decide +kernel
theorem dX10_bestFrom_73 : decode cX10_bestFrom 73 = .ok (.iadd, 1) := by decide +kernel
theorem dX10_bestFrom_74 : decode cX10_bestFrom 74 = .ok (.invokestatic 68, 3) := by decide +kernel
theorem dX10_bestFrom_77 : decode cX10_bestFrom 77 = .ok (.istore 4, 2) := by decide +kernel
theorem dX10_bestFrom_79 : decode cX10_bestFrom 79 = .ok (.iinc 5 1, 3) := by decide +kernel
theorem dX10_bestFrom_82 : decode cX10_bestFrom 82 = .ok (.goto (-61), 3) := by decide +kernel
theorem dX10_bestFrom_85 : decode cX10_bestFrom 85 = .ok (.iload 4, 2) := by decide +kernel
theorem dX10_bestFrom_87 : decode cX10_bestFrom 87 = .ok (.ireturn, 1) := by decide +kernel
theorem dX10_readRow_0 : decode cX10_readRow 0 = .ok (.aload_n 0, 1) := by decide +kernel
theorem dX10_readRow_1 : decode cX10_readRow 1 = .ok (.iconst 0, 1) := by decide +kernel
theorem dX10_readRow_2 : decode cX10_readRow 2 = .ok (.putfield 73, 3) := by decide +kernel
theorem dX10_readRow_5 : decode cX10_readRow 5 = .ok (.aload_n 0, 1) := by decide +kernel
theorem dX10_readRow_6 : decode cX10_readRow 6 = .ok (.iconst 0, 1) := by decide +kernel
theorem dX10_readRow_7 : decode cX10_readRow 7 = .ok (.putfield 76, 3) := by decide +kernel
theorem dX10_readRow_10 : decode cX10_readRow 10 = .ok (.iconst 0, 1) := by decide +kernel
theorem dX10_readRow_11 : decode cX10_readRow 11 = .ok (.istore_n 2, 1) := by decide +kernel
theorem dX10_readRow_12 : decode cX10_readRow 12 = .ok (.iconst 0, 1) := by decide +kernel
theorem dX10_readRow_13 : decode cX10_readRow 13 = .ok (.istore_n 3, 1) := by decide +kernel
theorem dX10_readRow_14 : decode cX10_readRow 14 = .ok (.iload_n 3, 1) := by decide +kernel
theorem dX10_readRow_15 : decode cX10_readRow 15 = .ok (.bipush 7, 2) := by decide +kernel
theorem dX10_readRow_17 : decode cX10_readRow 17 = .ok (.if_icmp .ge 68, 3) := by decide +kernel
theorem dX10_readRow_20 : decode cX10_readRow 20 = .ok (.aload_n 0, 1) := by decide +kernel
theorem dX10_readRow_21 : decode cX10_readRow 21 = .ok (.iload_n 3, 1) := by decide +kernel
theorem dX10_readRow_22 : decode cX10_readRow 22 = .ok (.iload_n 2, 1) := by decide +kernel
theorem dX10_readRow_23 : decode cX10_readRow 23 = .ok (.invokevirtual 79, 3) := by decide +kernel
theorem dX10_readRow_26 : decode cX10_readRow 26 = .ok (.istore 4, 2) := by decide +kernel
theorem dX10_readRow_28 : decode cX10_readRow 28 = .ok (.aload_n 0, 1) := by decide +kernel
theorem dX10_readRow_29 : decode cX10_readRow 29 = .ok (.getfield 9, 3) := by decide +kernel
theorem dX10_readRow_32 : decode cX10_readRow 32 = .ok (.iload_n 3, 1) := by decide +kernel
theorem dX10_readRow_33 : decode cX10_readRow 33 = .ok (.iload 4, 2) := by decide +kernel
theorem dX10_readRow_35 : decode cX10_readRow 35 = .ok (.iastore, 1) := by decide +kernel
theorem dX10_readRow_36 : decode cX10_readRow 36 = .ok (.iload 4, 2) := by decide +kernel
theorem dX10_readRow_38 : decode cX10_readRow 38 = .ok (.ifCond .lt 41, 3) := by decide +kernel
theorem dX10_readRow_41 : decode cX10_readRow 41 = .ok (.aload_n 0, 1) := by decide +kernel
theorem dX10_readRow_42 : decode cX10_readRow 42 = .ok (.dup, 1) := by decide +kernel
theorem dX10_readRow_43 : decode cX10_readRow 43 = .ok (.getfield 73, 3) := by decide +kernel
theorem dX10_readRow_46 : decode cX10_readRow 46 = .ok (.iconst 1, 1) := by decide +kernel
theorem dX10_readRow_47 : decode cX10_readRow 47 = .ok (.iadd, 1) := by decide +kernel
theorem dX10_readRow_48 : decode cX10_readRow 48 = .ok (.putfield 73, 3) := by decide +kernel
theorem dX10_readRow_51 : decode cX10_readRow 51 = .ok (.aload_n 0, 1) := by decide +kernel
theorem dX10_readRow_52 : decode cX10_readRow 52 = .ok (.dup, 1) := by decide +kernel
theorem dX10_readRow_53 : decode cX10_readRow 53 = .ok (.getfield 76, 3) := by decide +kernel
theorem dX10_readRow_56 : decode cX10_readRow 56 = .ok (.aload_n 1, 1) := by decide +kernel
theorem dX10_readRow_57 : decode cX10_readRow 57 = .ok (.getfield 55, 3) := by decide +kernel
theorem dX10_readRow_60 : decode cX10_readRow 60 = .ok (.bipush 8, 2) := by decide +kernel
theorem dX10_readRow_62 : decode cX10_readRow 62 = .ok (.iload_n 3, 1) := by decide +kernel
theorem dX10_readRow_63 : decode cX10_readRow 63 = .ok (.imul, 1) := by decide +kernel
theorem dX10_readRow_64 : decode cX10_readRow 64 = .ok (.iload 4, 2) := by decide +kernel
theorem dX10_readRow_66 : decode cX10_readRow 66 = .ok (.iadd, 1) := by decide +kernel
theorem dX10_readRow_67 : decode cX10_readRow 67 = .ok (.iaload, 1) := by decide +kernel
theorem dX10_readRow_68 : decode cX10_readRow 68 = .ok (.iadd, 1) := by decide +kernel
theorem dX10_readRow_69 : decode cX10_readRow 69 = .ok (.putfield 76, 3) := by decide +kernel
theorem dX10_readRow_72 : decode cX10_readRow 72 = .ok (.iload_n 2, 1) := by decide +kernel
theorem dX10_readRow_73 : decode cX10_readRow 73 = .ok (.iconst 1, 1) := by decide +kernel
theorem dX10_readRow_74 : decode cX10_readRow 74 = .ok (.iload 4, 2) := by decide +kernel
theorem dX10_readRow_76 : decode cX10_readRow 76 = .ok (.ishl, 1) := by decide +kernel
theorem dX10_readRow_77 : decode cX10_readRow 77 = .ok (.ior, 1) := by decide +kernel
theorem dX10_readRow_78 : decode cX10_readRow 78 = .ok (.istore_n 2, 1) := by decide +kernel
theorem dX10_readRow_79 : decode cX10_readRow 79 = .ok (.iinc 3 1, 3) := by decide +kernel
theorem dX10_readRow_82 : decode cX10_readRow 82 = .ok (.goto (-68), 3) := by decide +kernel
theorem dX10_readRow_85 : decode cX10_readRow 85 = .ok (.return_, 1) := by decide +kernel
theorem dX10_firstBaker_0 : decode cX10_firstBaker 0 = .ok (.iload_n 1, 1) := by decide +kernel
theorem dX10_firstBaker_1 : decode cX10_firstBaker 1 = .ok (.iconst 1, 1) := by decide +kernel
theorem dX10_firstBaker_2 : decode cX10_firstBaker 2 = .ok (.iadd, 1) := by decide +kernel
theorem dX10_firstBaker_3 : decode cX10_firstBaker 3 = .ok (.sipush 128, 3) := by decide +kernel
theorem dX10_firstBaker_6 : decode cX10_firstBaker 6 = .ok (.imul, 1) := by decide +kernel
theorem dX10_firstBaker_7 : decode cX10_firstBaker 7 = .ok (.istore_n 3, 1) := by decide +kernel
theorem dX10_firstBaker_8 : decode cX10_firstBaker 8 = .ok (.aload_n 0, 1) := by decide +kernel
theorem dX10_firstBaker_9 : decode cX10_firstBaker 9 = .ok (.getfield 25, 3) := by decide +kernel
theorem dX10_firstBaker_12 : decode cX10_firstBaker 12 = .ok (.iload_n 1, 1) := by decide +kernel
theorem dX10_firstBaker_13 : decode cX10_firstBaker 13 = .ok (.sipush 128, 3) := by decide +kernel
theorem dX10_firstBaker_16 : decode cX10_firstBaker 16 = .ok (.imul, 1) := by decide +kernel
theorem dX10_firstBaker_17 : decode cX10_firstBaker 17 = .ok (.iload_n 2, 1) := by decide +kernel
theorem dX10_firstBaker_18 : decode cX10_firstBaker 18 = .ok (.iadd, 1) := by decide +kernel
theorem dX10_firstBaker_19 : decode cX10_firstBaker 19 = .ok (.iaload, 1) := by decide +kernel
theorem dX10_firstBaker_20 : decode cX10_firstBaker 20 = .ok (.istore 4, 2) := by decide +kernel
theorem dX10_firstBaker_22 : decode cX10_firstBaker 22 = .ok (.aload_n 0, 1) := by decide +kernel
theorem dX10_firstBaker_23 : decode cX10_firstBaker 23 = .ok (.getfield 25, 3) := by decide +kernel
theorem dX10_firstBaker_26 : decode cX10_firstBaker 26 = .ok (.iload_n 3, 1) := by decide +kernel
theorem dX10_firstBaker_27 : decode cX10_firstBaker 27 = .ok (.iload_n 2, 1) := by decide +kernel
theorem dX10_firstBaker_28 : decode cX10_firstBaker 28 = .ok (.iadd, 1) := by decide +kernel
theorem dX10_firstBaker_29 : decode cX10_firstBaker 29 = .ok (.iaload, 1) := by decide +kernel
theorem dX10_firstBaker_30 : decode cX10_firstBaker 30 = .ok (.iload 4, 2) := by decide +kernel
theorem dX10_firstBaker_32 : decode cX10_firstBaker 32 = .ok (.if_icmp .ne 5, 3) := by decide +kernel
theorem dX10_firstBaker_35 : decode cX10_firstBaker 35 = .ok (.iconst (-1), 1) := by decide +kernel
theorem dX10_firstBaker_36 : decode cX10_firstBaker 36 = .ok (.ireturn, 1) := by decide +kernel
theorem dX10_firstBaker_37 : decode cX10_firstBaker 37 = .ok (.iconst 0, 1) := by decide +kernel
theorem dX10_firstBaker_38 : decode cX10_firstBaker 38 = .ok (.istore 5, 2) := by decide +kernel
theorem dX10_firstBaker_40 : decode cX10_firstBaker 40 = .ok (.iload 5, 2) := by decide +kernel
theorem dX10_firstBaker_42 : decode cX10_firstBaker 42 = .ok (.bipush 7, 2) := by decide +kernel
theorem dX10_firstBaker_44 : decode cX10_firstBaker 44 = .ok (.if_icmp .ge 61, 3) := by decide +kernel
theorem dX10_firstBaker_47 : decode cX10_firstBaker 47 = .ok (.aload_n 0, 1) := by decide +kernel
theorem dX10_firstBaker_48 : decode cX10_firstBaker 48 = .ok (.getfield 28, 3) := by decide +kernel
theorem dX10_firstBaker_51 : decode cX10_firstBaker 51 = .ok (.bipush 8, 2) := by decide +kernel
theorem dX10_firstBaker_53 : decode cX10_firstBaker 53 = .ok (.iload_n 1, 1) := by decide +kernel
theorem dX10_firstBaker_54 : decode cX10_firstBaker 54 = .ok (.imul, 1) := by decide +kernel
theorem dX10_firstBaker_55 : decode cX10_firstBaker 55 = .ok (.iload 5, 2) := by decide +kernel
theorem dX10_firstBaker_57 : decode cX10_firstBaker 57 = .ok (.iadd, 1) := by decide +kernel
theorem dX10_firstBaker_58 : decode cX10_firstBaker 58 = .ok (.iaload, 1) := by decide +kernel
theorem dX10_firstBaker_59 : decode cX10_firstBaker 59 = .ok (.istore 6, 2) := by decide +kernel
theorem dX10_firstBaker_61 : decode cX10_firstBaker 61 = .ok (.iload 6, 2) := by decide +kernel
theorem dX10_firstBaker_63 : decode cX10_firstBaker 63 = .ok (.ifCond .le 36, 3) := by decide +kernel
theorem dX10_firstBaker_66 : decode cX10_firstBaker 66 = .ok (.iload_n 2, 1) := by decide +kernel
theorem dX10_firstBaker_67 : decode cX10_firstBaker 67 = .ok (.iload 5, 2) := by decide +kernel
theorem dX10_firstBaker_69 : decode cX10_firstBaker 69 = .ok (.ishr, 1) := by decide +kernel
theorem dX10_firstBaker_70 : decode cX10_firstBaker 70 = .ok (.iconst 1, 1) := by decide +kernel
theorem dX10_firstBaker_71 : decode cX10_firstBaker 71 = .ok (.iand, 1) := by decide +kernel
theorem dX10_firstBaker_72 : decode cX10_firstBaker 72 = .ok (.ifCond .ne 27, 3) := by decide +kernel
theorem dX10_firstBaker_75 : decode cX10_firstBaker 75 = .ok (.iload 6, 2) := by decide +kernel
theorem dX10_firstBaker_77 : decode cX10_firstBaker 77 = .ok (.aload_n 0, 1) := by decide +kernel
theorem dX10_firstBaker_78 : decode cX10_firstBaker 78 = .ok (.getfield 25, 3) := by decide +kernel
theorem dX10_firstBaker_81 : decode cX10_firstBaker 81 = .ok (.iload_n 3, 1) := by decide +kernel
theorem dX10_firstBaker_82 : decode cX10_firstBaker 82 = .ok (.iload_n 2, 1) := by decide +kernel
theorem dX10_firstBaker_83 : decode cX10_firstBaker 83 = .ok (.iconst 1, 1) := by decide +kernel
theorem dX10_firstBaker_84 : decode cX10_firstBaker 84 = .ok (.iload 5, 2) := by decide +kernel
theorem dX10_firstBaker_86 : decode cX10_firstBaker 86 = .ok (.ishl, 1) := by decide +kernel
theorem dX10_firstBaker_87 : decode cX10_firstBaker 87 = .ok (.ior, 1) := by decide +kernel
theorem dX10_firstBaker_88 : decode cX10_firstBaker 88 = .ok (.iadd, 1) := by decide +kernel
theorem dX10_firstBaker_89 : decode cX10_firstBaker 89 = .ok (.iaload, 1) := by decide +kernel
theorem dX10_firstBaker_90 : decode cX10_firstBaker 90 = .ok (.iadd, 1) := by decide +kernel
theorem dX10_firstBaker_91 : decode cX10_firstBaker 91 = .ok (.iload 4, 2) := by decide +kernel
theorem dX10_firstBaker_93 : decode cX10_firstBaker 93 = .ok (.if_icmp .ne 6, 3) := by decide +kernel
theorem dX10_firstBaker_96 : decode cX10_firstBaker 96 = .ok (.iload 5, 2) := by decide +kernel
theorem dX10_firstBaker_98 : decode cX10_firstBaker 98 = .ok (.ireturn, 1) := by decide +kernel
theorem dX10_firstBaker_99 : decode cX10_firstBaker 99 = .ok (.iinc 5 1, 3) := by decide +kernel
theorem dX10_firstBaker_102 : decode cX10_firstBaker 102 = .ok (.goto (-62), 3) := by decide +kernel
theorem dX10_firstBaker_105 : decode cX10_firstBaker 105 = .ok (.iconst (-1), 1) := by decide +kernel
theorem dX10_firstBaker_106 : decode cX10_firstBaker 106 = .ok (.ireturn, 1) := by decide +kernel
theorem dX10_seekWanted_0 : decode cX10_seekWanted 0 = .ok (.aload_n 0, 1) := by decide +kernel
theorem dX10_seekWanted_1 : decode cX10_seekWanted 1 = .ok (.getfield 22, 3) := by decide +kernel
theorem dX10_seekWanted_4 : decode cX10_seekWanted 4 = .ok (.iload_n 3, 1) := by decide +kernel
theorem dX10_seekWanted_5 : decode cX10_seekWanted 5 = .ok (.if_icmp .ne 4, 3) := by decide +kernel
theorem dX10_seekWanted_8 : decode cX10_seekWanted 8 = .ok (.return_, 1) := by decide +kernel
theorem dX10_seekWanted_9 : decode cX10_seekWanted 9 = .ok (.aload_n 0, 1) := by decide +kernel
theorem dX10_seekWanted_10 : decode cX10_seekWanted 10 = .ok (.iload_n 3, 1) := by decide +kernel
theorem dX10_seekWanted_11 : decode cX10_seekWanted 11 = .ok (.putfield 22, 3) := by decide +kernel
theorem dX10_seekWanted_14 : decode cX10_seekWanted 14 = .ok (.aload_n 0, 1) := by decide +kernel
theorem dX10_seekWanted_15 : decode cX10_seekWanted 15 = .ok (.iconst (-1), 1) := by decide +kernel
theorem dX10_seekWanted_16 : decode cX10_seekWanted 16 = .ok (.putfield 82, 3) := by decide +kernel
theorem dX10_seekWanted_19 : decode cX10_seekWanted 19 = .ok (.iconst 0, 1) := by decide +kernel
theorem dX10_seekWanted_20 : decode cX10_seekWanted 20 = .ok (.istore 4, 2) := by decide +kernel
theorem dX10_seekWanted_22 : decode cX10_seekWanted 22 = .ok (.iload 4, 2) := by decide +kernel
theorem dX10_seekWanted_24 : decode cX10_seekWanted 24 = .ok (.bipush 7, 2) := by decide +kernel
theorem dX10_seekWanted_26 : decode cX10_seekWanted 26 = .ok (.if_icmp .ge 46, 3) := by decide +kernel
theorem dX10_seekWanted_29 : decode cX10_seekWanted 29 = .ok (.aload_n 2, 1) := by decide +kernel
theorem dX10_seekWanted_30 : decode cX10_seekWanted 30 = .ok (.iload 4, 2) := by decide +kernel
theorem dX10_seekWanted_32 : decode cX10_seekWanted 32 = .ok (.invokevirtual 85, 3) := by decide +kernel
theorem dX10_seekWanted_35 : decode cX10_seekWanted 35 = .ok (.ifCond .eq 18, 3) := by decide +kernel
theorem dX10_seekWanted_38 : decode cX10_seekWanted 38 = .ok (.aload_n 2, 1) := by decide +kernel
theorem dX10_seekWanted_39 : decode cX10_seekWanted 39 = .ok (.getfield 60, 3) := by decide +kernel
theorem dX10_seekWanted_42 : decode cX10_seekWanted 42 = .ok (.iload 4, 2) := by decide +kernel
theorem dX10_seekWanted_44 : decode cX10_seekWanted 44 = .ok (.iaload, 1) := by decide +kernel
theorem dX10_seekWanted_45 : decode cX10_seekWanted 45 = .ok (.aload_n 1, 1) := by decide +kernel
theorem dX10_seekWanted_46 : decode cX10_seekWanted 46 = .ok (.getfield 63, 3) := by decide +kernel
theorem dX10_seekWanted_49 : decode cX10_seekWanted 49 = .ok (.if_icmp .ge 4, 3) := by decide +kernel
theorem dX10_seekWanted_52 : decode cX10_seekWanted 52 = .ok (.return_, 1) := by decide +kernel
theorem dX10_seekWanted_53 : decode cX10_seekWanted 53 = .ok (.aload_n 0, 1) := by decide +kernel
theorem dX10_seekWanted_54 : decode cX10_seekWanted 54 = .ok (.getfield 31, 3) := by decide +kernel
theorem dX10_seekWanted_57 : decode cX10_seekWanted 57 = .ok (.iload 4, 2) := by decide +kernel
theorem dX10_seekWanted_59 : decode cX10_seekWanted 59 = .ok (.aload_n 2, 1) := by decide +kernel
theorem dX10_seekWanted_60 : decode cX10_seekWanted 60 = .ok (.iload 4, 2) := by decide +kernel
theorem dX10_seekWanted_62 : decode cX10_seekWanted 62 = .ok (.invokestatic 89, 3) := by decide +kernel
theorem dX10_seekWanted_65 : decode cX10_seekWanted 65 = .ok (.iastore, 1) := by decide +kernel
theorem dX10_seekWanted_66 : decode cX10_seekWanted 66 = .ok (.iinc 4 1, 3) := by decide +kernel
theorem dX10_seekWanted_69 : decode cX10_seekWanted 69 = .ok (.goto (-47), 3) := by decide +kernel
theorem dX10_seekWanted_72 : decode cX10_seekWanted 72 = .ok (.iconst 0, 1) := by decide +kernel
theorem dX10_seekWanted_73 : decode cX10_seekWanted 73 = .ok (.istore 4, 2) := by decide +kernel
theorem dX10_seekWanted_75 : decode cX10_seekWanted 75 = .ok (.iload 4, 2) := by decide +kernel
theorem dX10_seekWanted_77 : decode cX10_seekWanted 77 = .ok (.iconst 3, 1) := by decide +kernel
theorem dX10_seekWanted_78 : decode cX10_seekWanted 78 = .ok (.if_icmp .gt 31, 3) := by decide +kernel
theorem dX10_seekWanted_81 : decode cX10_seekWanted 81 = .ok (.aload_n 0, 1) := by decide +kernel
theorem dX10_seekWanted_82 : decode cX10_seekWanted 82 = .ok (.aload_n 2, 1) := by decide +kernel
theorem dX10_seekWanted_83 : decode cX10_seekWanted 83 = .ok (.getfield 93, 3) := by decide +kernel
theorem dX10_seekWanted_86 : decode cX10_seekWanted 86 = .ok (.iconst 0, 1) := by decide +kernel
theorem dX10_seekWanted_87 : decode cX10_seekWanted 87 = .ok (.iconst 0, 1) := by decide +kernel
theorem dX10_seekWanted_88 : decode cX10_seekWanted 88 = .ok (.iload 4, 2) := by decide +kernel
theorem dX10_seekWanted_90 : decode cX10_seekWanted 90 = .ok (.invokevirtual 96, 3) := by decide +kernel
theorem dX10_seekWanted_93 : decode cX10_seekWanted 93 = .ok (.ifCond .eq 10, 3) := by decide +kernel
theorem dX10_seekWanted_96 : decode cX10_seekWanted 96 = .ok (.aload_n 0, 1) := by decide +kernel
theorem dX10_seekWanted_97 : decode cX10_seekWanted 97 = .ok (.iload 4, 2) := by decide +kernel
theorem dX10_seekWanted_99 : decode cX10_seekWanted 99 = .ok (.putfield 82, 3) := by decide +kernel
theorem dX10_seekWanted_102 : decode cX10_seekWanted 102 = .ok (.return_, 1) := by decide +kernel
theorem dX10_seekWanted_103 : decode cX10_seekWanted 103 = .ok (.iinc 4 1, 3) := by decide +kernel
theorem dX10_seekWanted_106 : decode cX10_seekWanted 106 = .ok (.goto (-31), 3) := by decide +kernel
theorem dX10_seekWanted_109 : decode cX10_seekWanted 109 = .ok (.return_, 1) := by decide +kernel
theorem dX10_foesOf_0 : decode cX10_foesOf 0 = .ok (.iconst 0, 1) := by decide +kernel
theorem dX10_foesOf_1 : decode cX10_foesOf 1 = .ok (.istore_n 2, 1) := by decide +kernel
theorem dX10_foesOf_2 : decode cX10_foesOf 2 = .ok (.iconst 0, 1) := by decide +kernel
theorem dX10_foesOf_3 : decode cX10_foesOf 3 = .ok (.istore_n 3, 1) := by decide +kernel
theorem dX10_foesOf_4 : decode cX10_foesOf 4 = .ok (.iload_n 3, 1) := by decide +kernel
theorem dX10_foesOf_5 : decode cX10_foesOf 5 = .ok (.bipush 7, 2) := by decide +kernel
theorem dX10_foesOf_7 : decode cX10_foesOf 7 = .ok (.if_icmp .ge 29, 3) := by decide +kernel
theorem dX10_foesOf_10 : decode cX10_foesOf 10 = .ok (.aload_n 0, 1) := by decide +kernel
theorem dX10_foesOf_11 : decode cX10_foesOf 11 = .ok (.getfield 55, 3) := by decide +kernel
theorem dX10_foesOf_14 : decode cX10_foesOf 14 = .ok (.bipush 8, 2) := by decide +kernel
theorem dX10_foesOf_16 : decode cX10_foesOf 16 = .ok (.iload_n 1, 1) := by decide +kernel
theorem dX10_foesOf_17 : decode cX10_foesOf 17 = .ok (.imul, 1) := by decide +kernel
theorem dX10_foesOf_18 : decode cX10_foesOf 18 = .ok (.iload_n 3, 1) := by decide +kernel
theorem dX10_foesOf_19 : decode cX10_foesOf 19 = .ok (.iadd, 1) := by decide +kernel
theorem dX10_foesOf_20 : decode cX10_foesOf 20 = .ok (.iaload, 1) := by decide +kernel
theorem dX10_foesOf_21 : decode cX10_foesOf 21 = .ok (.ifCond .le 9, 3) := by decide +kernel
theorem dX10_foesOf_24 : decode cX10_foesOf 24 = .ok (.iload_n 2, 1) := by decide +kernel
theorem dX10_foesOf_25 : decode cX10_foesOf 25 = .ok (.iconst 1, 1) := by decide +kernel
theorem dX10_foesOf_26 : decode cX10_foesOf 26 = .ok (.iload_n 3, 1) := by decide +kernel
theorem dX10_foesOf_27 : decode cX10_foesOf 27 = .ok (.ishl, 1) := by decide +kernel
theorem dX10_foesOf_28 : decode cX10_foesOf 28 = .ok (.ior, 1) := by decide +kernel
theorem dX10_foesOf_29 : decode cX10_foesOf 29 = .ok (.istore_n 2, 1) := by decide +kernel
theorem dX10_foesOf_30 : decode cX10_foesOf 30 = .ok (.iinc 3 1, 3) := by decide +kernel
theorem dX10_foesOf_33 : decode cX10_foesOf 33 = .ok (.goto (-29), 3) := by decide +kernel
theorem dX10_foesOf_36 : decode cX10_foesOf 36 = .ok (.iload_n 2, 1) := by decide +kernel
theorem dX10_foesOf_37 : decode cX10_foesOf 37 = .ok (.ireturn, 1) := by decide +kernel
theorem dX10_addFeuds_0 : decode cX10_addFeuds 0 = .ok (.iload_n 3, 1) := by decide +kernel
theorem dX10_addFeuds_1 : decode cX10_addFeuds 1 = .ok (.iload 4, 2) := by decide +kernel
theorem dX10_addFeuds_3 : decode cX10_addFeuds 3 = .ok (.if_icmp .ge 8, 3) := by decide +kernel
theorem dX10_addFeuds_6 : decode cX10_addFeuds 6 = .ok (.iload_n 3, 1) := by decide +kernel
theorem dX10_addFeuds_7 : decode cX10_addFeuds 7 = .ok (.iconst 3, 1) := by decide +kernel
theorem dX10_addFeuds_8 : decode cX10_addFeuds 8 = .ok (.if_icmp .lt 9, 3) := by decide +kernel
theorem dX10_addFeuds_11 : decode cX10_addFeuds 11 = .ok (.aload_n 0, 1) := by decide +kernel
theorem dX10_addFeuds_12 : decode cX10_addFeuds 12 = .ok (.iload_n 1, 1) := by decide +kernel
theorem dX10_addFeuds_13 : decode cX10_addFeuds 13 = .ok (.invokevirtual 100, 3) := by decide +kernel
theorem dX10_addFeuds_16 : decode cX10_addFeuds 16 = .ok (.ireturn, 1) := by decide +kernel
theorem dX10_addFeuds_17 : decode cX10_addFeuds 17 = .ok (.iload_n 2, 1) := by decide +kernel
theorem dX10_addFeuds_18 : decode cX10_addFeuds 18 = .ok (.istore 5, 2) := by decide +kernel
theorem dX10_addFeuds_20 : decode cX10_addFeuds 20 = .ok (.iload 5, 2) := by decide +kernel
theorem dX10_addFeuds_22 : decode cX10_addFeuds 22 = .ok (.bipush 56, 2) := by decide +kernel
theorem dX10_addFeuds_24 : decode cX10_addFeuds 24 = .ok (.if_icmp .ge 125, 3) := by decide +kernel
theorem dX10_addFeuds_27 : decode cX10_addFeuds 27 = .ok (.iload 5, 2) := by decide +kernel
theorem dX10_addFeuds_29 : decode cX10_addFeuds 29 = .ok (.bipush 8, 2) := by decide +kernel
theorem dX10_addFeuds_31 : decode cX10_addFeuds 31 = .ok (.idiv, 1) := by decide +kernel
theorem dX10_addFeuds_32 : decode cX10_addFeuds 32 = .ok (.istore 6, 2) := by decide +kernel
theorem dX10_addFeuds_34 : decode cX10_addFeuds 34 = .ok (.iload 5, 2) := by decide +kernel
theorem dX10_addFeuds_36 : decode cX10_addFeuds 36 = .ok (.bipush 8, 2) := by decide +kernel
theorem dX10_addFeuds_38 : decode cX10_addFeuds 38 = .ok (.irem, 1) := by decide +kernel
theorem dX10_addFeuds_39 : decode cX10_addFeuds 39 = .ok (.istore 7, 2) := by decide +kernel
theorem dX10_addFeuds_41 : decode cX10_addFeuds 41 = .ok (.iload 7, 2) := by decide +kernel
theorem dX10_addFeuds_43 : decode cX10_addFeuds 43 = .ok (.bipush 7, 2) := by decide +kernel
theorem dX10_addFeuds_45 : decode cX10_addFeuds 45 = .ok (.if_icmp .ge 21, 3) := by decide +kernel
theorem dX10_addFeuds_48 : decode cX10_addFeuds 48 = .ok (.iload_n 1, 1) := by decide +kernel
theorem dX10_addFeuds_49 : decode cX10_addFeuds 49 = .ok (.iload 6, 2) := by decide +kernel
theorem dX10_addFeuds_51 : decode cX10_addFeuds 51 = .ok (.ishr, 1) := by decide +kernel
theorem dX10_addFeuds_52 : decode cX10_addFeuds 52 = .ok (.iload_n 1, 1) := by decide +kernel
theorem dX10_addFeuds_53 : decode cX10_addFeuds 53 = .ok (.iload 7, 2) := by decide +kernel
theorem dX10_addFeuds_55 : decode cX10_addFeuds 55 = .ok (.ishr, 1) := by decide +kernel
theorem dX10_addFeuds_56 : decode cX10_addFeuds 56 = .ok (.iand, 1) := by decide +kernel
theorem dX10_addFeuds_57 : decode cX10_addFeuds 57 = .ok (.iconst 1, 1) := by decide +kernel
theorem dX10_addFeuds_58 : decode cX10_addFeuds 58 = .ok (.iand, 1) := by decide +kernel
theorem dX10_addFeuds_59 : decode cX10_addFeuds 59 = .ok (.ifCond .eq 7, 3) := by decide +kernel
theorem dX10_addFeuds_62 : decode cX10_addFeuds 62 = .ok (.iconst 1, 1) := by decide +kernel
theorem dX10_addFeuds_63 : decode cX10_addFeuds 63 = .ok (.goto 4, 3) := by decide +kernel
theorem dX10_addFeuds_66 : decode cX10_addFeuds 66 = .ok (.iconst 0, 1) := by decide +kernel
theorem dX10_addFeuds_67 : decode cX10_addFeuds 67 = .ok (.istore 8, 2) := by decide +kernel
theorem dX10_addFeuds_69 : decode cX10_addFeuds 69 = .ok (.iload 6, 2) := by decide +kernel
theorem dX10_addFeuds_71 : decode cX10_addFeuds 71 = .ok (.iload 7, 2) := by decide +kernel
theorem dX10_addFeuds_73 : decode cX10_addFeuds 73 = .ok (.if_icmp .ge 70, 3) := by decide +kernel
theorem dX10_addFeuds_76 : decode cX10_addFeuds 76 = .ok (.iload 8, 2) := by decide +kernel
theorem dX10_addFeuds_78 : decode cX10_addFeuds 78 = .ok (.ifCond .eq 65, 3) := by decide +kernel
theorem dX10_addFeuds_81 : decode cX10_addFeuds 81 = .ok (.aload_n 0, 1) := by decide +kernel
theorem dX10_addFeuds_82 : decode cX10_addFeuds 82 = .ok (.getfield 31, 3) := by decide +kernel
theorem dX10_addFeuds_85 : decode cX10_addFeuds 85 = .ok (.iload 6, 2) := by decide +kernel
theorem dX10_addFeuds_87 : decode cX10_addFeuds 87 = .ok (.iaload, 1) := by decide +kernel
theorem dX10_addFeuds_88 : decode cX10_addFeuds 88 = .ok (.iload 7, 2) := by decide +kernel
theorem dX10_addFeuds_90 : decode cX10_addFeuds 90 = .ok (.ishr, 1) := by decide +kernel
theorem dX10_addFeuds_91 : decode cX10_addFeuds 91 = .ok (.iconst 1, 1) := by decide +kernel
theorem dX10_addFeuds_92 : decode cX10_addFeuds 92 = .ok (.iand, 1) := by decide +kernel
theorem dX10_addFeuds_93 : decode cX10_addFeuds 93 = .ok (.ifCond .ne 50, 3) := by decide +kernel
theorem dX10_addFeuds_96 : decode cX10_addFeuds 96 = .ok (.aload_n 0, 1) := by decide +kernel
theorem dX10_addFeuds_97 : decode cX10_addFeuds 97 = .ok (.iload 6, 2) := by decide +kernel
theorem dX10_addFeuds_99 : decode cX10_addFeuds 99 = .ok (.iload 7, 2) := by decide +kernel
theorem dX10_addFeuds_101 : decode cX10_addFeuds 101 = .ok (.invokevirtual 103, 3) := by decide +kernel
theorem dX10_addFeuds_104 : decode cX10_addFeuds 104 = .ok (.aload_n 0, 1) := by decide +kernel
theorem dX10_addFeuds_105 : decode cX10_addFeuds 105 = .ok (.iload_n 1, 1) := by decide +kernel
theorem dX10_addFeuds_106 : decode cX10_addFeuds 106 = .ok (.iload 5, 2) := by decide +kernel
theorem dX10_addFeuds_108 : decode cX10_addFeuds 108 = .ok (.iconst 1, 1) := by decide +kernel
theorem dX10_addFeuds_109 : decode cX10_addFeuds 109 = .ok (.iadd, 1) := by decide +kernel
theorem dX10_addFeuds_110 : decode cX10_addFeuds 110 = .ok (.iload_n 3, 1) := by decide +kernel
theorem dX10_addFeuds_111 : decode cX10_addFeuds 111 = .ok (.iconst 1, 1) := by decide +kernel
theorem dX10_addFeuds_112 : decode cX10_addFeuds 112 = .ok (.iadd, 1) := by decide +kernel
theorem dX10_addFeuds_113 : decode cX10_addFeuds 113 = .ok (.iload 4, 2) := by decide +kernel
theorem dX10_addFeuds_115 : decode cX10_addFeuds 115 = .ok (.invokevirtual 96, 3) := by decide +kernel
theorem dX10_addFeuds_118 : decode cX10_addFeuds 118 = .ok (.istore 9, 2) := by decide +kernel
theorem dX10_addFeuds_120 : decode cX10_addFeuds 120 = .ok (.aload_n 0, 1) := by decide +kernel
theorem dX10_addFeuds_121 : decode cX10_addFeuds 121 = .ok (.iload 6, 2) := by decide +kernel
theorem dX10_addFeuds_123 : decode cX10_addFeuds 123 = .ok (.iload 7, 2) := by decide +kernel
theorem dX10_addFeuds_125 : decode cX10_addFeuds 125 = .ok (.invokevirtual 103, 3) := by decide +kernel
theorem dX10_addFeuds_128 : decode cX10_addFeuds 128 = .ok (.iload 9, 2) := by decide +kernel
theorem dX10_addFeuds_130 : decode cX10_addFeuds 130 = .ok (.ifCond .eq 13, 3) := by decide +kernel
theorem dX10_addFeuds_133 : decode cX10_addFeuds 133 = .ok (.aload_n 0, 1) := by decide +kernel
theorem dX10_addFeuds_134 : decode cX10_addFeuds 134 = .ok (.getfield 15, 3) := by decide +kernel
theorem dX10_addFeuds_137 : decode cX10_addFeuds 137 = .ok (.iload_n 3, 1) := by decide +kernel
theorem dX10_addFeuds_138 : decode cX10_addFeuds 138 = .ok (.iload 5, 2) := by decide +kernel
theorem dX10_addFeuds_140 : decode cX10_addFeuds 140 = .ok (.iastore, 1) := by decide +kernel
theorem dX10_addFeuds_141 : decode cX10_addFeuds 141 = .ok (.iconst 1, 1) := by decide +kernel
theorem dX10_addFeuds_142 : decode cX10_addFeuds 142 = .ok (.ireturn, 1) := by decide +kernel
theorem dX10_addFeuds_143 : decode cX10_addFeuds 143 = .ok (.iinc 5 1, 3) := by decide +kernel
theorem dX10_addFeuds_146 : decode cX10_addFeuds 146 = .ok (.goto (-126), 3) := by decide +kernel
theorem dX10_addFeuds_149 : decode cX10_addFeuds 149 = .ok (.iconst 0, 1) := by decide +kernel
theorem dX10_addFeuds_150 : decode cX10_addFeuds 150 = .ok (.ireturn, 1) := by decide +kernel
theorem dX10_toggle_0 : decode cX10_toggle 0 = .ok (.aload_n 0, 1) := by decide +kernel
theorem dX10_toggle_1 : decode cX10_toggle 1 = .ok (.getfield 31, 3) := by decide +kernel
theorem dX10_toggle_4 : decode cX10_toggle 4 = .ok (.iload_n 1, 1) := by decide +kernel
theorem dX10_toggle_5 : decode cX10_toggle 5 = .ok (.dup2, 1) := by decide +kernel
theorem dX10_toggle_6 : decode cX10_toggle 6 = .ok (.iaload, 1) := by decide +kernel
theorem dX10_toggle_7 : decode cX10_toggle 7 = .ok (.iconst 1, 1) := by decide +kernel
theorem dX10_toggle_8 : decode cX10_toggle 8 = .ok (.iload_n 2, 1) := by decide +kernel
theorem dX10_toggle_9 : decode cX10_toggle 9 = .ok (.ishl, 1) := by decide +kernel
theorem dX10_toggle_10 : decode cX10_toggle 10 = .ok (.ixor, 1) := by decide +kernel
theorem dX10_toggle_11 : decode cX10_toggle 11 = .ok (.iastore, 1) := by decide +kernel
theorem dX10_toggle_12 : decode cX10_toggle 12 = .ok (.aload_n 0, 1) := by decide +kernel
theorem dX10_toggle_13 : decode cX10_toggle 13 = .ok (.getfield 31, 3) := by decide +kernel
theorem dX10_toggle_16 : decode cX10_toggle 16 = .ok (.iload_n 2, 1) := by decide +kernel
theorem dX10_toggle_17 : decode cX10_toggle 17 = .ok (.dup2, 1) := by decide +kernel
theorem dX10_toggle_18 : decode cX10_toggle 18 = .ok (.iaload, 1) := by decide +kernel
theorem dX10_toggle_19 : decode cX10_toggle 19 = .ok (.iconst 1, 1) := by decide +kernel
theorem dX10_toggle_20 : decode cX10_toggle 20 = .ok (.iload_n 1, 1) := by decide +kernel
theorem dX10_toggle_21 : decode cX10_toggle 21 = .ok (.ishl, 1) := by decide +kernel
theorem dX10_toggle_22 : decode cX10_toggle 22 = .ok (.ixor, 1) := by decide +kernel
theorem dX10_toggle_23 : decode cX10_toggle 23 = .ok (.iastore, 1) := by decide +kernel
theorem dX10_toggle_24 : decode cX10_toggle 24 = .ok (.return_, 1) := by decide +kernel
theorem dX10_allEat_0 : decode cX10_allEat 0 = .ok (.aload_n 0, 1) := by decide +kernel
theorem dX10_allEat_1 : decode cX10_allEat 1 = .ok (.getfield 34, 3) := by decide +kernel
theorem dX10_allEat_4 : decode cX10_allEat 4 = .ok (.iconst 0, 1) := by decide +kernel
theorem dX10_allEat_5 : decode cX10_allEat 5 = .ok (.invokestatic 41, 3) := by decide +kernel
theorem dX10_allEat_8 : decode cX10_allEat 8 = .ok (.aload_n 0, 1) := by decide +kernel
theorem dX10_allEat_9 : decode cX10_allEat 9 = .ok (.getfield 34, 3) := by decide +kernel
theorem dX10_allEat_12 : decode cX10_allEat 12 = .ok (.iconst 0, 1) := by decide +kernel
theorem dX10_allEat_13 : decode cX10_allEat 13 = .ok (.iconst 1, 1) := by decide +kernel
theorem dX10_allEat_14 : decode cX10_allEat 14 = .ok (.iastore, 1) := by decide +kernel
theorem dX10_allEat_15 : decode cX10_allEat 15 = .ok (.iconst 0, 1) := by decide +kernel
theorem dX10_allEat_16 : decode cX10_allEat 16 = .ok (.istore_n 2, 1) := by decide +kernel
theorem dX10_allEat_17 : decode cX10_allEat 17 = .ok (.iload_n 2, 1) := by decide +kernel
theorem dX10_allEat_18 : decode cX10_allEat 18 = .ok (.bipush 127, 2) := by decide +kernel
theorem dX10_allEat_20 : decode cX10_allEat 20 = .ok (.if_icmp .ge 89, 3) := by decide +kernel
theorem dX10_allEat_23 : decode cX10_allEat 23 = .ok (.aload_n 0, 1) := by decide +kernel
theorem dX10_allEat_24 : decode cX10_allEat 24 = .ok (.getfield 34, 3) := by decide +kernel
theorem dX10_allEat_27 : decode cX10_allEat 27 = .ok (.iload_n 2, 1) := by decide +kernel
theorem dX10_allEat_28 : decode cX10_allEat 28 = .ok (.iaload, 1) := by decide +kernel
theorem dX10_allEat_29 : decode cX10_allEat 29 = .ok (.ifCond .ne 7, 3) := by decide +kernel
theorem dX10_allEat_32 : decode cX10_allEat 32 = .ok (.iconst (-1), 1) := by decide +kernel
theorem dX10_allEat_33 : decode cX10_allEat 33 = .ok (.goto 11, 3) := by decide +kernel
theorem dX10_allEat_36 : decode cX10_allEat 36 = .ok (.iload_n 1, 1) := by decide +kernel
theorem dX10_allEat_37 : decode cX10_allEat 37 = .ok (.iload_n 2, 1) := by decide +kernel
theorem dX10_allEat_38 : decode cX10_allEat 38 = .ok (.invokestatic 107, 3) := by decide +kernel
theorem dX10_allEat_41 : decode cX10_allEat 41 = .ok (.invokestatic 113, 3) := by decide +kernel
theorem dX10_allEat_44 : decode cX10_allEat 44 = .ok (.istore_n 3, 1) := by decide +kernel
theorem dX10_allEat_45 : decode cX10_allEat 45 = .ok (.iload_n 3, 1) := by decide +kernel
theorem dX10_allEat_46 : decode cX10_allEat 46 = .ok (.ifCond .ge 7, 3) := by decide +kernel
theorem dX10_allEat_49 : decode cX10_allEat 49 = .ok (.iconst 0, 1) := by decide +kernel
theorem dX10_allEat_50 : decode cX10_allEat 50 = .ok (.goto 13, 3) := by decide +kernel
theorem dX10_allEat_53 : decode cX10_allEat 53 = .ok (.aload_n 0, 1) := by decide +kernel
theorem dX10_allEat_54 : decode cX10_allEat 54 = .ok (.getfield 31, 3) := by decide +kernel
theorem dX10_allEat_57 : decode cX10_allEat 57 = .ok (.iload_n 3, 1) := by decide +kernel
theorem dX10_allEat_58 : decode cX10_allEat 58 = .ok (.iaload, 1) := by decide +kernel
theorem dX10_allEat_59 : decode cX10_allEat 59 = .ok (.iload_n 2, 1) := by decide +kernel
theorem dX10_allEat_60 : decode cX10_allEat 60 = .ok (.iconst (-1), 1) := by decide +kernel
theorem dX10_allEat_61 : decode cX10_allEat 61 = .ok (.ixor, 1) := by decide +kernel
theorem dX10_allEat_62 : decode cX10_allEat 62 = .ok (.iand, 1) := by decide +kernel
theorem dX10_allEat_63 : decode cX10_allEat 63 = .ok (.istore 4, 2) := by decide +kernel
theorem dX10_allEat_65 : decode cX10_allEat 65 = .ok (.iconst 0, 1) := by decide +kernel
theorem dX10_allEat_66 : decode cX10_allEat 66 = .ok (.istore 5, 2) := by decide +kernel
theorem dX10_allEat_68 : decode cX10_allEat 68 = .ok (.iload 5, 2) := by decide +kernel
theorem dX10_allEat_70 : decode cX10_allEat 70 = .ok (.bipush 7, 2) := by decide +kernel
theorem dX10_allEat_72 : decode cX10_allEat 72 = .ok (.if_icmp .ge 31, 3) := by decide +kernel
theorem dX10_allEat_75 : decode cX10_allEat 75 = .ok (.iload 4, 2) := by decide +kernel
theorem dX10_allEat_77 : decode cX10_allEat 77 = .ok (.iload 5, 2) := by decide +kernel
theorem dX10_allEat_79 : decode cX10_allEat 79 = .ok (.ishr, 1) := by decide +kernel
theorem dX10_allEat_80 : decode cX10_allEat 80 = .ok (.iconst 1, 1) := by decide +kernel
theorem dX10_allEat_81 : decode cX10_allEat 81 = .ok (.iand, 1) := by decide +kernel
theorem dX10_allEat_82 : decode cX10_allEat 82 = .ok (.ifCond .eq 15, 3) := by decide +kernel
theorem dX10_allEat_85 : decode cX10_allEat 85 = .ok (.aload_n 0, 1) := by decide +kernel
theorem dX10_allEat_86 : decode cX10_allEat 86 = .ok (.getfield 34, 3) := by decide +kernel
theorem dX10_allEat_89 : decode cX10_allEat 89 = .ok (.iload_n 2, 1) := by decide +kernel
theorem dX10_allEat_90 : decode cX10_allEat 90 = .ok (.iconst 1, 1) := by decide +kernel
theorem dX10_allEat_91 : decode cX10_allEat 91 = .ok (.iload 5, 2) := by decide +kernel
theorem dX10_allEat_93 : decode cX10_allEat 93 = .ok (.ishl, 1) := by decide +kernel
theorem dX10_allEat_94 : decode cX10_allEat 94 = .ok (.ior, 1) := by decide +kernel
theorem dX10_allEat_95 : decode cX10_allEat 95 = .ok (.iconst 1, 1) := by decide +kernel
theorem dX10_allEat_96 : decode cX10_allEat 96 = .ok (.iastore, 1) := by decide +kernel
theorem dX10_allEat_97 : decode cX10_allEat 97 = .ok (.iinc 5 1, 3) := by decide +kernel
theorem dX10_allEat_100 : decode cX10_allEat 100 = .ok (.goto (-32), 3) := by decide +kernel
theorem dX10_allEat_103 : decode cX10_allEat 103 = .ok (.iinc 2 1, 3) := by decide +kernel
theorem dX10_allEat_106 : decode cX10_allEat 106 = .ok (.goto (-89), 3) := by decide +kernel
theorem dX10_allEat_109 : decode cX10_allEat 109 = .ok (.iload_n 1, 1) := by decide +kernel
theorem dX10_allEat_110 : decode cX10_allEat 110 = .ok (.ifCond .lt 23, 3) := by decide +kernel
theorem dX10_allEat_113 : decode cX10_allEat 113 = .ok (.iload_n 1, 1) := by decide +kernel
theorem dX10_allEat_114 : decode cX10_allEat 114 = .ok (.sipush 128, 3) := by decide +kernel
theorem dX10_allEat_117 : decode cX10_allEat 117 = .ok (.if_icmp .ge 16, 3) := by decide +kernel
theorem dX10_allEat_120 : decode cX10_allEat 120 = .ok (.aload_n 0, 1) := by decide +kernel
theorem dX10_allEat_121 : decode cX10_allEat 121 = .ok (.getfield 34, 3) := by decide +kernel
theorem dX10_allEat_124 : decode cX10_allEat 124 = .ok (.iload_n 1, 1) := by decide +kernel
theorem dX10_allEat_125 : decode cX10_allEat 125 = .ok (.iaload, 1) := by decide +kernel
theorem dX10_allEat_126 : decode cX10_allEat 126 = .ok (.ifCond .eq 7, 3) := by decide +kernel
theorem dX10_allEat_129 : decode cX10_allEat 129 = .ok (.iconst 1, 1) := by decide +kernel
theorem dX10_allEat_130 : decode cX10_allEat 130 = .ok (.goto 4, 3) := by decide +kernel
theorem dX10_allEat_133 : decode cX10_allEat 133 = .ok (.iconst 0, 1) := by decide +kernel
theorem dX10_allEat_134 : decode cX10_allEat 134 = .ok (.ireturn, 1) := by decide +kernel
theorem dX10_memberAt_0 : decode cX10_memberAt 0 = .ok (.iload_n 1, 1) := by decide +kernel
theorem dX10_memberAt_1 : decode cX10_memberAt 1 = .ok (.istore_n 2, 1) := by decide +kernel
theorem dX10_memberAt_2 : decode cX10_memberAt 2 = .ok (.iconst 0, 1) := by decide +kernel
theorem dX10_memberAt_3 : decode cX10_memberAt 3 = .ok (.istore_n 3, 1) := by decide +kernel
theorem dX10_memberAt_4 : decode cX10_memberAt 4 = .ok (.iload_n 3, 1) := by decide +kernel
theorem dX10_memberAt_5 : decode cX10_memberAt 5 = .ok (.bipush 7, 2) := by decide +kernel
theorem dX10_memberAt_7 : decode cX10_memberAt 7 = .ok (.if_icmp .ge 26, 3) := by decide +kernel
theorem dX10_memberAt_10 : decode cX10_memberAt 10 = .ok (.iload_n 0, 1) := by decide +kernel
theorem dX10_memberAt_11 : decode cX10_memberAt 11 = .ok (.iload_n 3, 1) := by decide +kernel
theorem dX10_memberAt_12 : decode cX10_memberAt 12 = .ok (.ishr, 1) := by decide +kernel
theorem dX10_memberAt_13 : decode cX10_memberAt 13 = .ok (.iconst 1, 1) := by decide +kernel
theorem dX10_memberAt_14 : decode cX10_memberAt 14 = .ok (.iand, 1) := by decide +kernel
theorem dX10_memberAt_15 : decode cX10_memberAt 15 = .ok (.ifCond .eq 12, 3) := by decide +kernel
theorem dX10_memberAt_18 : decode cX10_memberAt 18 = .ok (.iload_n 2, 1) := by decide +kernel
theorem dX10_memberAt_19 : decode cX10_memberAt 19 = .ok (.ifCond .ne 5, 3) := by decide +kernel
theorem dX10_memberAt_22 : decode cX10_memberAt 22 = .ok (.iload_n 3, 1) := by decide +kernel
theorem dX10_memberAt_23 : decode cX10_memberAt 23 = .ok (.ireturn, 1) := by decide +kernel
theorem dX10_memberAt_24 : decode cX10_memberAt 24 = .ok (.iinc 2 (-1), 3) := by decide +kernel
theorem dX10_memberAt_27 : decode cX10_memberAt 27 = .ok (.iinc 3 1, 3) := by decide +kernel
theorem dX10_memberAt_30 : decode cX10_memberAt 30 = .ok (.goto (-26), 3) := by decide +kernel
theorem dX10_memberAt_33 : decode cX10_memberAt 33 = .ok (.iconst (-1), 1) := by decide +kernel
theorem dX10_memberAt_34 : decode cX10_memberAt 34 = .ok (.ireturn, 1) := by decide +kernel
theorem dX11_init_0 : decode cX11_init 0 = .ok (.aload_n 0, 1) := by decide +kernel
theorem dX11_init_1 : decode cX11_init 1 = .ok (.invokespecial 1, 3) := by decide +kernel
theorem dX11_init_4 : decode cX11_init 4 = .ok (.aload_n 0, 1) := by decide +kernel
theorem dX11_init_5 : decode cX11_init 5 = .ok (.sipush 1600, 3) := by decide +kernel
theorem dX11_init_8 : decode cX11_init 8 = .ok (.newarray .int, 2) := by decide +kernel
theorem dX11_init_10 : decode cX11_init 10 = .ok (.putfield 9, 3) := by decide +kernel
theorem dX11_init_13 : decode cX11_init 13 = .ok (.aload_n 0, 1) := by decide +kernel
theorem dX11_init_14 : decode cX11_init 14 = .ok (.bipush 6, 2) := by decide +kernel
theorem dX11_init_16 : decode cX11_init 16 = .ok (.newarray .int, 2) := by decide +kernel
theorem dX11_init_18 : decode cX11_init 18 = .ok (.putfield 13, 3) := by decide +kernel
theorem dX11_init_21 : decode cX11_init 21 = .ok (.aload_n 0, 1) := by decide +kernel
theorem dX11_init_22 : decode cX11_init 22 = .ok (.iconst (-1), 1) := by decide +kernel
theorem dX11_init_23 : decode cX11_init 23 = .ok (.putfield 16, 3) := by decide +kernel
theorem dX11_init_26 : decode cX11_init 26 = .ok (.aload_n 0, 1) := by decide +kernel
theorem dX11_init_27 : decode cX11_init 27 = .ok (.iconst 1, 1) := by decide +kernel
theorem dX11_init_28 : decode cX11_init 28 = .ok (.putfield 20, 3) := by decide +kernel
theorem dX11_init_31 : decode cX11_init 31 = .ok (.aload_n 0, 1) := by decide +kernel
theorem dX11_init_32 : decode cX11_init 32 = .ok (.bipush 7, 2) := by decide +kernel
theorem dX11_init_34 : decode cX11_init 34 = .ok (.invokestatic 23, 3) := by decide +kernel
theorem dX11_init_37 : decode cX11_init 37 = .ok (.newarray .int, 2) := by decide +kernel
theorem dX11_init_39 : decode cX11_init 39 = .ok (.putfield 29, 3) := by decide +kernel
theorem dX11_init_42 : decode cX11_init 42 = .ok (.aload_n 0, 1) := by decide +kernel
theorem dX11_init_43 : decode cX11_init 43 = .ok (.new 32, 3) := by decide +kernel
theorem dX11_init_46 : decode cX11_init 46 = .ok (.dup, 1) := by decide +kernel
theorem dX11_init_47 : decode cX11_init 47 = .ok (.invokespecial 34, 3) := by decide +kernel
theorem dX11_init_50 : decode cX11_init 50 = .ok (.putfield 35, 3) := by decide +kernel
theorem dX11_init_53 : decode cX11_init 53 = .ok (.aload_n 0, 1) := by decide +kernel
theorem dX11_init_54 : decode cX11_init 54 = .ok (.new 39, 3) := by decide +kernel
theorem dX11_init_57 : decode cX11_init 57 = .ok (.dup, 1) := by decide +kernel
theorem dX11_init_58 : decode cX11_init 58 = .ok (.invokespecial 41, 3) := by decide +kernel
theorem dX11_init_61 : decode cX11_init 61 = .ok (.putfield 42, 3) := by decide +kernel
theorem dX11_init_64 : decode cX11_init 64 = .ok (.aload_n 0, 1) := by decide +kernel
theorem dX11_init_65 : decode cX11_init 65 = .ok (.new 46, 3) := by decide +kernel
theorem dX11_init_68 : decode cX11_init 68 = .ok (.dup, 1) := by decide +kernel
theorem dX11_init_69 : decode cX11_init 69 = .ok (.invokespecial 48, 3) := by decide +kernel
theorem dX11_init_72 : decode cX11_init 72 = .ok (.putfield 49, 3) := by decide +kernel
theorem dX11_init_75 : decode cX11_init 75 = .ok (.aload_n 0, 1) := by decide +kernel
theorem dX11_init_76 : decode cX11_init 76 = .ok (.aload_n 0, 1) := by decide +kernel
theorem dX11_init_77 : decode cX11_init 77 = .ok (.getfield 49, 3) := by decide +kernel
theorem dX11_init_80 : decode cX11_init 80 = .ok (.getfield 53, 3) := by decide +kernel
theorem dX11_init_83 : decode cX11_init 83 = .ok (.putfield 57, 3) := by decide +kernel
theorem dX11_init_86 : decode cX11_init 86 = .ok (.aload_n 0, 1) := by decide +kernel
theorem dX11_init_87 : decode cX11_init 87 = .ok (.new 24, 3) := by decide +kernel
theorem dX11_init_90 : decode cX11_init 90 = .ok (.dup, 1) := by decide +kernel
theorem dX11_init_91 : decode cX11_init 91 = .ok (.invokespecial 58, 3) := by decide +kernel
theorem dX11_init_94 : decode cX11_init 94 = .ok (.putfield 59, 3) := by decide +kernel
theorem dX11_init_97 : decode cX11_init 97 = .ok (.aload_n 0, 1) := by decide +kernel
theorem dX11_init_98 : decode cX11_init 98 = .ok (.new 24, 3) := by decide +kernel
theorem dX11_init_101 : decode cX11_init 101 = .ok (.dup, 1) := by decide +kernel
theorem dX11_init_102 : decode cX11_init 102 = .ok (.invokespecial 58, 3) := by decide +kernel
theorem dX11_init_105 : decode cX11_init 105 = .ok (.putfield 63, 3) := by decide +kernel
theorem dX11_init_108 : decode cX11_init 108 = .ok (.aload_n 0, 1) := by decide +kernel
theorem dX11_init_109 : decode cX11_init 109 = .ok (.new 66, 3) := by decide +kernel
theorem dX11_init_112 : decode cX11_init 112 = .ok (.dup, 1) := by decide +kernel
theorem dX11_init_113 : decode cX11_init 113 = .ok (.invokespecial 68, 3) := by decide +kernel
theorem dX11_init_116 : decode cX11_init 116 = .ok (.putfield 69, 3) := by decide +kernel
theorem dX11_init_119 : decode cX11_init 119 = .ok (.aload_n 0, 1) := by decide +kernel
theorem dX11_init_120 : decode cX11_init 120 = .ok (.new 73, 3) := by decide +kernel
theorem dX11_init_123 : decode cX11_init 123 = .ok (.dup, 1) := by decide +kernel
theorem dX11_init_124 : decode cX11_init 124 = .ok (.invokespecial 75, 3) := by decide +kernel
theorem dX11_init_127 : decode cX11_init 127 = .ok (.putfield 76, 3) := by decide +kernel
theorem dX11_init_130 : decode cX11_init 130 = .ok (.aload_n 0, 1) := by decide +kernel
theorem dX11_init_131 : decode cX11_init 131 = .ok (.new 80, 3) := by decide +kernel
theorem dX11_init_134 : decode cX11_init 134 = .ok (.dup, 1) := by decide +kernel
theorem dX11_init_135 : decode cX11_init 135 = .ok (.invokespecial 82, 3) := by decide +kernel
theorem dX11_init_138 : decode cX11_init 138 = .ok (.putfield 83, 3) := by decide +kernel
theorem dX11_init_141 : decode cX11_init 141 = .ok (.aload_n 0, 1) := by decide +kernel
theorem dX11_init_142 : decode cX11_init 142 = .ok (.new 87, 3) := by decide +kernel
theorem dX11_init_145 : decode cX11_init 145 = .ok (.dup, 1) := by decide +kernel
theorem dX11_init_146 : decode cX11_init 146 = .ok (.invokespecial 89, 3) := by decide +kernel
theorem dX11_init_149 : decode cX11_init 149 = .ok (.putfield 90, 3) := by decide +kernel
theorem dX11_init_152 : decode cX11_init 152 = .ok (.return_, 1) := by decide +kernel
theorem dX11_feed_0 : decode cX11_feed 0 = .ok (.aload_n 0, 1) := by decide +kernel
theorem dX11_feed_1 : decode cX11_feed 1 = .ok (.getfield 94, 3) := by decide +kernel
theorem dX11_feed_4 : decode cX11_feed 4 = .ok (.bipush 20, 2) := by decide +kernel
theorem dX11_feed_6 : decode cX11_feed 6 = .ok (.iadd, 1) := by decide +kernel
theorem dX11_feed_7 : decode cX11_feed 7 = .ok (.sipush 1600, 3) := by decide +kernel
theorem dX11_feed_10 : decode cX11_feed 10 = .ok (.if_icmp .le 9, 3) := by decide +kernel
theorem dX11_feed_13 : decode cX11_feed 13 = .ok (.aload_n 0, 1) := by decide +kernel
theorem dX11_feed_14 : decode cX11_feed 14 = .ok (.iconst 0, 1) := by decide +kernel
theorem dX11_feed_15 : decode cX11_feed 15 = .ok (.invokevirtual 97, 3) := by decide +kernel
theorem dX11_feed_18 : decode cX11_feed 18 = .ok (.ireturn, 1) := by decide +kernel
theorem dX11_feed_19 : decode cX11_feed 19 = .ok (.aload_n 0, 1) := by decide +kernel
theorem dX11_feed_20 : decode cX11_feed 20 = .ok (.iload_n 1, 1) := by decide +kernel
theorem dX11_feed_21 : decode cX11_feed 21 = .ok (.invokevirtual 100, 3) := by decide +kernel
theorem dX11_feed_24 : decode cX11_feed 24 = .ok (.aload_n 0, 1) := by decide +kernel
theorem dX11_feed_25 : decode cX11_feed 25 = .ok (.iload_n 2, 1) := by decide +kernel
theorem dX11_feed_26 : decode cX11_feed 26 = .ok (.invokevirtual 100, 3) := by decide +kernel
theorem dX11_feed_29 : decode cX11_feed 29 = .ok (.aload_n 0, 1) := by decide +kernel
theorem dX11_feed_30 : decode cX11_feed 30 = .ok (.iload_n 3, 1) := by decide +kernel
theorem dX11_feed_31 : decode cX11_feed 31 = .ok (.invokevirtual 100, 3) := by decide +kernel
theorem dX11_feed_34 : decode cX11_feed 34 = .ok (.aload_n 0, 1) := by decide +kernel
theorem dX11_feed_35 : decode cX11_feed 35 = .ok (.iload 4, 2) := by decide +kernel
theorem dX11_feed_37 : decode cX11_feed 37 = .ok (.invokevirtual 100, 3) := by decide +kernel
theorem dX11_feed_40 : decode cX11_feed 40 = .ok (.aload_n 0, 1) := by decide +kernel
theorem dX11_feed_41 : decode cX11_feed 41 = .ok (.iload 5, 2) := by decide +kernel
theorem dX11_feed_43 : decode cX11_feed 43 = .ok (.invokevirtual 100, 3) := by decide +kernel
theorem dX11_feed_46 : decode cX11_feed 46 = .ok (.aload_n 0, 1) := by decide +kernel
theorem dX11_feed_47 : decode cX11_feed 47 = .ok (.getfield 94, 3) := by decide +kernel
theorem dX11_feed_50 : decode cX11_feed 50 = .ok (.ireturn, 1) := by decide +kernel
theorem dX11_end_0 : decode cX11_end 0 = .ok (.iload_n 1, 1) := by decide +kernel
theorem dX11_end_1 : decode cX11_end 1 = .ok (.ifCond .lt 11, 3) := by decide +kernel
theorem dX11_end_4 : decode cX11_end 4 = .ok (.iload_n 1, 1) := by decide +kernel
theorem dX11_end_5 : decode cX11_end 5 = .ok (.aload_n 0, 1) := by decide +kernel
theorem dX11_end_6 : decode cX11_end 6 = .ok (.getfield 94, 3) := by decide +kernel
theorem dX11_end_9 : decode cX11_end 9 = .ok (.if_icmp .le 11, 3) := by decide +kernel
theorem dX11_end_12 : decode cX11_end 12 = .ok (.aload_n 0, 1) := by decide +kernel
theorem dX11_end_13 : decode cX11_end 13 = .ok (.iconst 0, 1) := by decide +kernel
theorem dX11_end_14 : decode cX11_end 14 = .ok (.invokevirtual 97, 3) := by decide +kernel
theorem dX11_end_17 : decode cX11_end 17 = .ok (.pop, 1) := by decide +kernel
theorem dX11_end_18 : decode cX11_end 18 = .ok (.iconst 0, 1) := by decide +kernel
theorem dX11_end_19 : decode cX11_end 19 = .ok (.ireturn, 1) := by decide +kernel
theorem dX11_end_20 : decode cX11_end 20 = .ok (.aload_n 0, 1) := by decide +kernel
theorem dX11_end_21 : decode cX11_end 21 = .ok (.iload_n 1, 1) := by decide +kernel
theorem dX11_end_22 : decode cX11_end 22 = .ok (.putfield 94, 3) := by decide +kernel
theorem dX11_end_25 : decode cX11_end 25 = .ok (.iconst 1, 1) := by decide +kernel
theorem dX11_end_26 : decode cX11_end 26 = .ok (.ireturn, 1) := by decide +kernel
theorem dX11_duchy_0 : decode cX11_duchy 0 = .ok (.aload_n 0, 1) := by decide +kernel
theorem dX11_duchy_1 : decode cX11_duchy 1 = .ok (.getfield 35, 3) := by decide +kernel
theorem dX11_duchy_4 : decode cX11_duchy 4 = .ok (.aload_n 0, 1) := by decide +kernel
theorem dX11_duchy_5 : decode cX11_duchy 5 = .ok (.getfield 9, 3) := by decide +kernel
theorem dX11_duchy_8 : decode cX11_duchy 8 = .ok (.aload_n 0, 1) := by decide +kernel
theorem dX11_duchy_9 : decode cX11_duchy 9 = .ok (.invokevirtual 104, 3) := by decide +kernel
theorem dX11_duchy_12 : decode cX11_duchy 12 = .ok (.invokevirtual 108, 3) := by decide +kernel
theorem dX11_duchy_15 : decode cX11_duchy 15 = .ok (.aload_n 0, 1) := by decide +kernel
theorem dX11_duchy_16 : decode cX11_duchy 16 = .ok (.aload_n 0, 1) := by decide +kernel
theorem dX11_duchy_17 : decode cX11_duchy 17 = .ok (.getfield 35, 3) := by decide +kernel
theorem dX11_duchy_20 : decode cX11_duchy 20 = .ok (.getfield 112, 3) := by decide +kernel
theorem dX11_duchy_23 : decode cX11_duchy 23 = .ok (.invokevirtual 116, 3) := by decide +kernel
theorem dX11_duchy_26 : decode cX11_duchy 26 = .ok (.aload_n 0, 1) := by decide +kernel
theorem dX11_duchy_27 : decode cX11_duchy 27 = .ok (.getfield 120, 3) := by decide +kernel
theorem dX11_duchy_30 : decode cX11_duchy 30 = .ok (.ifCond .eq 9, 3) := by decide +kernel
theorem dX11_duchy_33 : decode cX11_duchy 33 = .ok (.aload_n 0, 1) := by decide +kernel
theorem dX11_duchy_34 : decode cX11_duchy 34 = .ok (.iconst 1, 1) := by decide +kernel
theorem dX11_duchy_35 : decode cX11_duchy 35 = .ok (.invokevirtual 97, 3) := by decide +kernel
theorem dX11_duchy_38 : decode cX11_duchy 38 = .ok (.ireturn, 1) := by decide +kernel
theorem dX11_duchy_39 : decode cX11_duchy 39 = .ok (.aload_n 0, 1) := by decide +kernel
theorem dX11_duchy_40 : decode cX11_duchy 40 = .ok (.aload_n 0, 1) := by decide +kernel
theorem dX11_duchy_41 : decode cX11_duchy 41 = .ok (.getfield 35, 3) := by decide +kernel
theorem dX11_duchy_44 : decode cX11_duchy 44 = .ok (.aload_n 0, 1) := by decide +kernel
theorem dX11_duchy_45 : decode cX11_duchy 45 = .ok (.getfield 57, 3) := by decide +kernel
theorem dX11_duchy_48 : decode cX11_duchy 48 = .ok (.invokevirtual 123, 3) := by decide +kernel
theorem dX11_duchy_51 : decode cX11_duchy 51 = .ok (.putfield 57, 3) := by decide +kernel
theorem dX11_duchy_54 : decode cX11_duchy 54 = .ok (.aload_n 0, 1) := by decide +kernel
theorem dX11_duchy_55 : decode cX11_duchy 55 = .ok (.getfield 49, 3) := by decide +kernel
theorem dX11_duchy_58 : decode cX11_duchy 58 = .ok (.aload_n 0, 1) := by decide +kernel
theorem dX11_duchy_59 : decode cX11_duchy 59 = .ok (.getfield 57, 3) := by decide +kernel
theorem dX11_duchy_62 : decode cX11_duchy 62 = .ok (.putfield 53, 3) := by decide +kernel
theorem dX11_duchy_65 : decode cX11_duchy 65 = .ok (.aload_n 0, 1) := by decide +kernel
theorem dX11_duchy_66 : decode cX11_duchy 66 = .ok (.getfield 59, 3) := by decide +kernel
theorem dX11_duchy_69 : decode cX11_duchy 69 = .ok (.aload_n 0, 1) := by decide +kernel
theorem dX11_duchy_70 : decode cX11_duchy 70 = .ok (.getfield 57, 3) := by decide +kernel
theorem dX11_duchy_73 : decode cX11_duchy 73 = .ok (.invokevirtual 127, 3) := by decide +kernel
theorem dX11_duchy_76 : decode cX11_duchy 76 = .ok (.aload_n 0, 1) := by decide +kernel
theorem dX11_duchy_77 : decode cX11_duchy 77 = .ok (.getfield 69, 3) := by decide +kernel
theorem dX11_duchy_80 : decode cX11_duchy 80 = .ok (.iconst 0, 1) := by decide +kernel
theorem dX11_duchy_81 : decode cX11_duchy 81 = .ok (.putfield 131, 3) := by decide +kernel
theorem dX11_duchy_84 : decode cX11_duchy 84 = .ok (.aload_n 0, 1) := by decide +kernel
theorem dX11_duchy_85 : decode cX11_duchy 85 = .ok (.getfield 90, 3) := by decide +kernel
theorem dX11_duchy_88 : decode cX11_duchy 88 = .ok (.iconst 0, 1) := by decide +kernel
theorem dX11_duchy_89 : decode cX11_duchy 89 = .ok (.putfield 134, 3) := by decide +kernel
theorem dX11_duchy_92 : decode cX11_duchy 92 = .ok (.aload_n 0, 1) := by decide +kernel
theorem dX11_duchy_93 : decode cX11_duchy 93 = .ok (.dup, 1) := by decide +kernel
theorem dX11_duchy_94 : decode cX11_duchy 94 = .ok (.getfield 137, 3) := by decide +kernel
theorem dX11_duchy_97 : decode cX11_duchy 97 = .ok (.iconst 1, 1) := by decide +kernel
theorem dX11_duchy_98 : decode cX11_duchy 98 = .ok (.iadd, 1) := by decide +kernel
theorem dX11_duchy_99 : decode cX11_duchy 99 = .ok (.putfield 137, 3) := by decide +kernel
theorem dX11_duchy_102 : decode cX11_duchy 102 = .ok (.aload_n 0, 1) := by decide +kernel
theorem dX11_duchy_103 : decode cX11_duchy 103 = .ok (.getfield 57, 3) := by decide +kernel
theorem dX11_duchy_106 : decode cX11_duchy 106 = .ok (.getfield 140, 3) := by decide +kernel
theorem dX11_duchy_109 : decode cX11_duchy 109 = .ok (.ireturn, 1) := by decide +kernel
theorem dX11_fault_0 : decode cX11_fault 0 = .ok (.iload_n 1, 1) := by decide +kernel
theorem dX11_fault_1 : decode cX11_fault 1 = .ok (.ifCond .ne 8, 3) := by decide +kernel
theorem dX11_fault_4 : decode cX11_fault 4 = .ok (.aload_n 0, 1) := by decide +kernel
theorem dX11_fault_5 : decode cX11_fault 5 = .ok (.getfield 120, 3) := by decide +kernel
theorem dX11_fault_8 : decode cX11_fault 8 = .ok (.ireturn, 1) := by decide +kernel
theorem dX11_fault_9 : decode cX11_fault 9 = .ok (.iload_n 1, 1) := by decide +kernel
theorem dX11_fault_10 : decode cX11_fault 10 = .ok (.iconst 1, 1) := by decide +kernel
theorem dX11_fault_11 : decode cX11_fault 11 = .ok (.if_icmp .ne 10, 3) := by decide +kernel
theorem dX11_fault_14 : decode cX11_fault 14 = .ok (.aload_n 0, 1) := by decide +kernel
theorem dX11_fault_15 : decode cX11_fault 15 = .ok (.getfield 16, 3) := by decide +kernel
theorem dX11_fault_18 : decode cX11_fault 18 = .ok (.goto 4, 3) := by decide +kernel
theorem dX11_fault_21 : decode cX11_fault 21 = .ok (.iconst (-1), 1) := by decide +kernel
theorem dX11_fault_22 : decode cX11_fault 22 = .ok (.ireturn, 1) := by decide +kernel
theorem dX11_has_0 : decode cX11_has 0 = .ok (.iload_n 1, 1) := by decide +kernel
theorem dX11_has_1 : decode cX11_has 1 = .ok (.tableswitch 126 0 8 #[51, 59, 67, 75, 86, 94, 102, 110, 118], 51) := by decide +kernel
theorem dX11_has_52 : decode cX11_has 52 = .ok (.aload_n 0, 1) := by decide +kernel
theorem dX11_has_53 : decode cX11_has 53 = .ok (.getfield 57, 3) := by decide +kernel
theorem dX11_has_56 : decode cX11_has 56 = .ok (.getfield 145, 3) := by decide +kernel
theorem dX11_has_59 : decode cX11_has 59 = .ok (.ireturn, 1) := by decide +kernel
theorem dX11_has_60 : decode cX11_has 60 = .ok (.aload_n 0, 1) := by decide +kernel
theorem dX11_has_61 : decode cX11_has 61 = .ok (.getfield 57, 3) := by decide +kernel
theorem dX11_has_64 : decode cX11_has 64 = .ok (.getfield 148, 3) := by decide +kernel
theorem dX11_has_67 : decode cX11_has 67 = .ok (.ireturn, 1) := by decide +kernel
theorem dX11_has_68 : decode cX11_has 68 = .ok (.aload_n 0, 1) := by decide +kernel
theorem dX11_has_69 : decode cX11_has 69 = .ok (.getfield 59, 3) := by decide +kernel
theorem dX11_has_72 : decode cX11_has 72 = .ok (.getfield 151, 3) := by decide +kernel
theorem dX11_has_75 : decode cX11_has 75 = .ok (.ireturn, 1) := by decide +kernel
theorem dX11_has_76 : decode cX11_has 76 = .ok (.aload_n 0, 1) := by decide +kernel
theorem dX11_has_77 : decode cX11_has 77 = .ok (.getfield 59, 3) := by decide +kernel
theorem dX11_has_80 : decode cX11_has 80 = .ok (.getfield 154, 3) := by decide +kernel
theorem dX11_has_83 : decode cX11_has 83 = .ok (.invokestatic 157, 3) := by decide +kernel
theorem dX11_has_86 : decode cX11_has 86 = .ok (.ireturn, 1) := by decide +kernel
theorem dX11_has_87 : decode cX11_has 87 = .ok (.aload_n 0, 1) := by decide +kernel
theorem dX11_has_88 : decode cX11_has 88 = .ok (.getfield 59, 3) := by decide +kernel
theorem dX11_has_91 : decode cX11_has 91 = .ok (.invokevirtual 162, 3) := by decide +kernel
theorem dX11_has_94 : decode cX11_has 94 = .ok (.ireturn, 1) := by decide +kernel
theorem dX11_has_95 : decode cX11_has 95 = .ok (.aload_n 0, 1) := by decide +kernel
theorem dX11_has_96 : decode cX11_has 96 = .ok (.getfield 59, 3) := by decide +kernel
theorem dX11_has_99 : decode cX11_has 99 = .ok (.invokevirtual 165, 3) := by decide +kernel
theorem dX11_has_102 : decode cX11_has 102 = .ok (.ireturn, 1) := by decide +kernel
theorem dX11_has_103 : decode cX11_has 103 = .ok (.aload_n 0, 1) := by decide +kernel
theorem dX11_has_104 : decode cX11_has 104 = .ok (.getfield 59, 3) := by decide +kernel
theorem dX11_has_107 : decode cX11_has 107 = .ok (.invokevirtual 168, 3) := by decide +kernel
theorem dX11_has_110 : decode cX11_has 110 = .ok (.ireturn, 1) := by decide +kernel
theorem dX11_has_111 : decode cX11_has 111 = .ok (.aload_n 0, 1) := by decide +kernel
theorem dX11_has_112 : decode cX11_has 112 = .ok (.getfield 90, 3) := by decide +kernel
theorem dX11_has_115 : decode cX11_has 115 = .ok (.getfield 134, 3) := by decide +kernel
theorem dX11_has_118 : decode cX11_has 118 = .ok (.ireturn, 1) := by decide +kernel
theorem dX11_has_119 : decode cX11_has 119 = .ok (.aload_n 0, 1) := by decide +kernel
theorem dX11_has_120 : decode cX11_has 120 = .ok (.getfield 69, 3) := by decide +kernel
theorem dX11_has_123 : decode cX11_has 123 = .ok (.getfield 131, 3) := by decide +kernel
theorem dX11_has_126 : decode cX11_has 126 = .ok (.ireturn, 1) := by decide +kernel
theorem dX11_has_127 : decode cX11_has 127 = .ok (.iconst (-1), 1) := by decide +kernel
theorem dX11_has_128 : decode cX11_has 128 = .ok (.ireturn, 1) := by decide +kernel
theorem dX11_letter_0 : decode cX11_letter 0 = .ok (.aload_n 0, 1) := by decide +kernel
theorem dX11_letter_1 : decode cX11_letter 1 = .ok (.iload_n 1, 1) := by decide +kernel
theorem dX11_letter_2 : decode cX11_letter 2 = .ok (.invokevirtual 171, 3) := by decide +kernel
theorem dX11_letter_5 : decode cX11_letter 5 = .ok (.ifCond .eq 13, 3) := by decide +kernel
theorem dX11_letter_8 : decode cX11_letter 8 = .ok (.iload_n 2, 1) := by decide +kernel
theorem dX11_letter_9 : decode cX11_letter 9 = .ok (.ifCond .lt 9, 3) := by decide +kernel
theorem dX11_letter_12 : decode cX11_letter 12 = .ok (.iload_n 2, 1) := by decide +kernel
theorem dX11_letter_13 : decode cX11_letter 13 = .ok (.bipush 6, 2) := by decide +kernel
theorem dX11_letter_15 : decode cX11_letter 15 = .ok (.if_icmp .lt 5, 3) := by decide +kernel
theorem dX11_letter_18 : decode cX11_letter 18 = .ok (.iconst (-1), 1) := by decide +kernel
theorem dX11_letter_19 : decode cX11_letter 19 = .ok (.ireturn, 1) := by decide +kernel
theorem dX11_letter_20 : decode cX11_letter 20 = .ok (.aload_n 0, 1) := by decide +kernel
theorem dX11_letter_21 : decode cX11_letter 21 = .ok (.getfield 57, 3) := by decide +kernel
theorem dX11_letter_24 : decode cX11_letter 24 = .ok (.getfield 175, 3) := by decide +kernel
theorem dX11_letter_27 : decode cX11_letter 27 = .ok (.iload_n 1, 1) := by decide +kernel
theorem dX11_letter_28 : decode cX11_letter 28 = .ok (.bipush 6, 2) := by decide +kernel
theorem dX11_letter_30 : decode cX11_letter 30 = .ok (.imul, 1) := by decide +kernel
theorem dX11_letter_31 : decode cX11_letter 31 = .ok (.iload_n 2, 1) := by decide +kernel
theorem dX11_letter_32 : decode cX11_letter 32 = .ok (.iadd, 1) := by decide +kernel
theorem dX11_letter_33 : decode cX11_letter 33 = .ok (.iaload, 1) := by decide +kernel
theorem dX11_letter_34 : decode cX11_letter 34 = .ok (.ireturn, 1) := by decide +kernel
theorem dX11_house_0 : decode cX11_house 0 = .ok (.aload_n 0, 1) := by decide +kernel
theorem dX11_house_1 : decode cX11_house 1 = .ok (.iload_n 1, 1) := by decide +kernel
theorem dX11_house_2 : decode cX11_house 2 = .ok (.invokevirtual 171, 3) := by decide +kernel
theorem dX11_house_5 : decode cX11_house 5 = .ok (.ifCond .ne 5, 3) := by decide +kernel
theorem dX11_house_8 : decode cX11_house 8 = .ok (.iconst (-1), 1) := by decide +kernel
theorem dX11_house_9 : decode cX11_house 9 = .ok (.ireturn, 1) := by decide +kernel
theorem dX11_house_10 : decode cX11_house 10 = .ok (.iload_n 2, 1) := by decide +kernel
theorem dX11_house_11 : decode cX11_house 11 = .ok (.tableswitch 89 0 4 #[33, 43, 53, 63, 80], 33) := by decide +kernel
theorem dX11_house_44 : decode cX11_house 44 = .ok (.aload_n 0, 1) := by decide +kernel
theorem dX11_house_45 : decode cX11_house 45 = .ok (.getfield 59, 3) := by decide +kernel
theorem dX11_house_48 : decode cX11_house 48 = .ok (.getfield 178, 3) := by decide +kernel
theorem dX11_house_51 : decode cX11_house 51 = .ok (.iload_n 1, 1) := by decide +kernel
theorem dX11_house_52 : decode cX11_house 52 = .ok (.iaload, 1) := by decide +kernel
theorem dX11_house_53 : decode cX11_house 53 = .ok (.ireturn, 1) := by decide +kernel
theorem dX11_house_54 : decode cX11_house 54 = .ok (.aload_n 0, 1) := by decide +kernel
theorem dX11_house_55 : decode cX11_house 55 = .ok (.getfield 57, 3) := by decide +kernel
theorem dX11_house_58 : decode cX11_house 58 = .ok (.getfield 181, 3) := by decide +kernel
theorem dX11_house_61 : decode cX11_house 61 = .ok (.iload_n 1, 1) := by decide +kernel
theorem dX11_house_62 : decode cX11_house 62 = .ok (.iaload, 1) := by decide +kernel
theorem dX11_house_63 : decode cX11_house 63 = .ok (.ireturn, 1) := by decide +kernel
theorem dX11_house_64 : decode cX11_house 64 = .ok (.aload_n 0, 1) := by decide +kernel
theorem dX11_house_65 : decode cX11_house 65 = .ok (.getfield 59, 3) := by decide +kernel
theorem dX11_house_68 : decode cX11_house 68 = .ok (.getfield 184, 3) := by decide +kernel
theorem dX11_house_71 : decode cX11_house 71 = .ok (.iload_n 1, 1) := by decide +kernel
theorem dX11_house_72 : decode cX11_house 72 = .ok (.iaload, 1) := by decide +kernel
theorem dX11_house_73 : decode cX11_house 73 = .ok (.ireturn, 1) := by decide +kernel
theorem dX11_house_74 : decode cX11_house 74 = .ok (.aload_n 0, 1) := by decide +kernel
theorem dX11_house_75 : decode cX11_house 75 = .ok (.getfield 59, 3) := by decide +kernel
theorem dX11_house_78 : decode cX11_house 78 = .ok (.iload_n 1, 1) := by decide +kernel
theorem dX11_house_79 : decode cX11_house 79 = .ok (.invokevirtual 187, 3) := by decide +kernel
theorem dX11_house_82 : decode cX11_house 82 = .ok (.ifCond .eq 7, 3) := by decide +kernel
theorem dX11_house_85 : decode cX11_house 85 = .ok (.iconst 1, 1) := by decide +kernel
theorem dX11_house_86 : decode cX11_house 86 = .ok (.goto 4, 3) := by decide +kernel
theorem dX11_house_89 : decode cX11_house 89 = .ok (.iconst 0, 1) := by decide +kernel
theorem dX11_house_90 : decode cX11_house 90 = .ok (.ireturn, 1) := by decide +kernel
theorem dX11_house_91 : decode cX11_house 91 = .ok (.aload_n 0, 1) := by decide +kernel
theorem dX11_house_92 : decode cX11_house 92 = .ok (.getfield 59, 3) := by decide +kernel
theorem dX11_house_95 : decode cX11_house 95 = .ok (.iload_n 1, 1) := by decide +kernel
theorem dX11_house_96 : decode cX11_house 96 = .ok (.invokevirtual 190, 3) := by decide +kernel
theorem dX11_house_99 : decode cX11_house 99 = .ok (.ireturn, 1) := by decide +kernel
theorem dX11_house_100 : decode cX11_house 100 = .ok (.iconst (-1), 1) := by decide +kernel
theorem dX11_house_101 : decode cX11_house 101 = .ok (.ireturn, 1) := by decide +kernel
theorem dX11_hate_0 : decode cX11_hate 0 = .ok (.aload_n 0, 1) := by decide +kernel
theorem dX11_hate_1 : decode cX11_hate 1 = .ok (.iload_n 1, 1) := by decide +kernel
theorem dX11_hate_2 : decode cX11_hate 2 = .ok (.iload_n 2, 1) := by decide +kernel
theorem dX11_hate_3 : decode cX11_hate 3 = .ok (.invokevirtual 193, 3) := by decide +kernel
theorem dX11_hate_6 : decode cX11_hate 6 = .ok (.ifCond .eq 20, 3) := by decide +kernel
theorem dX11_hate_9 : decode cX11_hate 9 = .ok (.aload_n 0, 1) := by decide +kernel
theorem dX11_hate_10 : decode cX11_hate 10 = .ok (.getfield 59, 3) := by decide +kernel
theorem dX11_hate_13 : decode cX11_hate 13 = .ok (.getfield 197, 3) := by decide +kernel
theorem dX11_hate_16 : decode cX11_hate 16 = .ok (.bipush 8, 2) := by decide +kernel
theorem dX11_hate_18 : decode cX11_hate 18 = .ok (.iload_n 1, 1) := by decide +kernel
theorem dX11_hate_19 : decode cX11_hate 19 = .ok (.imul, 1) := by decide +kernel
theorem dX11_hate_20 : decode cX11_hate 20 = .ok (.iload_n 2, 1) := by decide +kernel
theorem dX11_hate_21 : decode cX11_hate 21 = .ok (.iadd, 1) := by decide +kernel
theorem dX11_hate_22 : decode cX11_hate 22 = .ok (.iaload, 1) := by decide +kernel
theorem dX11_hate_23 : decode cX11_hate 23 = .ok (.goto 4, 3) := by decide +kernel
theorem dX11_hate_26 : decode cX11_hate 26 = .ok (.iconst (-1), 1) := by decide +kernel
theorem dX11_hate_27 : decode cX11_hate 27 = .ok (.ireturn, 1) := by decide +kernel
theorem dX11_baker_0 : decode cX11_baker 0 = .ok (.aload_n 0, 1) := by decide +kernel
theorem dX11_baker_1 : decode cX11_baker 1 = .ok (.iload_n 1, 1) := by decide +kernel
theorem dX11_baker_2 : decode cX11_baker 2 = .ok (.invokevirtual 171, 3) := by decide +kernel
theorem dX11_baker_5 : decode cX11_baker 5 = .ok (.ifCond .ne 5, 3) := by decide +kernel
theorem dX11_baker_8 : decode cX11_baker 8 = .ok (.iconst (-1), 1) := by decide +kernel
theorem dX11_baker_9 : decode cX11_baker 9 = .ok (.ireturn, 1) := by decide +kernel
theorem dX11_baker_10 : decode cX11_baker 10 = .ok (.aload_n 0, 1) := by decide +kernel
theorem dX11_baker_11 : decode cX11_baker 11 = .ok (.getfield 63, 3) := by decide +kernel
theorem dX11_baker_14 : decode cX11_baker 14 = .ok (.aload_n 0, 1) := by decide +kernel
theorem dX11_baker_15 : decode cX11_baker 15 = .ok (.getfield 59, 3) := by decide +kernel
theorem dX11_baker_18 : decode cX11_baker 18 = .ok (.invokevirtual 200, 3) := by decide +kernel
theorem dX11_baker_21 : decode cX11_baker 21 = .ok (.aload_n 0, 1) := by decide +kernel
theorem dX11_baker_22 : decode cX11_baker 22 = .ok (.getfield 49, 3) := by decide +kernel
theorem dX11_baker_25 : decode cX11_baker 25 = .ok (.aload_n 0, 1) := by decide +kernel
theorem dX11_baker_26 : decode cX11_baker 26 = .ok (.getfield 63, 3) := by decide +kernel
theorem dX11_baker_29 : decode cX11_baker 29 = .ok (.iconst 0, 1) := by decide +kernel
theorem dX11_baker_30 : decode cX11_baker 30 = .ok (.iconst 0, 1) := by decide +kernel
theorem dX11_baker_31 : decode cX11_baker 31 = .ok (.invokevirtual 204, 3) := by decide +kernel
theorem dX11_baker_34 : decode cX11_baker 34 = .ok (.aload_n 0, 1) := by decide +kernel
theorem dX11_baker_35 : decode cX11_baker 35 = .ok (.getfield 49, 3) := by decide +kernel
theorem dX11_baker_38 : decode cX11_baker 38 = .ok (.getfield 208, 3) := by decide +kernel
theorem dX11_baker_41 : decode cX11_baker 41 = .ok (.iload_n 1, 1) := by decide +kernel
theorem dX11_baker_42 : decode cX11_baker 42 = .ok (.iaload, 1) := by decide +kernel
theorem dX11_baker_43 : decode cX11_baker 43 = .ok (.ireturn, 1) := by decide +kernel
theorem dX11_taste_0 : decode cX11_taste 0 = .ok (.aload_n 0, 1) := by decide +kernel
theorem dX11_taste_1 : decode cX11_taste 1 = .ok (.iload_n 1, 1) := by decide +kernel
theorem dX11_taste_2 : decode cX11_taste 2 = .ok (.iload_n 2, 1) := by decide +kernel
theorem dX11_taste_3 : decode cX11_taste 3 = .ok (.invokevirtual 193, 3) := by decide +kernel
theorem dX11_taste_6 : decode cX11_taste 6 = .ok (.ifCond .eq 20, 3) := by decide +kernel
theorem dX11_taste_9 : decode cX11_taste 9 = .ok (.aload_n 0, 1) := by decide +kernel
theorem dX11_taste_10 : decode cX11_taste 10 = .ok (.getfield 59, 3) := by decide +kernel
theorem dX11_taste_13 : decode cX11_taste 13 = .ok (.getfield 197, 3) := by decide +kernel
theorem dX11_taste_16 : decode cX11_taste 16 = .ok (.bipush 8, 2) := by decide +kernel
theorem dX11_taste_18 : decode cX11_taste 18 = .ok (.iload_n 1, 1) := by decide +kernel
theorem dX11_taste_19 : decode cX11_taste 19 = .ok (.imul, 1) := by decide +kernel
theorem dX11_taste_20 : decode cX11_taste 20 = .ok (.iload_n 2, 1) := by decide +kernel
theorem dX11_taste_21 : decode cX11_taste 21 = .ok (.iadd, 1) := by decide +kernel
theorem dX11_taste_22 : decode cX11_taste 22 = .ok (.iaload, 1) := by decide +kernel
theorem dX11_taste_23 : decode cX11_taste 23 = .ok (.ifCond .ne 5, 3) := by decide +kernel
theorem dX11_taste_26 : decode cX11_taste 26 = .ok (.iconst (-1), 1) := by decide +kernel
theorem dX11_taste_27 : decode cX11_taste 27 = .ok (.ireturn, 1) := by decide +kernel
theorem dX11_taste_28 : decode cX11_taste 28 = .ok (.aload_n 0, 1) := by decide +kernel
theorem dX11_taste_29 : decode cX11_taste 29 = .ok (.getfield 49, 3) := by decide +kernel
theorem dX11_taste_32 : decode cX11_taste 32 = .ok (.aload_n 0, 1) := by decide +kernel
theorem dX11_taste_33 : decode cX11_taste 33 = .ok (.getfield 59, 3) := by decide +kernel
theorem dX11_taste_36 : decode cX11_taste 36 = .ok (.iload_n 1, 1) := by decide +kernel
theorem dX11_taste_37 : decode cX11_taste 37 = .ok (.iload_n 2, 1) := by decide +kernel
theorem dX11_taste_38 : decode cX11_taste 38 = .ok (.invokevirtual 211, 3) := by decide +kernel
theorem dX11_taste_41 : decode cX11_taste 41 = .ok (.ireturn, 1) := by decide +kernel
theorem dX11_kept_0 : decode cX11_kept 0 = .ok (.aload_n 0, 1) := by decide +kernel
theorem dX11_kept_1 : decode cX11_kept 1 = .ok (.getfield 59, 3) := by decide +kernel
theorem dX11_kept_4 : decode cX11_kept 4 = .ok (.iload_n 1, 1) := by decide +kernel
theorem dX11_kept_5 : decode cX11_kept 5 = .ok (.iload_n 2, 1) := by decide +kernel
theorem dX11_kept_6 : decode cX11_kept 6 = .ok (.invokevirtual 215, 3) := by decide +kernel
theorem dX11_kept_9 : decode cX11_kept 9 = .ok (.ireturn, 1) := by decide +kernel
theorem dX11_later_0 : decode cX11_later 0 = .ok (.aload_n 0, 1) := by decide +kernel
theorem dX11_later_1 : decode cX11_later 1 = .ok (.iload_n 1, 1) := by decide +kernel
theorem dX11_later_2 : decode cX11_later 2 = .ok (.invokevirtual 171, 3) := by decide +kernel
theorem dX11_later_5 : decode cX11_later 5 = .ok (.ifCond .eq 20, 3) := by decide +kernel
theorem dX11_later_8 : decode cX11_later 8 = .ok (.iload_n 3, 1) := by decide +kernel
theorem dX11_later_9 : decode cX11_later 9 = .ok (.ifCond .lt 16, 3) := by decide +kernel
theorem dX11_later_12 : decode cX11_later 12 = .ok (.iload_n 3, 1) := by decide +kernel
theorem dX11_later_13 : decode cX11_later 13 = .ok (.iconst 2, 1) := by decide +kernel
theorem dX11_later_14 : decode cX11_later 14 = .ok (.if_icmp .gt 11, 3) := by decide +kernel
theorem dX11_later_17 : decode cX11_later 17 = .ok (.aload_n 0, 1) := by decide +kernel
theorem dX11_later_18 : decode cX11_later 18 = .ok (.iload_n 2, 1) := by decide +kernel
theorem dX11_later_19 : decode cX11_later 19 = .ok (.invokevirtual 219, 3) := by decide +kernel
theorem dX11_later_22 : decode cX11_later 22 = .ok (.ifCond .ne 5, 3) := by decide +kernel
theorem dX11_later_25 : decode cX11_later 25 = .ok (.iconst (-1), 1) := by decide +kernel
theorem dX11_later_26 : decode cX11_later 26 = .ok (.ireturn, 1) := by decide +kernel
theorem dX11_later_27 : decode cX11_later 27 = .ok (.iload_n 3, 1) := by decide +kernel
theorem dX11_later_28 : decode cX11_later 28 = .ok (.ifCond .ne 13, 3) := by decide +kernel
theorem dX11_later_31 : decode cX11_later 31 = .ok (.aload_n 0, 1) := by decide +kernel
theorem dX11_later_32 : decode cX11_later 32 = .ok (.getfield 63, 3) := by decide +kernel
theorem dX11_later_35 : decode cX11_later 35 = .ok (.getfield 178, 3) := by decide +kernel
theorem dX11_later_38 : decode cX11_later 38 = .ok (.iload_n 1, 1) := by decide +kernel
theorem dX11_later_39 : decode cX11_later 39 = .ok (.iaload, 1) := by decide +kernel
theorem dX11_later_40 : decode cX11_later 40 = .ok (.ireturn, 1) := by decide +kernel
theorem dX11_later_41 : decode cX11_later 41 = .ok (.iload_n 3, 1) := by decide +kernel
theorem dX11_later_42 : decode cX11_later 42 = .ok (.iconst 1, 1) := by decide +kernel
theorem dX11_later_43 : decode cX11_later 43 = .ok (.if_icmp .ne 13, 3) := by decide +kernel
theorem dX11_later_46 : decode cX11_later 46 = .ok (.aload_n 0, 1) := by decide +kernel
theorem dX11_later_47 : decode cX11_later 47 = .ok (.getfield 63, 3) := by decide +kernel
theorem dX11_later_50 : decode cX11_later 50 = .ok (.getfield 184, 3) := by decide +kernel
theorem dX11_later_53 : decode cX11_later 53 = .ok (.iload_n 1, 1) := by decide +kernel
theorem dX11_later_54 : decode cX11_later 54 = .ok (.iaload, 1) := by decide +kernel
theorem dX11_later_55 : decode cX11_later 55 = .ok (.ireturn, 1) := by decide +kernel
theorem dX11_later_56 : decode cX11_later 56 = .ok (.aload_n 0, 1) := by decide +kernel
theorem dX11_later_57 : decode cX11_later 57 = .ok (.getfield 63, 3) := by decide +kernel
theorem dX11_later_60 : decode cX11_later 60 = .ok (.iload_n 1, 1) := by decide +kernel
theorem dX11_later_61 : decode cX11_later 61 = .ok (.invokevirtual 187, 3) := by decide +kernel
theorem dX11_later_64 : decode cX11_later 64 = .ok (.ifCond .eq 7, 3) := by decide +kernel
theorem dX11_later_67 : decode cX11_later 67 = .ok (.iconst 1, 1) := by decide +kernel
theorem dX11_later_68 : decode cX11_later 68 = .ok (.goto 4, 3) := by decide +kernel
theorem dX11_later_71 : decode cX11_later 71 = .ok (.iconst 0, 1) := by decide +kernel
theorem dX11_later_72 : decode cX11_later 72 = .ok (.ireturn, 1) := by decide +kernel
theorem dX11_cooled_0 : decode cX11_cooled 0 = .ok (.aload_n 0, 1) := by decide +kernel
theorem dX11_cooled_1 : decode cX11_cooled 1 = .ok (.iload_n 1, 1) := by decide +kernel
theorem dX11_cooled_2 : decode cX11_cooled 2 = .ok (.iload_n 2, 1) := by decide +kernel
theorem dX11_cooled_3 : decode cX11_cooled 3 = .ok (.invokevirtual 193, 3) := by decide +kernel
theorem dX11_cooled_6 : decode cX11_cooled 6 = .ok (.ifCond .eq 11, 3) := by decide +kernel
theorem dX11_cooled_9 : decode cX11_cooled 9 = .ok (.aload_n 0, 1) := by decide +kernel
theorem dX11_cooled_10 : decode cX11_cooled 10 = .ok (.iload_n 3, 1) := by decide +kernel
theorem dX11_cooled_11 : decode cX11_cooled 11 = .ok (.invokevirtual 219, 3) := by decide +kernel
theorem dX11_cooled_14 : decode cX11_cooled 14 = .ok (.ifCond .ne 5, 3) := by decide +kernel
theorem dX11_cooled_17 : decode cX11_cooled 17 = .ok (.iconst (-1), 1) := by decide +kernel
theorem dX11_cooled_18 : decode cX11_cooled 18 = .ok (.ireturn, 1) := by decide +kernel
theorem dX11_cooled_19 : decode cX11_cooled 19 = .ok (.aload_n 0, 1) := by decide +kernel
theorem dX11_cooled_20 : decode cX11_cooled 20 = .ok (.getfield 63, 3) := by decide +kernel
theorem dX11_cooled_23 : decode cX11_cooled 23 = .ok (.getfield 197, 3) := by decide +kernel
theorem dX11_cooled_26 : decode cX11_cooled 26 = .ok (.bipush 8, 2) := by decide +kernel
theorem dX11_cooled_28 : decode cX11_cooled 28 = .ok (.iload_n 1, 1) := by decide +kernel
theorem dX11_cooled_29 : decode cX11_cooled 29 = .ok (.imul, 1) := by decide +kernel
theorem dX11_cooled_30 : decode cX11_cooled 30 = .ok (.iload_n 2, 1) := by decide +kernel
theorem dX11_cooled_31 : decode cX11_cooled 31 = .ok (.iadd, 1) := by decide +kernel
theorem dX11_cooled_32 : decode cX11_cooled 32 = .ok (.iaload, 1) := by decide +kernel
theorem dX11_cooled_33 : decode cX11_cooled 33 = .ok (.ireturn, 1) := by decide +kernel
theorem dX11_starves_0 : decode cX11_starves 0 = .ok (.aload_n 0, 1) := by decide +kernel
theorem dX11_starves_1 : decode cX11_starves 1 = .ok (.iload_n 1, 1) := by decide +kernel
theorem dX11_starves_2 : decode cX11_starves 2 = .ok (.invokevirtual 171, 3) := by decide +kernel
theorem dX11_starves_5 : decode cX11_starves 5 = .ok (.ifCond .eq 14, 3) := by decide +kernel
theorem dX11_starves_8 : decode cX11_starves 8 = .ok (.aload_n 0, 1) := by decide +kernel
theorem dX11_starves_9 : decode cX11_starves 9 = .ok (.getfield 59, 3) := by decide +kernel
theorem dX11_starves_12 : decode cX11_starves 12 = .ok (.iload_n 1, 1) := by decide +kernel
theorem dX11_starves_13 : decode cX11_starves 13 = .ok (.invokevirtual 187, 3) := by decide +kernel
theorem dX11_starves_16 : decode cX11_starves 16 = .ok (.ifCond .ne 5, 3) := by decide +kernel
theorem dX11_starves_19 : decode cX11_starves 19 = .ok (.iconst (-1), 1) := by decide +kernel
theorem dX11_starves_20 : decode cX11_starves 20 = .ok (.ireturn, 1) := by decide +kernel
theorem dX11_starves_21 : decode cX11_starves 21 = .ok (.aload_n 0, 1) := by decide +kernel
theorem dX11_starves_22 : decode cX11_starves 22 = .ok (.getfield 63, 3) := by decide +kernel
theorem dX11_starves_25 : decode cX11_starves 25 = .ok (.aload_n 0, 1) := by decide +kernel
theorem dX11_starves_26 : decode cX11_starves 26 = .ok (.getfield 59, 3) := by decide +kernel
theorem dX11_starves_29 : decode cX11_starves 29 = .ok (.invokevirtual 200, 3) := by decide +kernel
theorem dX11_starves_32 : decode cX11_starves 32 = .ok (.bipush 60, 2) := by decide +kernel
theorem dX11_starves_34 : decode cX11_starves 34 = .ok (.sipush 999, 3) := by decide +kernel
theorem dX11_starves_37 : decode cX11_starves 37 = .ok (.aload_n 0, 1) := by decide +kernel
theorem dX11_starves_38 : decode cX11_starves 38 = .ok (.getfield 59, 3) := by decide +kernel
theorem dX11_starves_41 : decode cX11_starves 41 = .ok (.getfield 151, 3) := by decide +kernel
theorem dX11_starves_44 : decode cX11_starves 44 = .ok (.isub, 1) := by decide +kernel
theorem dX11_starves_45 : decode cX11_starves 45 = .ok (.invokestatic 222, 3) := by decide +kernel
theorem dX11_starves_48 : decode cX11_starves 48 = .ok (.istore_n 2, 1) := by decide +kernel
theorem dX11_starves_49 : decode cX11_starves 49 = .ok (.iconst 0, 1) := by decide +kernel
theorem dX11_starves_50 : decode cX11_starves 50 = .ok (.istore_n 3, 1) := by decide +kernel
theorem dX11_starves_51 : decode cX11_starves 51 = .ok (.iload_n 3, 1) := by decide +kernel
theorem dX11_starves_52 : decode cX11_starves 52 = .ok (.iload_n 2, 1) := by decide +kernel
theorem dX11_starves_53 : decode cX11_starves 53 = .ok (.if_icmp .ge 35, 3) := by decide +kernel
theorem dX11_starves_56 : decode cX11_starves 56 = .ok (.aload_n 0, 1) := by decide +kernel
theorem dX11_starves_57 : decode cX11_starves 57 = .ok (.getfield 49, 3) := by decide +kernel
theorem dX11_starves_60 : decode cX11_starves 60 = .ok (.aload_n 0, 1) := by decide +kernel
theorem dX11_starves_61 : decode cX11_starves 61 = .ok (.getfield 63, 3) := by decide +kernel
theorem dX11_starves_64 : decode cX11_starves 64 = .ok (.iconst 0, 1) := by decide +kernel
theorem dX11_starves_65 : decode cX11_starves 65 = .ok (.iconst 0, 1) := by decide +kernel
theorem dX11_starves_66 : decode cX11_starves 66 = .ok (.invokevirtual 227, 3) := by decide +kernel
theorem dX11_starves_69 : decode cX11_starves 69 = .ok (.aload_n 0, 1) := by decide +kernel
theorem dX11_starves_70 : decode cX11_starves 70 = .ok (.getfield 63, 3) := by decide +kernel
theorem dX11_starves_73 : decode cX11_starves 73 = .ok (.iload_n 1, 1) := by decide +kernel
theorem dX11_starves_74 : decode cX11_starves 74 = .ok (.invokevirtual 187, 3) := by decide +kernel
theorem dX11_starves_77 : decode cX11_starves 77 = .ok (.ifCond .ne 5, 3) := by decide +kernel
theorem dX11_starves_80 : decode cX11_starves 80 = .ok (.iload_n 3, 1) := by decide +kernel
theorem dX11_starves_81 : decode cX11_starves 81 = .ok (.ireturn, 1) := by decide +kernel
theorem dX11_starves_82 : decode cX11_starves 82 = .ok (.iinc 3 1, 3) := by decide +kernel
theorem dX11_starves_85 : decode cX11_starves 85 = .ok (.goto (-34), 3) := by decide +kernel
theorem dX11_starves_88 : decode cX11_starves 88 = .ok (.iconst (-1), 1) := by decide +kernel
theorem dX11_starves_89 : decode cX11_starves 89 = .ok (.ireturn, 1) := by decide +kernel
theorem dX11_table_0 : decode cX11_table 0 = .ok (.aload_n 0, 1) := by decide +kernel
theorem dX11_table_1 : decode cX11_table 1 = .ok (.invokevirtual 230, 3) := by decide +kernel
theorem dX11_table_4 : decode cX11_table 4 = .ok (.ifCond .eq 20, 3) := by decide +kernel
theorem dX11_table_7 : decode cX11_table 7 = .ok (.iload_n 1, 1) := by decide +kernel
theorem dX11_table_8 : decode cX11_table 8 = .ok (.ifCond .lt 16, 3) := by decide +kernel
theorem dX11_table_11 : decode cX11_table 11 = .ok (.iload_n 1, 1) := by decide +kernel
theorem dX11_table_12 : decode cX11_table 12 = .ok (.iconst 2, 1) := by decide +kernel
theorem dX11_table_13 : decode cX11_table 13 = .ok (.aload_n 0, 1) := by decide +kernel
theorem dX11_table_14 : decode cX11_table 14 = .ok (.getfield 57, 3) := by decide +kernel
theorem dX11_table_17 : decode cX11_table 17 = .ok (.getfield 148, 3) := by decide +kernel
theorem dX11_table_20 : decode cX11_table 20 = .ok (.iadd, 1) := by decide +kernel
theorem dX11_table_21 : decode cX11_table 21 = .ok (.if_icmp .lt 5, 3) := by decide +kernel
theorem dX11_table_24 : decode cX11_table 24 = .ok (.iconst (-1), 1) := by decide +kernel
theorem dX11_table_25 : decode cX11_table 25 = .ok (.ireturn, 1) := by decide +kernel
theorem dX11_table_26 : decode cX11_table 26 = .ok (.aload_n 0, 1) := by decide +kernel
theorem dX11_table_27 : decode cX11_table 27 = .ok (.getfield 76, 3) := by decide +kernel
theorem dX11_table_30 : decode cX11_table 30 = .ok (.aload_n 0, 1) := by decide +kernel
theorem dX11_table_31 : decode cX11_table 31 = .ok (.getfield 57, 3) := by decide +kernel
theorem dX11_table_34 : decode cX11_table 34 = .ok (.aload_n 0, 1) := by decide +kernel
theorem dX11_table_35 : decode cX11_table 35 = .ok (.getfield 59, 3) := by decide +kernel
theorem dX11_table_38 : decode cX11_table 38 = .ok (.aload_n 0, 1) := by decide +kernel
theorem dX11_table_39 : decode cX11_table 39 = .ok (.getfield 137, 3) := by decide +kernel
theorem dX11_table_42 : decode cX11_table 42 = .ok (.invokevirtual 234, 3) := by decide +kernel
theorem dX11_table_45 : decode cX11_table 45 = .ok (.iload_n 1, 1) := by decide +kernel
theorem dX11_table_46 : decode cX11_table 46 = .ok (.ifCond .ne 11, 3) := by decide +kernel
theorem dX11_table_49 : decode cX11_table 49 = .ok (.aload_n 0, 1) := by decide +kernel
theorem dX11_table_50 : decode cX11_table 50 = .ok (.getfield 76, 3) := by decide +kernel
theorem dX11_table_53 : decode cX11_table 53 = .ok (.getfield 238, 3) := by decide +kernel
theorem dX11_table_56 : decode cX11_table 56 = .ok (.ireturn, 1) := by decide +kernel
theorem dX11_table_57 : decode cX11_table 57 = .ok (.iload_n 1, 1) := by decide +kernel
theorem dX11_table_58 : decode cX11_table 58 = .ok (.iconst 1, 1) := by decide +kernel
theorem dX11_table_59 : decode cX11_table 59 = .ok (.if_icmp .ne 13, 3) := by decide +kernel
theorem dX11_table_62 : decode cX11_table 62 = .ok (.aload_n 0, 1) := by decide +kernel
theorem dX11_table_63 : decode cX11_table 63 = .ok (.getfield 76, 3) := by decide +kernel
theorem dX11_table_66 : decode cX11_table 66 = .ok (.getfield 241, 3) := by decide +kernel
theorem dX11_table_69 : decode cX11_table 69 = .ok (.goto 14, 3) := by decide +kernel
theorem dX11_table_72 : decode cX11_table 72 = .ok (.aload_n 0, 1) := by decide +kernel
theorem dX11_table_73 : decode cX11_table 73 = .ok (.getfield 76, 3) := by decide +kernel
theorem dX11_table_76 : decode cX11_table 76 = .ok (.getfield 244, 3) := by decide +kernel
theorem dX11_table_79 : decode cX11_table 79 = .ok (.iload_n 1, 1) := by decide +kernel
theorem dX11_table_80 : decode cX11_table 80 = .ok (.iconst 2, 1) := by decide +kernel
theorem dX11_table_81 : decode cX11_table 81 = .ok (.isub, 1) := by decide +kernel
theorem dX11_table_82 : decode cX11_table 82 = .ok (.iaload, 1) := by decide +kernel
theorem dX11_table_83 : decode cX11_table 83 = .ok (.ireturn, 1) := by decide +kernel
theorem dX11_wanting_0 : decode cX11_wanting 0 = .ok (.aload_n 0, 1) := by decide +kernel
theorem dX11_wanting_1 : decode cX11_wanting 1 = .ok (.invokevirtual 230, 3) := by decide +kernel
theorem dX11_wanting_4 : decode cX11_wanting 4 = .ok (.ifCond .ne 5, 3) := by decide +kernel
theorem dX11_wanting_7 : decode cX11_wanting 7 = .ok (.iconst (-1), 1) := by decide +kernel
theorem dX11_wanting_8 : decode cX11_wanting 8 = .ok (.ireturn, 1) := by decide +kernel
theorem dX11_wanting_9 : decode cX11_wanting 9 = .ok (.aload_n 0, 1) := by decide +kernel
theorem dX11_wanting_10 : decode cX11_wanting 10 = .ok (.getfield 76, 3) := by decide +kernel
theorem dX11_wanting_13 : decode cX11_wanting 13 = .ok (.aload_n 0, 1) := by decide +kernel
theorem dX11_wanting_14 : decode cX11_wanting 14 = .ok (.getfield 57, 3) := by decide +kernel
theorem dX11_wanting_17 : decode cX11_wanting 17 = .ok (.aload_n 0, 1) := by decide +kernel
theorem dX11_wanting_18 : decode cX11_wanting 18 = .ok (.getfield 59, 3) := by decide +kernel
theorem dX11_wanting_21 : decode cX11_wanting 21 = .ok (.aload_n 0, 1) := by decide +kernel
theorem dX11_wanting_22 : decode cX11_wanting 22 = .ok (.getfield 137, 3) := by decide +kernel
theorem dX11_wanting_25 : decode cX11_wanting 25 = .ok (.invokevirtual 247, 3) := by decide +kernel
theorem dX11_wanting_28 : decode cX11_wanting 28 = .ok (.iload_n 1, 1) := by decide +kernel
theorem dX11_wanting_29 : decode cX11_wanting 29 = .ok (.iconst (-1), 1) := by decide +kernel
theorem dX11_wanting_30 : decode cX11_wanting 30 = .ok (.if_icmp .ne 11, 3) := by decide +kernel
theorem dX11_wanting_33 : decode cX11_wanting 33 = .ok (.aload_n 0, 1) := by decide +kernel
theorem dX11_wanting_34 : decode cX11_wanting 34 = .ok (.getfield 76, 3) := by decide +kernel
theorem dX11_wanting_37 : decode cX11_wanting 37 = .ok (.getfield 250, 3) := by decide +kernel
theorem dX11_wanting_40 : decode cX11_wanting 40 = .ok (.ireturn, 1) := by decide +kernel
theorem dX11_wanting_41 : decode cX11_wanting 41 = .ok (.iload_n 1, 1) := by decide +kernel
theorem dX11_wanting_42 : decode cX11_wanting 42 = .ok (.ifCond .lt 26, 3) := by decide +kernel
theorem dX11_wanting_45 : decode cX11_wanting 45 = .ok (.iload_n 1, 1) := by decide +kernel
theorem dX11_wanting_46 : decode cX11_wanting 46 = .ok (.aload_n 0, 1) := by decide +kernel
theorem dX11_wanting_47 : decode cX11_wanting 47 = .ok (.getfield 76, 3) := by decide +kernel
theorem dX11_wanting_50 : decode cX11_wanting 50 = .ok (.getfield 250, 3) := by decide +kernel
theorem dX11_wanting_53 : decode cX11_wanting 53 = .ok (.if_icmp .ge 15, 3) := by decide +kernel
theorem dX11_wanting_56 : decode cX11_wanting 56 = .ok (.aload_n 0, 1) := by decide +kernel
theorem dX11_wanting_57 : decode cX11_wanting 57 = .ok (.getfield 76, 3) := by decide +kernel
theorem dX11_wanting_60 : decode cX11_wanting 60 = .ok (.getfield 253, 3) := by decide +kernel
theorem dX11_wanting_63 : decode cX11_wanting 63 = .ok (.iload_n 1, 1) := by decide +kernel
theorem dX11_wanting_64 : decode cX11_wanting 64 = .ok (.iaload, 1) := by decide +kernel
theorem dX11_wanting_65 : decode cX11_wanting 65 = .ok (.goto 4, 3) := by decide +kernel
theorem dX11_wanting_68 : decode cX11_wanting 68 = .ok (.iconst (-1), 1) := by decide +kernel
theorem dX11_wanting_69 : decode cX11_wanting 69 = .ok (.ireturn, 1) := by decide +kernel
theorem dX11_spared_0 : decode cX11_spared 0 = .ok (.aload_n 0, 1) := by decide +kernel
theorem dX11_spared_1 : decode cX11_spared 1 = .ok (.invokevirtual 230, 3) := by decide +kernel
theorem dX11_spared_4 : decode cX11_spared 4 = .ok (.ifCond .eq 23, 3) := by decide +kernel
theorem dX11_spared_7 : decode cX11_spared 7 = .ok (.aload_n 0, 1) := by decide +kernel
theorem dX11_spared_8 : decode cX11_spared 8 = .ok (.iload_n 1, 1) := by decide +kernel
theorem dX11_spared_9 : decode cX11_spared 9 = .ok (.invokevirtual 256, 3) := by decide +kernel
theorem dX11_spared_12 : decode cX11_spared 12 = .ok (.ifCond .eq 15, 3) := by decide +kernel
theorem dX11_spared_15 : decode cX11_spared 15 = .ok (.aload_n 0, 1) := by decide +kernel
theorem dX11_spared_16 : decode cX11_spared 16 = .ok (.getfield 59, 3) := by decide +kernel
theorem dX11_spared_19 : decode cX11_spared 19 = .ok (.invokevirtual 162, 3) := by decide +kernel
theorem dX11_spared_22 : decode cX11_spared 22 = .ok (.bipush 10, 2) := by decide +kernel
theorem dX11_spared_24 : decode cX11_spared 24 = .ok (.if_icmp .le 5, 3) := by decide +kernel
theorem dX11_spared_27 : decode cX11_spared 27 = .ok (.iconst (-1), 1) := by decide +kernel
theorem dX11_spared_28 : decode cX11_spared 28 = .ok (.ireturn, 1) := by decide +kernel
theorem dX11_spared_29 : decode cX11_spared 29 = .ok (.aload_n 0, 1) := by decide +kernel
theorem dX11_spared_30 : decode cX11_spared 30 = .ok (.getfield 83, 3) := by decide +kernel
theorem dX11_spared_33 : decode cX11_spared 33 = .ok (.aload_n 0, 1) := by decide +kernel
theorem dX11_spared_34 : decode cX11_spared 34 = .ok (.getfield 49, 3) := by decide +kernel
theorem dX11_spared_37 : decode cX11_spared 37 = .ok (.aload_n 0, 1) := by decide +kernel
theorem dX11_spared_38 : decode cX11_spared 38 = .ok (.getfield 59, 3) := by decide +kernel
theorem dX11_spared_41 : decode cX11_spared 41 = .ok (.aload_n 0, 1) := by decide +kernel
theorem dX11_spared_42 : decode cX11_spared 42 = .ok (.getfield 63, 3) := by decide +kernel
theorem dX11_spared_45 : decode cX11_spared 45 = .ok (.iload_n 1, 1) := by decide +kernel
theorem dX11_spared_46 : decode cX11_spared 46 = .ok (.aload_n 0, 1) := by decide +kernel
theorem dX11_spared_47 : decode cX11_spared 47 = .ok (.getfield 137, 3) := by decide +kernel
theorem dX11_spared_50 : decode cX11_spared 50 = .ok (.invokevirtual 259, 3) := by decide +kernel
theorem dX11_spared_53 : decode cX11_spared 53 = .ok (.iload_n 2, 1) := by decide +kernel
theorem dX11_spared_54 : decode cX11_spared 54 = .ok (.iconst (-1), 1) := by decide +kernel
theorem dX11_spared_55 : decode cX11_spared 55 = .ok (.if_icmp .ne 14, 3) := by decide +kernel
theorem dX11_spared_58 : decode cX11_spared 58 = .ok (.aload_n 0, 1) := by decide +kernel
theorem dX11_spared_59 : decode cX11_spared 59 = .ok (.getfield 83, 3) := by decide +kernel
theorem dX11_spared_62 : decode cX11_spared 62 = .ok (.getfield 263, 3) := by decide +kernel
theorem dX11_spared_65 : decode cX11_spared 65 = .ok (.invokestatic 157, 3) := by decide +kernel
theorem dX11_spared_68 : decode cX11_spared 68 = .ok (.ireturn, 1) := by decide +kernel
theorem dX11_spared_69 : decode cX11_spared 69 = .ok (.aload_n 0, 1) := by decide +kernel
theorem dX11_spared_70 : decode cX11_spared 70 = .ok (.getfield 83, 3) := by decide +kernel
theorem dX11_spared_73 : decode cX11_spared 73 = .ok (.iload_n 2, 1) := by decide +kernel
theorem dX11_spared_74 : decode cX11_spared 74 = .ok (.invokevirtual 266, 3) := by decide +kernel
theorem dX11_spared_77 : decode cX11_spared 77 = .ok (.ireturn, 1) := by decide +kernel
theorem dX11_rest_0 : decode cX11_rest 0 = .ok (.aload_n 0, 1) := by decide +kernel
theorem dX11_rest_1 : decode cX11_rest 1 = .ok (.invokevirtual 230, 3) := by decide +kernel
theorem dX11_rest_4 : decode cX11_rest 4 = .ok (.ifCond .eq 11, 3) := by decide +kernel
theorem dX11_rest_7 : decode cX11_rest 7 = .ok (.aload_n 0, 1) := by decide +kernel
theorem dX11_rest_8 : decode cX11_rest 8 = .ok (.iload_n 1, 1) := by decide +kernel
theorem dX11_rest_9 : decode cX11_rest 9 = .ok (.invokevirtual 256, 3) := by decide +kernel
theorem dX11_rest_12 : decode cX11_rest 12 = .ok (.ifCond .ne 5, 3) := by decide +kernel
theorem dX11_rest_15 : decode cX11_rest 15 = .ok (.iconst (-1), 1) := by decide +kernel
theorem dX11_rest_16 : decode cX11_rest 16 = .ok (.ireturn, 1) := by decide +kernel
theorem dX11_rest_17 : decode cX11_rest 17 = .ok (.aload_n 0, 1) := by decide +kernel
theorem dX11_rest_18 : decode cX11_rest 18 = .ok (.getfield 83, 3) := by decide +kernel
theorem dX11_rest_21 : decode cX11_rest 21 = .ok (.aload_n 0, 1) := by decide +kernel
theorem dX11_rest_22 : decode cX11_rest 22 = .ok (.getfield 49, 3) := by decide +kernel
theorem dX11_rest_25 : decode cX11_rest 25 = .ok (.aload_n 0, 1) := by decide +kernel
theorem dX11_rest_26 : decode cX11_rest 26 = .ok (.getfield 59, 3) := by decide +kernel
theorem dX11_rest_29 : decode cX11_rest 29 = .ok (.aload_n 0, 1) := by decide +kernel
theorem dX11_rest_30 : decode cX11_rest 30 = .ok (.getfield 63, 3) := by decide +kernel
theorem dX11_rest_33 : decode cX11_rest 33 = .ok (.iload_n 1, 1) := by decide +kernel
theorem dX11_rest_34 : decode cX11_rest 34 = .ok (.invokevirtual 269, 3) := by decide +kernel
theorem dX11_rest_37 : decode cX11_rest 37 = .ok (.ireturn, 1) := by decide +kernel
theorem dX11_see_0 : decode cX11_see 0 = .ok (.aload_n 0, 1) := by decide +kernel
theorem dX11_see_1 : decode cX11_see 1 = .ok (.getfield 90, 3) := by decide +kernel
theorem dX11_see_4 : decode cX11_see 4 = .ok (.aload_n 0, 1) := by decide +kernel
theorem dX11_see_5 : decode cX11_see 5 = .ok (.getfield 9, 3) := by decide +kernel
theorem dX11_see_8 : decode cX11_see 8 = .ok (.aload_n 0, 1) := by decide +kernel
theorem dX11_see_9 : decode cX11_see 9 = .ok (.invokevirtual 104, 3) := by decide +kernel
theorem dX11_see_12 : decode cX11_see 12 = .ok (.aload_n 0, 1) := by decide +kernel
theorem dX11_see_13 : decode cX11_see 13 = .ok (.getfield 57, 3) := by decide +kernel
theorem dX11_see_16 : decode cX11_see 16 = .ok (.getfield 148, 3) := by decide +kernel
theorem dX11_see_19 : decode cX11_see 19 = .ok (.invokevirtual 273, 3) := by decide +kernel
theorem dX11_see_22 : decode cX11_see 22 = .ok (.ifCond .ne 9, 3) := by decide +kernel
theorem dX11_see_25 : decode cX11_see 25 = .ok (.aload_n 0, 1) := by decide +kernel
theorem dX11_see_26 : decode cX11_see 26 = .ok (.iconst 1, 1) := by decide +kernel
theorem dX11_see_27 : decode cX11_see 27 = .ok (.invokevirtual 97, 3) := by decide +kernel
theorem dX11_see_30 : decode cX11_see 30 = .ok (.ireturn, 1) := by decide +kernel
theorem dX11_see_31 : decode cX11_see 31 = .ok (.aload_n 0, 1) := by decide +kernel
theorem dX11_see_32 : decode cX11_see 32 = .ok (.dup, 1) := by decide +kernel
theorem dX11_see_33 : decode cX11_see 33 = .ok (.getfield 137, 3) := by decide +kernel
theorem dX11_see_36 : decode cX11_see 36 = .ok (.iconst 1, 1) := by decide +kernel
theorem dX11_see_37 : decode cX11_see 37 = .ok (.iadd, 1) := by decide +kernel
theorem dX11_see_38 : decode cX11_see 38 = .ok (.putfield 137, 3) := by decide +kernel
theorem dX11_see_41 : decode cX11_see 41 = .ok (.aload_n 0, 1) := by decide +kernel
theorem dX11_see_42 : decode cX11_see 42 = .ok (.getfield 90, 3) := by decide +kernel
theorem dX11_see_45 : decode cX11_see 45 = .ok (.getfield 134, 3) := by decide +kernel
theorem dX11_see_48 : decode cX11_see 48 = .ok (.ireturn, 1) := by decide +kernel
theorem dX11_flour_0 : decode cX11_flour 0 = .ok (.aload_n 0, 1) := by decide +kernel
theorem dX11_flour_1 : decode cX11_flour 1 = .ok (.iload_n 1, 1) := by decide +kernel
theorem dX11_flour_2 : decode cX11_flour 2 = .ok (.invokevirtual 171, 3) := by decide +kernel
theorem dX11_flour_5 : decode cX11_flour 5 = .ok (.ifCond .eq 14, 3) := by decide +kernel
theorem dX11_flour_8 : decode cX11_flour 8 = .ok (.aload_n 0, 1) := by decide +kernel
theorem dX11_flour_9 : decode cX11_flour 9 = .ok (.getfield 59, 3) := by decide +kernel
theorem dX11_flour_12 : decode cX11_flour 12 = .ok (.iload_n 1, 1) := by decide +kernel
theorem dX11_flour_13 : decode cX11_flour 13 = .ok (.invokevirtual 187, 3) := by decide +kernel
theorem dX11_flour_16 : decode cX11_flour 16 = .ok (.ifCond .ne 5, 3) := by decide +kernel
theorem dX11_flour_19 : decode cX11_flour 19 = .ok (.iconst (-1), 1) := by decide +kernel
theorem dX11_flour_20 : decode cX11_flour 20 = .ok (.ireturn, 1) := by decide +kernel
theorem dX11_flour_21 : decode cX11_flour 21 = .ok (.aload_n 0, 1) := by decide +kernel
theorem dX11_flour_22 : decode cX11_flour 22 = .ok (.getfield 90, 3) := by decide +kernel
theorem dX11_flour_25 : decode cX11_flour 25 = .ok (.aload_n 0, 1) := by decide +kernel
theorem dX11_flour_26 : decode cX11_flour 26 = .ok (.getfield 49, 3) := by decide +kernel
theorem dX11_flour_29 : decode cX11_flour 29 = .ok (.aload_n 0, 1) := by decide +kernel
theorem dX11_flour_30 : decode cX11_flour 30 = .ok (.getfield 59, 3) := by decide +kernel
theorem dX11_flour_33 : decode cX11_flour 33 = .ok (.aload_n 0, 1) := by decide +kernel
theorem dX11_flour_34 : decode cX11_flour 34 = .ok (.getfield 63, 3) := by decide +kernel
theorem dX11_flour_37 : decode cX11_flour 37 = .ok (.iload_n 1, 1) := by decide +kernel
theorem dX11_flour_38 : decode cX11_flour 38 = .ok (.aload_n 0, 1) := by decide +kernel
theorem dX11_flour_39 : decode cX11_flour 39 = .ok (.getfield 137, 3) := by decide +kernel
theorem dX11_flour_42 : decode cX11_flour 42 = .ok (.invokevirtual 277, 3) := by decide +kernel
theorem dX11_flour_45 : decode cX11_flour 45 = .ok (.iload_n 2, 1) := by decide +kernel
theorem dX11_flour_46 : decode cX11_flour 46 = .ok (.tableswitch 50 0 2 #[26, 34, 42], 26) := by decide +kernel
theorem dX11_flour_72 : decode cX11_flour 72 = .ok (.aload_n 0, 1) := by decide +kernel
theorem dX11_flour_73 : decode cX11_flour 73 = .ok (.getfield 90, 3) := by decide +kernel
theorem dX11_flour_76 : decode cX11_flour 76 = .ok (.getfield 280, 3) := by decide +kernel
theorem dX11_flour_79 : decode cX11_flour 79 = .ok (.ireturn, 1) := by decide +kernel
theorem dX11_flour_80 : decode cX11_flour 80 = .ok (.aload_n 0, 1) := by decide +kernel
theorem dX11_flour_81 : decode cX11_flour 81 = .ok (.getfield 90, 3) := by decide +kernel
theorem dX11_flour_84 : decode cX11_flour 84 = .ok (.getfield 283, 3) := by decide +kernel
theorem dX11_flour_87 : decode cX11_flour 87 = .ok (.ireturn, 1) := by decide +kernel
theorem dX11_flour_88 : decode cX11_flour 88 = .ok (.aload_n 0, 1) := by decide +kernel
theorem dX11_flour_89 : decode cX11_flour 89 = .ok (.getfield 90, 3) := by decide +kernel
theorem dX11_flour_92 : decode cX11_flour 92 = .ok (.getfield 286, 3) := by decide +kernel
theorem dX11_flour_95 : decode cX11_flour 95 = .ok (.ireturn, 1) := by decide +kernel
theorem dX11_flour_96 : decode cX11_flour 96 = .ok (.iconst (-1), 1) := by decide +kernel
theorem dX11_flour_97 : decode cX11_flour 97 = .ok (.ireturn, 1) := by decide +kernel
theorem dX11_tells_0 : decode cX11_tells 0 = .ok (.aload_n 0, 1) := by decide +kernel
theorem dX11_tells_1 : decode cX11_tells 1 = .ok (.iload_n 1, 1) := by decide +kernel
theorem dX11_tells_2 : decode cX11_tells 2 = .ok (.invokevirtual 171, 3) := by decide +kernel
theorem dX11_tells_5 : decode cX11_tells 5 = .ok (.ifCond .eq 14, 3) := by decide +kernel
theorem dX11_tells_8 : decode cX11_tells 8 = .ok (.aload_n 0, 1) := by decide +kernel
theorem dX11_tells_9 : decode cX11_tells 9 = .ok (.getfield 59, 3) := by decide +kernel
theorem dX11_tells_12 : decode cX11_tells 12 = .ok (.iload_n 1, 1) := by decide +kernel
theorem dX11_tells_13 : decode cX11_tells 13 = .ok (.invokevirtual 187, 3) := by decide +kernel
theorem dX11_tells_16 : decode cX11_tells 16 = .ok (.ifCond .ne 5, 3) := by decide +kernel
theorem dX11_tells_19 : decode cX11_tells 19 = .ok (.iconst (-1), 1) := by decide +kernel
theorem dX11_tells_20 : decode cX11_tells 20 = .ok (.ireturn, 1) := by decide +kernel
theorem dX11_tells_21 : decode cX11_tells 21 = .ok (.aload_n 0, 1) := by decide +kernel
theorem dX11_tells_22 : decode cX11_tells 22 = .ok (.getfield 90, 3) := by decide +kernel
theorem dX11_tells_25 : decode cX11_tells 25 = .ok (.aload_n 0, 1) := by decide +kernel
theorem dX11_tells_26 : decode cX11_tells 26 = .ok (.getfield 49, 3) := by decide +kernel
theorem dX11_tells_29 : decode cX11_tells 29 = .ok (.aload_n 0, 1) := by decide +kernel
theorem dX11_tells_30 : decode cX11_tells 30 = .ok (.getfield 59, 3) := by decide +kernel
theorem dX11_tells_33 : decode cX11_tells 33 = .ok (.aload_n 0, 1) := by decide +kernel
theorem dX11_tells_34 : decode cX11_tells 34 = .ok (.getfield 63, 3) := by decide +kernel
theorem dX11_tells_37 : decode cX11_tells 37 = .ok (.iload_n 1, 1) := by decide +kernel
theorem dX11_tells_38 : decode cX11_tells 38 = .ok (.aload_n 0, 1) := by decide +kernel
theorem dX11_tells_39 : decode cX11_tells 39 = .ok (.getfield 137, 3) := by decide +kernel
theorem dX11_tells_42 : decode cX11_tells 42 = .ok (.invokevirtual 277, 3) := by decide +kernel
theorem dX11_tells_45 : decode cX11_tells 45 = .ok (.aload_n 0, 1) := by decide +kernel
theorem dX11_tells_46 : decode cX11_tells 46 = .ok (.getfield 90, 3) := by decide +kernel
theorem dX11_tells_49 : decode cX11_tells 49 = .ok (.aload_n 0, 1) := by decide +kernel
theorem dX11_tells_50 : decode cX11_tells 50 = .ok (.getfield 49, 3) := by decide +kernel
theorem dX11_tells_53 : decode cX11_tells 53 = .ok (.aload_n 0, 1) := by decide +kernel
theorem dX11_tells_54 : decode cX11_tells 54 = .ok (.getfield 59, 3) := by decide +kernel
theorem dX11_tells_57 : decode cX11_tells 57 = .ok (.aload_n 0, 1) := by decide +kernel
theorem dX11_tells_58 : decode cX11_tells 58 = .ok (.getfield 63, 3) := by decide +kernel
theorem dX11_tells_61 : decode cX11_tells 61 = .ok (.iload_n 1, 1) := by decide +kernel
theorem dX11_tells_62 : decode cX11_tells 62 = .ok (.aload_n 0, 1) := by decide +kernel
theorem dX11_tells_63 : decode cX11_tells 63 = .ok (.getfield 137, 3) := by decide +kernel
theorem dX11_tells_66 : decode cX11_tells 66 = .ok (.invokevirtual 289, 3) := by decide +kernel
theorem dX11_tells_69 : decode cX11_tells 69 = .ok (.iload_n 2, 1) := by decide +kernel
theorem dX11_tells_70 : decode cX11_tells 70 = .ok (.tableswitch 50 0 2 #[26, 34, 42], 26) := by decide +kernel
theorem dX11_tells_96 : decode cX11_tells 96 = .ok (.aload_n 0, 1) := by decide +kernel
theorem dX11_tells_97 : decode cX11_tells 97 = .ok (.getfield 90, 3) := by decide +kernel
theorem dX11_tells_100 : decode cX11_tells 100 = .ok (.getfield 292, 3) := by decide +kernel
theorem dX11_tells_103 : decode cX11_tells 103 = .ok (.ireturn, 1) := by decide +kernel
theorem dX11_tells_104 : decode cX11_tells 104 = .ok (.aload_n 0, 1) := by decide +kernel
theorem dX11_tells_105 : decode cX11_tells 105 = .ok (.getfield 90, 3) := by decide +kernel
theorem dX11_tells_108 : decode cX11_tells 108 = .ok (.getfield 295, 3) := by decide +kernel
theorem dX11_tells_111 : decode cX11_tells 111 = .ok (.ireturn, 1) := by decide +kernel
theorem dX11_tells_112 : decode cX11_tells 112 = .ok (.aload_n 0, 1) := by decide +kernel
theorem dX11_tells_113 : decode cX11_tells 113 = .ok (.getfield 90, 3) := by decide +kernel
theorem dX11_tells_116 : decode cX11_tells 116 = .ok (.getfield 298, 3) := by decide +kernel
theorem dX11_tells_119 : decode cX11_tells 119 = .ok (.ireturn, 1) := by decide +kernel
theorem dX11_tells_120 : decode cX11_tells 120 = .ok (.iconst (-1), 1) := by decide +kernel
theorem dX11_tells_121 : decode cX11_tells 121 = .ok (.ireturn, 1) := by decide +kernel
theorem dX11_feud_0 : decode cX11_feud 0 = .ok (.aload_n 0, 1) := by decide +kernel
theorem dX11_feud_1 : decode cX11_feud 1 = .ok (.iload_n 1, 1) := by decide +kernel
theorem dX11_feud_2 : decode cX11_feud 2 = .ok (.iload_n 2, 1) := by decide +kernel
theorem dX11_feud_3 : decode cX11_feud 3 = .ok (.invokevirtual 193, 3) := by decide +kernel
theorem dX11_feud_6 : decode cX11_feud 6 = .ok (.ifCond .eq 53, 3) := by decide +kernel
theorem dX11_feud_9 : decode cX11_feud 9 = .ok (.aload_n 0, 1) := by decide +kernel
theorem dX11_feud_10 : decode cX11_feud 10 = .ok (.getfield 59, 3) := by decide +kernel
theorem dX11_feud_13 : decode cX11_feud 13 = .ok (.iload_n 1, 1) := by decide +kernel
theorem dX11_feud_14 : decode cX11_feud 14 = .ok (.invokevirtual 187, 3) := by decide +kernel
theorem dX11_feud_17 : decode cX11_feud 17 = .ok (.ifCond .eq 42, 3) := by decide +kernel
theorem dX11_feud_20 : decode cX11_feud 20 = .ok (.aload_n 0, 1) := by decide +kernel
theorem dX11_feud_21 : decode cX11_feud 21 = .ok (.getfield 59, 3) := by decide +kernel
theorem dX11_feud_24 : decode cX11_feud 24 = .ok (.iload_n 2, 1) := by decide +kernel
theorem dX11_feud_25 : decode cX11_feud 25 = .ok (.invokevirtual 187, 3) := by decide +kernel
theorem dX11_feud_28 : decode cX11_feud 28 = .ok (.ifCond .eq 31, 3) := by decide +kernel
theorem dX11_feud_31 : decode cX11_feud 31 = .ok (.iload_n 3, 1) := by decide +kernel
theorem dX11_feud_32 : decode cX11_feud 32 = .ok (.ifCond .lt 27, 3) := by decide +kernel
theorem dX11_feud_35 : decode cX11_feud 35 = .ok (.iload_n 3, 1) := by decide +kernel
theorem dX11_feud_36 : decode cX11_feud 36 = .ok (.bipush 99, 2) := by decide +kernel
theorem dX11_feud_38 : decode cX11_feud 38 = .ok (.if_icmp .gt 21, 3) := by decide +kernel
theorem dX11_feud_41 : decode cX11_feud 41 = .ok (.aload_n 0, 1) := by decide +kernel
theorem dX11_feud_42 : decode cX11_feud 42 = .ok (.getfield 59, 3) := by decide +kernel
theorem dX11_feud_45 : decode cX11_feud 45 = .ok (.getfield 197, 3) := by decide +kernel
theorem dX11_feud_48 : decode cX11_feud 48 = .ok (.bipush 8, 2) := by decide +kernel
theorem dX11_feud_50 : decode cX11_feud 50 = .ok (.iload_n 1, 1) := by decide +kernel
theorem dX11_feud_51 : decode cX11_feud 51 = .ok (.imul, 1) := by decide +kernel
theorem dX11_feud_52 : decode cX11_feud 52 = .ok (.iload_n 2, 1) := by decide +kernel
theorem dX11_feud_53 : decode cX11_feud 53 = .ok (.iadd, 1) := by decide +kernel
theorem dX11_feud_54 : decode cX11_feud 54 = .ok (.iaload, 1) := by decide +kernel
theorem dX11_feud_55 : decode cX11_feud 55 = .ok (.iload_n 3, 1) := by decide +kernel
theorem dX11_feud_56 : decode cX11_feud 56 = .ok (.if_icmp .ne 11, 3) := by decide +kernel
theorem dX11_feud_59 : decode cX11_feud 59 = .ok (.aload_n 0, 1) := by decide +kernel
theorem dX11_feud_60 : decode cX11_feud 60 = .ok (.iconst 2, 1) := by decide +kernel
theorem dX11_feud_61 : decode cX11_feud 61 = .ok (.invokevirtual 97, 3) := by decide +kernel
theorem dX11_feud_64 : decode cX11_feud 64 = .ok (.pop, 1) := by decide +kernel
theorem dX11_feud_65 : decode cX11_feud 65 = .ok (.iconst 0, 1) := by decide +kernel
theorem dX11_feud_66 : decode cX11_feud 66 = .ok (.ireturn, 1) := by decide +kernel
theorem dX11_feud_67 : decode cX11_feud 67 = .ok (.aload_n 0, 1) := by decide +kernel
theorem dX11_feud_68 : decode cX11_feud 68 = .ok (.invokevirtual 301, 3) := by decide +kernel
theorem dX11_feud_71 : decode cX11_feud 71 = .ok (.aload_n 0, 1) := by decide +kernel
theorem dX11_feud_72 : decode cX11_feud 72 = .ok (.getfield 59, 3) := by decide +kernel
theorem dX11_feud_75 : decode cX11_feud 75 = .ok (.iload_n 1, 1) := by decide +kernel
theorem dX11_feud_76 : decode cX11_feud 76 = .ok (.iload_n 2, 1) := by decide +kernel
theorem dX11_feud_77 : decode cX11_feud 77 = .ok (.iload_n 3, 1) := by decide +kernel
theorem dX11_feud_78 : decode cX11_feud 78 = .ok (.invokevirtual 304, 3) := by decide +kernel
theorem dX11_feud_81 : decode cX11_feud 81 = .ok (.iconst 1, 1) := by decide +kernel
theorem dX11_feud_82 : decode cX11_feud 82 = .ok (.ireturn, 1) := by decide +kernel
theorem dX11_bring_0 : decode cX11_bring 0 = .ok (.aload_n 0, 1) := by decide +kernel
theorem dX11_bring_1 : decode cX11_bring 1 = .ok (.iload_n 1, 1) := by decide +kernel
theorem dX11_bring_2 : decode cX11_bring 2 = .ok (.invokevirtual 171, 3) := by decide +kernel
theorem dX11_bring_5 : decode cX11_bring 5 = .ok (.ifCond .eq 37, 3) := by decide +kernel
theorem dX11_bring_8 : decode cX11_bring 8 = .ok (.aload_n 0, 1) := by decide +kernel
theorem dX11_bring_9 : decode cX11_bring 9 = .ok (.getfield 59, 3) := by decide +kernel
theorem dX11_bring_12 : decode cX11_bring 12 = .ok (.iload_n 1, 1) := by decide +kernel
theorem dX11_bring_13 : decode cX11_bring 13 = .ok (.invokevirtual 187, 3) := by decide +kernel
theorem dX11_bring_16 : decode cX11_bring 16 = .ok (.ifCond .eq 26, 3) := by decide +kernel
theorem dX11_bring_19 : decode cX11_bring 19 = .ok (.iload_n 2, 1) := by decide +kernel
theorem dX11_bring_20 : decode cX11_bring 20 = .ok (.ifCond .lt 22, 3) := by decide +kernel
theorem dX11_bring_23 : decode cX11_bring 23 = .ok (.iload_n 2, 1) := by decide +kernel
theorem dX11_bring_24 : decode cX11_bring 24 = .ok (.bipush 99, 2) := by decide +kernel
theorem dX11_bring_26 : decode cX11_bring 26 = .ok (.if_icmp .gt 16, 3) := by decide +kernel
theorem dX11_bring_29 : decode cX11_bring 29 = .ok (.aload_n 0, 1) := by decide +kernel
theorem dX11_bring_30 : decode cX11_bring 30 = .ok (.getfield 59, 3) := by decide +kernel
theorem dX11_bring_33 : decode cX11_bring 33 = .ok (.getfield 178, 3) := by decide +kernel
theorem dX11_bring_36 : decode cX11_bring 36 = .ok (.iload_n 1, 1) := by decide +kernel
theorem dX11_bring_37 : decode cX11_bring 37 = .ok (.iaload, 1) := by decide +kernel
theorem dX11_bring_38 : decode cX11_bring 38 = .ok (.iload_n 2, 1) := by decide +kernel
theorem dX11_bring_39 : decode cX11_bring 39 = .ok (.if_icmp .ne 11, 3) := by decide +kernel
theorem dX11_bring_42 : decode cX11_bring 42 = .ok (.aload_n 0, 1) := by decide +kernel
theorem dX11_bring_43 : decode cX11_bring 43 = .ok (.iconst 2, 1) := by decide +kernel
theorem dX11_bring_44 : decode cX11_bring 44 = .ok (.invokevirtual 97, 3) := by decide +kernel
theorem dX11_bring_47 : decode cX11_bring 47 = .ok (.pop, 1) := by decide +kernel
theorem dX11_bring_48 : decode cX11_bring 48 = .ok (.iconst 0, 1) := by decide +kernel
theorem dX11_bring_49 : decode cX11_bring 49 = .ok (.ireturn, 1) := by decide +kernel
theorem dX11_bring_50 : decode cX11_bring 50 = .ok (.aload_n 0, 1) := by decide +kernel
theorem dX11_bring_51 : decode cX11_bring 51 = .ok (.invokevirtual 301, 3) := by decide +kernel
theorem dX11_bring_54 : decode cX11_bring 54 = .ok (.aload_n 0, 1) := by decide +kernel
theorem dX11_bring_55 : decode cX11_bring 55 = .ok (.getfield 59, 3) := by decide +kernel
theorem dX11_bring_58 : decode cX11_bring 58 = .ok (.getfield 178, 3) := by decide +kernel
theorem dX11_bring_61 : decode cX11_bring 61 = .ok (.iload_n 1, 1) := by decide +kernel
theorem dX11_bring_62 : decode cX11_bring 62 = .ok (.iload_n 2, 1) := by decide +kernel
theorem dX11_bring_63 : decode cX11_bring 63 = .ok (.iastore, 1) := by decide +kernel
theorem dX11_bring_64 : decode cX11_bring 64 = .ok (.iconst 1, 1) := by decide +kernel
theorem dX11_bring_65 : decode cX11_bring 65 = .ok (.ireturn, 1) := by decide +kernel
theorem dX11_days_0 : decode cX11_days 0 = .ok (.aload_n 0, 1) := by decide +kernel
theorem dX11_days_1 : decode cX11_days 1 = .ok (.iload_n 1, 1) := by decide +kernel
theorem dX11_days_2 : decode cX11_days 2 = .ok (.invokevirtual 308, 3) := by decide +kernel
theorem dX11_days_5 : decode cX11_days 5 = .ok (.ifCond .ne 9, 3) := by decide +kernel
theorem dX11_days_8 : decode cX11_days 8 = .ok (.aload_n 0, 1) := by decide +kernel
theorem dX11_days_9 : decode cX11_days 9 = .ok (.iconst 3, 1) := by decide +kernel
theorem dX11_days_10 : decode cX11_days 10 = .ok (.invokevirtual 97, 3) := by decide +kernel
theorem dX11_days_13 : decode cX11_days 13 = .ok (.ireturn, 1) := by decide +kernel
theorem dX11_days_14 : decode cX11_days 14 = .ok (.aload_n 0, 1) := by decide +kernel
theorem dX11_days_15 : decode cX11_days 15 = .ok (.invokevirtual 301, 3) := by decide +kernel
theorem dX11_days_18 : decode cX11_days 18 = .ok (.iconst 0, 1) := by decide +kernel
theorem dX11_days_19 : decode cX11_days 19 = .ok (.istore_n 2, 1) := by decide +kernel
theorem dX11_days_20 : decode cX11_days 20 = .ok (.iconst 0, 1) := by decide +kernel
theorem dX11_days_21 : decode cX11_days 21 = .ok (.istore_n 3, 1) := by decide +kernel
theorem dX11_days_22 : decode cX11_days 22 = .ok (.iload_n 3, 1) := by decide +kernel
theorem dX11_days_23 : decode cX11_days 23 = .ok (.iload_n 1, 1) := by decide +kernel
theorem dX11_days_24 : decode cX11_days 24 = .ok (.if_icmp .ge 32, 3) := by decide +kernel
theorem dX11_days_27 : decode cX11_days 27 = .ok (.aload_n 0, 1) := by decide +kernel
theorem dX11_days_28 : decode cX11_days 28 = .ok (.getfield 49, 3) := by decide +kernel
theorem dX11_days_31 : decode cX11_days 31 = .ok (.aload_n 0, 1) := by decide +kernel
theorem dX11_days_32 : decode cX11_days 32 = .ok (.getfield 59, 3) := by decide +kernel
theorem dX11_days_35 : decode cX11_days 35 = .ok (.iconst 0, 1) := by decide +kernel
theorem dX11_days_36 : decode cX11_days 36 = .ok (.iconst 1, 1) := by decide +kernel
theorem dX11_days_37 : decode cX11_days 37 = .ok (.invokevirtual 227, 3) := by decide +kernel
theorem dX11_days_40 : decode cX11_days 40 = .ok (.iload_n 2, 1) := by decide +kernel
theorem dX11_days_41 : decode cX11_days 41 = .ok (.aload_n 0, 1) := by decide +kernel
theorem dX11_days_42 : decode cX11_days 42 = .ok (.getfield 49, 3) := by decide +kernel
theorem dX11_days_45 : decode cX11_days 45 = .ok (.getfield 311, 3) := by decide +kernel
theorem dX11_days_48 : decode cX11_days 48 = .ok (.iadd, 1) := by decide +kernel
theorem dX11_days_49 : decode cX11_days 49 = .ok (.istore_n 2, 1) := by decide +kernel
theorem dX11_days_50 : decode cX11_days 50 = .ok (.iinc 3 1, 3) := by decide +kernel
theorem dX11_days_53 : decode cX11_days 53 = .ok (.goto (-31), 3) := by decide +kernel
theorem dX11_days_56 : decode cX11_days 56 = .ok (.iload_n 2, 1) := by decide +kernel
theorem dX11_days_57 : decode cX11_days 57 = .ok (.ireturn, 1) := by decide +kernel
theorem dX11_chance_0 : decode cX11_chance 0 = .ok (.aload_n 0, 1) := by decide +kernel
theorem dX11_chance_1 : decode cX11_chance 1 = .ok (.iload_n 1, 1) := by decide +kernel
theorem dX11_chance_2 : decode cX11_chance 2 = .ok (.invokevirtual 308, 3) := by decide +kernel
theorem dX11_chance_5 : decode cX11_chance 5 = .ok (.ifCond .ne 9, 3) := by decide +kernel
theorem dX11_chance_8 : decode cX11_chance 8 = .ok (.aload_n 0, 1) := by decide +kernel
theorem dX11_chance_9 : decode cX11_chance 9 = .ok (.iconst 3, 1) := by decide +kernel
theorem dX11_chance_10 : decode cX11_chance 10 = .ok (.invokevirtual 97, 3) := by decide +kernel
theorem dX11_chance_13 : decode cX11_chance 13 = .ok (.ireturn, 1) := by decide +kernel
theorem dX11_chance_14 : decode cX11_chance 14 = .ok (.aload_n 0, 1) := by decide +kernel
theorem dX11_chance_15 : decode cX11_chance 15 = .ok (.invokevirtual 301, 3) := by decide +kernel
theorem dX11_chance_18 : decode cX11_chance 18 = .ok (.iconst 0, 1) := by decide +kernel
theorem dX11_chance_19 : decode cX11_chance 19 = .ok (.istore_n 2, 1) := by decide +kernel
theorem dX11_chance_20 : decode cX11_chance 20 = .ok (.iconst 0, 1) := by decide +kernel
theorem dX11_chance_21 : decode cX11_chance 21 = .ok (.istore_n 3, 1) := by decide +kernel
theorem dX11_chance_22 : decode cX11_chance 22 = .ok (.iload_n 3, 1) := by decide +kernel
theorem dX11_chance_23 : decode cX11_chance 23 = .ok (.iload_n 1, 1) := by decide +kernel
theorem dX11_chance_24 : decode cX11_chance 24 = .ok (.if_icmp .ge 86, 3) := by decide +kernel
theorem dX11_chance_27 : decode cX11_chance 27 = .ok (.aload_n 0, 1) := by decide +kernel
theorem dX11_chance_28 : decode cX11_chance 28 = .ok (.bipush 100, 2) := by decide +kernel
theorem dX11_chance_30 : decode cX11_chance 30 = .ok (.invokevirtual 314, 3) := by decide +kernel
theorem dX11_chance_33 : decode cX11_chance 33 = .ok (.aload_n 0, 1) := by decide +kernel
theorem dX11_chance_34 : decode cX11_chance 34 = .ok (.getfield 57, 3) := by decide +kernel
theorem dX11_chance_37 : decode cX11_chance 37 = .ok (.getfield 317, 3) := by decide +kernel
theorem dX11_chance_40 : decode cX11_chance 40 = .ok (.if_icmp .ge 51, 3) := by decide +kernel
theorem dX11_chance_43 : decode cX11_chance 43 = .ok (.aload_n 0, 1) := by decide +kernel
theorem dX11_chance_44 : decode cX11_chance 44 = .ok (.getfield 57, 3) := by decide +kernel
theorem dX11_chance_47 : decode cX11_chance 47 = .ok (.getfield 148, 3) := by decide +kernel
theorem dX11_chance_50 : decode cX11_chance 50 = .ok (.ifCond .le 41, 3) := by decide +kernel
theorem dX11_chance_53 : decode cX11_chance 53 = .ok (.aload_n 0, 1) := by decide +kernel
theorem dX11_chance_54 : decode cX11_chance 54 = .ok (.aload_n 0, 1) := by decide +kernel
theorem dX11_chance_55 : decode cX11_chance 55 = .ok (.getfield 57, 3) := by decide +kernel
theorem dX11_chance_58 : decode cX11_chance 58 = .ok (.getfield 148, 3) := by decide +kernel
theorem dX11_chance_61 : decode cX11_chance 61 = .ok (.invokevirtual 314, 3) := by decide +kernel
theorem dX11_chance_64 : decode cX11_chance 64 = .ok (.istore 4, 2) := by decide +kernel
theorem dX11_chance_66 : decode cX11_chance 66 = .ok (.aload_n 0, 1) := by decide +kernel
theorem dX11_chance_67 : decode cX11_chance 67 = .ok (.getfield 59, 3) := by decide +kernel
theorem dX11_chance_70 : decode cX11_chance 70 = .ok (.getfield 178, 3) := by decide +kernel
theorem dX11_chance_73 : decode cX11_chance 73 = .ok (.iload 4, 2) := by decide +kernel
theorem dX11_chance_75 : decode cX11_chance 75 = .ok (.aload_n 0, 1) := by decide +kernel
theorem dX11_chance_76 : decode cX11_chance 76 = .ok (.getfield 59, 3) := by decide +kernel
theorem dX11_chance_79 : decode cX11_chance 79 = .ok (.getfield 178, 3) := by decide +kernel
theorem dX11_chance_82 : decode cX11_chance 82 = .ok (.iload 4, 2) := by decide +kernel
theorem dX11_chance_84 : decode cX11_chance 84 = .ok (.iaload, 1) := by decide +kernel
theorem dX11_chance_85 : decode cX11_chance 85 = .ok (.iconst 2, 1) := by decide +kernel
theorem dX11_chance_86 : decode cX11_chance 86 = .ok (.idiv, 1) := by decide +kernel
theorem dX11_chance_87 : decode cX11_chance 87 = .ok (.iastore, 1) := by decide +kernel
theorem dX11_chance_88 : decode cX11_chance 88 = .ok (.iinc 2 1, 3) := by decide +kernel
theorem dX11_chance_91 : decode cX11_chance 91 = .ok (.aload_n 0, 1) := by decide +kernel
theorem dX11_chance_92 : decode cX11_chance 92 = .ok (.getfield 49, 3) := by decide +kernel
theorem dX11_chance_95 : decode cX11_chance 95 = .ok (.aload_n 0, 1) := by decide +kernel
theorem dX11_chance_96 : decode cX11_chance 96 = .ok (.getfield 59, 3) := by decide +kernel
theorem dX11_chance_99 : decode cX11_chance 99 = .ok (.iconst 0, 1) := by decide +kernel
theorem dX11_chance_100 : decode cX11_chance 100 = .ok (.iconst 1, 1) := by decide +kernel
theorem dX11_chance_101 : decode cX11_chance 101 = .ok (.invokevirtual 227, 3) := by decide +kernel
theorem dX11_chance_104 : decode cX11_chance 104 = .ok (.iinc 3 1, 3) := by decide +kernel
theorem dX11_chance_107 : decode cX11_chance 107 = .ok (.goto (-85), 3) := by decide +kernel
theorem dX11_chance_110 : decode cX11_chance 110 = .ok (.iload_n 2, 1) := by decide +kernel
theorem dX11_chance_111 : decode cX11_chance 111 = .ok (.ireturn, 1) := by decide +kernel
theorem dX11_undo_0 : decode cX11_undo 0 = .ok (.aload_n 0, 1) := by decide +kernel
theorem dX11_undo_1 : decode cX11_undo 1 = .ok (.getfield 69, 3) := by decide +kernel
theorem dX11_undo_4 : decode cX11_undo 4 = .ok (.aload_n 0, 1) := by decide +kernel
theorem dX11_undo_5 : decode cX11_undo 5 = .ok (.getfield 59, 3) := by decide +kernel
theorem dX11_undo_8 : decode cX11_undo 8 = .ok (.invokevirtual 320, 3) := by decide +kernel
theorem dX11_undo_11 : decode cX11_undo 11 = .ok (.ifCond .ne 11, 3) := by decide +kernel
theorem dX11_undo_14 : decode cX11_undo 14 = .ok (.aload_n 0, 1) := by decide +kernel
theorem dX11_undo_15 : decode cX11_undo 15 = .ok (.iconst 4, 1) := by decide +kernel
theorem dX11_undo_16 : decode cX11_undo 16 = .ok (.invokevirtual 97, 3) := by decide +kernel
theorem dX11_undo_19 : decode cX11_undo 19 = .ok (.pop, 1) := by decide +kernel
theorem dX11_undo_20 : decode cX11_undo 20 = .ok (.iconst 0, 1) := by decide +kernel
theorem dX11_undo_21 : decode cX11_undo 21 = .ok (.ireturn, 1) := by decide +kernel
theorem dX11_undo_22 : decode cX11_undo 22 = .ok (.aload_n 0, 1) := by decide +kernel
theorem dX11_undo_23 : decode cX11_undo 23 = .ok (.dup, 1) := by decide +kernel
theorem dX11_undo_24 : decode cX11_undo 24 = .ok (.getfield 137, 3) := by decide +kernel
theorem dX11_undo_27 : decode cX11_undo 27 = .ok (.iconst 1, 1) := by decide +kernel
theorem dX11_undo_28 : decode cX11_undo 28 = .ok (.iadd, 1) := by decide +kernel
theorem dX11_undo_29 : decode cX11_undo 29 = .ok (.putfield 137, 3) := by decide +kernel
theorem dX11_undo_32 : decode cX11_undo 32 = .ok (.iconst 1, 1) := by decide +kernel
theorem dX11_undo_33 : decode cX11_undo 33 = .ok (.ireturn, 1) := by decide +kernel
theorem dX11_seed_0 : decode cX11_seed 0 = .ok (.iload_n 1, 1) := by decide +kernel
theorem dX11_seed_1 : decode cX11_seed 1 = .ok (.ifCond .ge 11, 3) := by decide +kernel
theorem dX11_seed_4 : decode cX11_seed 4 = .ok (.aload_n 0, 1) := by decide +kernel
theorem dX11_seed_5 : decode cX11_seed 5 = .ok (.iconst 5, 1) := by decide +kernel
theorem dX11_seed_6 : decode cX11_seed 6 = .ok (.invokevirtual 97, 3) := by decide +kernel
theorem dX11_seed_9 : decode cX11_seed 9 = .ok (.pop, 1) := by decide +kernel
theorem dX11_seed_10 : decode cX11_seed 10 = .ok (.iconst 0, 1) := by decide +kernel
theorem dX11_seed_11 : decode cX11_seed 11 = .ok (.ireturn, 1) := by decide +kernel
theorem dX11_seed_12 : decode cX11_seed 12 = .ok (.aload_n 0, 1) := by decide +kernel
theorem dX11_seed_13 : decode cX11_seed 13 = .ok (.iload_n 1, 1) := by decide +kernel
theorem dX11_seed_14 : decode cX11_seed 14 = .ok (.putfield 20, 3) := by decide +kernel
theorem dX11_seed_17 : decode cX11_seed 17 = .ok (.iconst 1, 1) := by decide +kernel
theorem dX11_seed_18 : decode cX11_seed 18 = .ok (.ireturn, 1) := by decide +kernel
theorem dX11_ask_0 : decode cX11_ask 0 = .ok (.aload_n 0, 1) := by decide +kernel
theorem dX11_ask_1 : decode cX11_ask 1 = .ok (.invokevirtual 104, 3) := by decide +kernel
theorem dX11_ask_4 : decode cX11_ask 4 = .ok (.istore_n 1, 1) := by decide +kernel
theorem dX11_ask_5 : decode cX11_ask 5 = .ok (.aload_n 0, 1) := by decide +kernel
theorem dX11_ask_6 : decode cX11_ask 6 = .ok (.invokevirtual 230, 3) := by decide +kernel
theorem dX11_ask_9 : decode cX11_ask 9 = .ok (.ifCond .ne 7, 3) := by decide +kernel
theorem dX11_ask_12 : decode cX11_ask 12 = .ok (.ldc2_w 324, 3) := by decide +kernel
theorem dX11_ask_15 : decode cX11_ask 15 = .ok (.lreturn, 1) := by decide +kernel
theorem dX11_ask_16 : decode cX11_ask 16 = .ok (.aload_n 0, 1) := by decide +kernel
theorem dX11_ask_17 : decode cX11_ask 17 = .ok (.getfield 42, 3) := by decide +kernel
theorem dX11_ask_20 : decode cX11_ask 20 = .ok (.aload_n 0, 1) := by decide +kernel
theorem dX11_ask_21 : decode cX11_ask 21 = .ok (.getfield 9, 3) := by decide +kernel
theorem dX11_ask_24 : decode cX11_ask 24 = .ok (.iload_n 1, 1) := by decide +kernel
theorem dX11_ask_25 : decode cX11_ask 25 = .ok (.invokevirtual 326, 3) := by decide +kernel
theorem dX11_ask_28 : decode cX11_ask 28 = .ok (.aload_n 0, 1) := by decide +kernel
theorem dX11_ask_29 : decode cX11_ask 29 = .ok (.aload_n 0, 1) := by decide +kernel
theorem dX11_ask_30 : decode cX11_ask 30 = .ok (.getfield 42, 3) := by decide +kernel
theorem dX11_ask_33 : decode cX11_ask 33 = .ok (.getfield 327, 3) := by decide +kernel
theorem dX11_ask_36 : decode cX11_ask 36 = .ok (.invokevirtual 116, 3) := by decide +kernel
theorem dX11_ask_39 : decode cX11_ask 39 = .ok (.aload_n 0, 1) := by decide +kernel
theorem dX11_ask_40 : decode cX11_ask 40 = .ok (.getfield 120, 3) := by decide +kernel
theorem dX11_ask_43 : decode cX11_ask 43 = .ok (.ifCond .ne 21, 3) := by decide +kernel
theorem dX11_ask_46 : decode cX11_ask 46 = .ok (.aload_n 0, 1) := by decide +kernel
theorem dX11_ask_47 : decode cX11_ask 47 = .ok (.getfield 42, 3) := by decide +kernel
theorem dX11_ask_50 : decode cX11_ask 50 = .ok (.aload_n 0, 1) := by decide +kernel
theorem dX11_ask_51 : decode cX11_ask 51 = .ok (.getfield 49, 3) := by decide +kernel
theorem dX11_ask_54 : decode cX11_ask 54 = .ok (.aload_n 0, 1) := by decide +kernel
theorem dX11_ask_55 : decode cX11_ask 55 = .ok (.getfield 59, 3) := by decide +kernel
theorem dX11_ask_58 : decode cX11_ask 58 = .ok (.invokevirtual 328, 3) := by decide +kernel
theorem dX11_ask_61 : decode cX11_ask 61 = .ok (.goto 6, 3) := by decide +kernel
theorem dX11_ask_64 : decode cX11_ask 64 = .ok (.ldc2_w 324, 3) := by decide +kernel
theorem dX11_ask_67 : decode cX11_ask 67 = .ok (.lreturn, 1) := by decide +kernel
theorem dX11_image_0 : decode cX11_image 0 = .ok (.aload_n 0, 1) := by decide +kernel
theorem dX11_image_1 : decode cX11_image 1 = .ok (.aload_n 0, 1) := by decide +kernel
theorem dX11_image_2 : decode cX11_image 2 = .ok (.getfield 59, 3) := by decide +kernel
theorem dX11_image_5 : decode cX11_image 5 = .ok (.aload_n 0, 1) := by decide +kernel
theorem dX11_image_6 : decode cX11_image 6 = .ok (.getfield 29, 3) := by decide +kernel
theorem dX11_image_9 : decode cX11_image 9 = .ok (.aload_n 0, 1) := by decide +kernel
theorem dX11_image_10 : decode cX11_image 10 = .ok (.getfield 57, 3) := by decide +kernel
theorem dX11_image_13 : decode cX11_image 13 = .ok (.getfield 148, 3) := by decide +kernel
theorem dX11_image_16 : decode cX11_image 16 = .ok (.invokevirtual 332, 3) := by decide +kernel
theorem dX11_image_19 : decode cX11_image 19 = .ok (.putfield 336, 3) := by decide +kernel
theorem dX11_image_22 : decode cX11_image 22 = .ok (.aload_n 0, 1) := by decide +kernel
theorem dX11_image_23 : decode cX11_image 23 = .ok (.getfield 336, 3) := by decide +kernel
theorem dX11_image_26 : decode cX11_image 26 = .ok (.ireturn, 1) := by decide +kernel
theorem dX11_octet_0 : decode cX11_octet 0 = .ok (.iload_n 1, 1) := by decide +kernel
theorem dX11_octet_1 : decode cX11_octet 1 = .ok (.ifCond .lt 20, 3) := by decide +kernel
theorem dX11_octet_4 : decode cX11_octet 4 = .ok (.iload_n 1, 1) := by decide +kernel
theorem dX11_octet_5 : decode cX11_octet 5 = .ok (.aload_n 0, 1) := by decide +kernel
theorem dX11_octet_6 : decode cX11_octet 6 = .ok (.getfield 336, 3) := by decide +kernel
theorem dX11_octet_9 : decode cX11_octet 9 = .ok (.if_icmp .ge 12, 3) := by decide +kernel
theorem dX11_octet_12 : decode cX11_octet 12 = .ok (.aload_n 0, 1) := by decide +kernel
theorem dX11_octet_13 : decode cX11_octet 13 = .ok (.getfield 29, 3) := by decide +kernel
theorem dX11_octet_16 : decode cX11_octet 16 = .ok (.iload_n 1, 1) := by decide +kernel
theorem dX11_octet_17 : decode cX11_octet 17 = .ok (.iaload, 1) := by decide +kernel
theorem dX11_octet_18 : decode cX11_octet 18 = .ok (.goto 4, 3) := by decide +kernel
theorem dX11_octet_21 : decode cX11_octet 21 = .ok (.iconst (-1), 1) := by decide +kernel
theorem dX11_octet_22 : decode cX11_octet 22 = .ok (.ireturn, 1) := by decide +kernel
theorem dX11_on_0 : decode cX11_on 0 = .ok (.aload_n 0, 1) := by decide +kernel
theorem dX11_on_1 : decode cX11_on 1 = .ok (.invokevirtual 104, 3) := by decide +kernel
theorem dX11_on_4 : decode cX11_on 4 = .ok (.istore_n 1, 1) := by decide +kernel
theorem dX11_on_5 : decode cX11_on 5 = .ok (.aload_n 0, 1) := by decide +kernel
theorem dX11_on_6 : decode cX11_on 6 = .ok (.invokevirtual 230, 3) := by decide +kernel
theorem dX11_on_9 : decode cX11_on 9 = .ok (.ifCond .eq 21, 3) := by decide +kernel
theorem dX11_on_12 : decode cX11_on 12 = .ok (.aload_n 0, 1) := by decide +kernel
theorem dX11_on_13 : decode cX11_on 13 = .ok (.getfield 9, 3) := by decide +kernel
theorem dX11_on_16 : decode cX11_on 16 = .ok (.iload_n 1, 1) := by decide +kernel
theorem dX11_on_17 : decode cX11_on 17 = .ok (.aload_n 0, 1) := by decide +kernel
theorem dX11_on_18 : decode cX11_on 18 = .ok (.getfield 57, 3) := by decide +kernel
theorem dX11_on_21 : decode cX11_on 21 = .ok (.getfield 148, 3) := by decide +kernel
theorem dX11_on_24 : decode cX11_on 24 = .ok (.invokestatic 339, 3) := by decide +kernel
theorem dX11_on_27 : decode cX11_on 27 = .ok (.ifCond .ne 11, 3) := by decide +kernel
theorem dX11_on_30 : decode cX11_on 30 = .ok (.aload_n 0, 1) := by decide +kernel
theorem dX11_on_31 : decode cX11_on 31 = .ok (.iconst 5, 1) := by decide +kernel
theorem dX11_on_32 : decode cX11_on 32 = .ok (.invokevirtual 97, 3) := by decide +kernel
theorem dX11_on_35 : decode cX11_on 35 = .ok (.pop, 1) := by decide +kernel
theorem dX11_on_36 : decode cX11_on 36 = .ok (.iconst 0, 1) := by decide +kernel
theorem dX11_on_37 : decode cX11_on 37 = .ok (.ireturn, 1) := by decide +kernel
theorem dX11_on_38 : decode cX11_on 38 = .ok (.aload_n 0, 1) := by decide +kernel
theorem dX11_on_39 : decode cX11_on 39 = .ok (.getfield 59, 3) := by decide +kernel
theorem dX11_on_42 : decode cX11_on 42 = .ok (.aload_n 0, 1) := by decide +kernel
theorem dX11_on_43 : decode cX11_on 43 = .ok (.getfield 9, 3) := by decide +kernel
theorem dX11_on_46 : decode cX11_on 46 = .ok (.aload_n 0, 1) := by decide +kernel
theorem dX11_on_47 : decode cX11_on 47 = .ok (.getfield 57, 3) := by decide +kernel
theorem dX11_on_50 : decode cX11_on 50 = .ok (.getfield 148, 3) := by decide +kernel
theorem dX11_on_53 : decode cX11_on 53 = .ok (.invokevirtual 342, 3) := by decide +kernel
theorem dX11_on_56 : decode cX11_on 56 = .ok (.aload_n 0, 1) := by decide +kernel
theorem dX11_on_57 : decode cX11_on 57 = .ok (.getfield 69, 3) := by decide +kernel
theorem dX11_on_60 : decode cX11_on 60 = .ok (.iconst 0, 1) := by decide +kernel
theorem dX11_on_61 : decode cX11_on 61 = .ok (.putfield 131, 3) := by decide +kernel
theorem dX11_on_64 : decode cX11_on 64 = .ok (.aload_n 0, 1) := by decide +kernel
theorem dX11_on_65 : decode cX11_on 65 = .ok (.dup, 1) := by decide +kernel
theorem dX11_on_66 : decode cX11_on 66 = .ok (.getfield 137, 3) := by decide +kernel
theorem dX11_on_69 : decode cX11_on 69 = .ok (.iconst 1, 1) := by decide +kernel
theorem dX11_on_70 : decode cX11_on 70 = .ok (.iadd, 1) := by decide +kernel
theorem dX11_on_71 : decode cX11_on 71 = .ok (.putfield 137, 3) := by decide +kernel
theorem dX11_on_74 : decode cX11_on 74 = .ok (.iconst 1, 1) := by decide +kernel
theorem dX11_on_75 : decode cX11_on 75 = .ok (.ireturn, 1) := by decide +kernel
theorem dX11_status_0 : decode cX11_status 0 = .ok (.iload_n 1, 1) := by decide +kernel
theorem dX11_status_1 : decode cX11_status 1 = .ok (.ifCond .lt 21, 3) := by decide +kernel
theorem dX11_status_4 : decode cX11_status 4 = .ok (.iload_n 1, 1) := by decide +kernel
theorem dX11_status_5 : decode cX11_status 5 = .ok (.aload_n 0, 1) := by decide +kernel
theorem dX11_status_6 : decode cX11_status 6 = .ok (.getfield 13, 3) := by decide +kernel
theorem dX11_status_9 : decode cX11_status 9 = .ok (.arraylength, 1) := by decide +kernel
theorem dX11_status_10 : decode cX11_status 10 = .ok (.if_icmp .ge 12, 3) := by decide +kernel
theorem dX11_status_13 : decode cX11_status 13 = .ok (.aload_n 0, 1) := by decide +kernel
theorem dX11_status_14 : decode cX11_status 14 = .ok (.getfield 13, 3) := by decide +kernel
theorem dX11_status_17 : decode cX11_status 17 = .ok (.iload_n 1, 1) := by decide +kernel
theorem dX11_status_18 : decode cX11_status 18 = .ok (.iaload, 1) := by decide +kernel
theorem dX11_status_19 : decode cX11_status 19 = .ok (.goto 4, 3) := by decide +kernel
theorem dX11_status_22 : decode cX11_status 22 = .ok (.iconst (-1), 1) := by decide +kernel
theorem dX11_status_23 : decode cX11_status 23 = .ok (.ireturn, 1) := by decide +kernel
theorem dX11_refuse_0 : decode cX11_refuse 0 = .ok (.iload_n 1, 1) := by decide +kernel
theorem dX11_refuse_1 : decode cX11_refuse 1 = .ok (.ifCond .lt 22, 3) := by decide +kernel
theorem dX11_refuse_4 : decode cX11_refuse 4 = .ok (.iload_n 1, 1) := by decide +kernel
theorem dX11_refuse_5 : decode cX11_refuse 5 = .ok (.aload_n 0, 1) := by decide +kernel
theorem dX11_refuse_6 : decode cX11_refuse 6 = .ok (.getfield 13, 3) := by decide +kernel
theorem dX11_refuse_9 : decode cX11_refuse 9 = .ok (.arraylength, 1) := by decide +kernel
theorem dX11_refuse_10 : decode cX11_refuse 10 = .ok (.if_icmp .ge 13, 3) := by decide +kernel
theorem dX11_refuse_13 : decode cX11_refuse 13 = .ok (.aload_n 0, 1) := by decide +kernel
theorem dX11_refuse_14 : decode cX11_refuse 14 = .ok (.getfield 13, 3) := by decide +kernel
theorem dX11_refuse_17 : decode cX11_refuse 17 = .ok (.iload_n 1, 1) := by decide +kernel
theorem dX11_refuse_18 : decode cX11_refuse 18 = .ok (.dup2, 1) := by decide +kernel
theorem dX11_refuse_19 : decode cX11_refuse 19 = .ok (.iaload, 1) := by decide +kernel
theorem dX11_refuse_20 : decode cX11_refuse 20 = .ok (.iconst 1, 1) := by decide +kernel
theorem dX11_refuse_21 : decode cX11_refuse 21 = .ok (.iadd, 1) := by decide +kernel
theorem dX11_refuse_22 : decode cX11_refuse 22 = .ok (.iastore, 1) := by decide +kernel
theorem dX11_refuse_23 : decode cX11_refuse 23 = .ok (.iconst (-1), 1) := by decide +kernel
theorem dX11_refuse_24 : decode cX11_refuse 24 = .ok (.ireturn, 1) := by decide +kernel
theorem dX11_putOnTape_0 : decode cX11_putOnTape 0 = .ok (.bipush 24, 2) := by decide +kernel
theorem dX11_putOnTape_2 : decode cX11_putOnTape 2 = .ok (.istore_n 2, 1) := by decide +kernel
theorem dX11_putOnTape_3 : decode cX11_putOnTape 3 = .ok (.iload_n 2, 1) := by decide +kernel
theorem dX11_putOnTape_4 : decode cX11_putOnTape 4 = .ok (.ifCond .lt 54, 3) := by decide +kernel
theorem dX11_putOnTape_7 : decode cX11_putOnTape 7 = .ok (.aload_n 0, 1) := by decide +kernel
theorem dX11_putOnTape_8 : decode cX11_putOnTape 8 = .ok (.getfield 94, 3) := by decide +kernel
theorem dX11_putOnTape_11 : decode cX11_putOnTape 11 = .ok (.ifCond .lt 41, 3) := by decide +kernel
theorem dX11_putOnTape_14 : decode cX11_putOnTape 14 = .ok (.aload_n 0, 1) := by decide +kernel
theorem dX11_putOnTape_15 : decode cX11_putOnTape 15 = .ok (.getfield 94, 3) := by decide +kernel
theorem dX11_putOnTape_18 : decode cX11_putOnTape 18 = .ok (.aload_n 0, 1) := by decide +kernel
theorem dX11_putOnTape_19 : decode cX11_putOnTape 19 = .ok (.getfield 9, 3) := by decide +kernel
theorem dX11_putOnTape_22 : decode cX11_putOnTape 22 = .ok (.arraylength, 1) := by decide +kernel
theorem dX11_putOnTape_23 : decode cX11_putOnTape 23 = .ok (.if_icmp .ge 29, 3) := by decide +kernel
theorem dX11_putOnTape_26 : decode cX11_putOnTape 26 = .ok (.aload_n 0, 1) := by decide +kernel
theorem dX11_putOnTape_27 : decode cX11_putOnTape 27 = .ok (.getfield 9, 3) := by decide +kernel
theorem dX11_putOnTape_30 : decode cX11_putOnTape 30 = .ok (.aload_n 0, 1) := by decide +kernel
theorem dX11_putOnTape_31 : decode cX11_putOnTape 31 = .ok (.getfield 94, 3) := by decide +kernel
theorem dX11_putOnTape_34 : decode cX11_putOnTape 34 = .ok (.iload_n 1, 1) := by decide +kernel
theorem dX11_putOnTape_35 : decode cX11_putOnTape 35 = .ok (.iload_n 2, 1) := by decide +kernel
theorem dX11_putOnTape_36 : decode cX11_putOnTape 36 = .ok (.iushr, 1) := by decide +kernel
theorem dX11_putOnTape_37 : decode cX11_putOnTape 37 = .ok (.sipush 255, 3) := by decide +kernel
theorem dX11_putOnTape_40 : decode cX11_putOnTape 40 = .ok (.iand, 1) := by decide +kernel
theorem dX11_putOnTape_41 : decode cX11_putOnTape 41 = .ok (.iastore, 1) := by decide +kernel
theorem dX11_putOnTape_42 : decode cX11_putOnTape 42 = .ok (.aload_n 0, 1) := by decide +kernel
theorem dX11_putOnTape_43 : decode cX11_putOnTape 43 = .ok (.dup, 1) := by decide +kernel
theorem dX11_putOnTape_44 : decode cX11_putOnTape 44 = .ok (.getfield 94, 3) := by decide +kernel
theorem dX11_putOnTape_47 : decode cX11_putOnTape 47 = .ok (.iconst 1, 1) := by decide +kernel
theorem dX11_putOnTape_48 : decode cX11_putOnTape 48 = .ok (.iadd, 1) := by decide +kernel
theorem dX11_putOnTape_49 : decode cX11_putOnTape 49 = .ok (.putfield 94, 3) := by decide +kernel
theorem dX11_putOnTape_52 : decode cX11_putOnTape 52 = .ok (.iinc 2 (-8), 3) := by decide +kernel
theorem dX11_putOnTape_55 : decode cX11_putOnTape 55 = .ok (.goto (-52), 3) := by decide +kernel
theorem dX11_putOnTape_58 : decode cX11_putOnTape 58 = .ok (.return_, 1) := by decide +kernel
theorem dX11_takeTape_0 : decode cX11_takeTape 0 = .ok (.aload_n 0, 1) := by decide +kernel
theorem dX11_takeTape_1 : decode cX11_takeTape 1 = .ok (.getfield 94, 3) := by decide +kernel
theorem dX11_takeTape_4 : decode cX11_takeTape 4 = .ok (.istore_n 1, 1) := by decide +kernel
theorem dX11_takeTape_5 : decode cX11_takeTape 5 = .ok (.aload_n 0, 1) := by decide +kernel
theorem dX11_takeTape_6 : decode cX11_takeTape 6 = .ok (.iconst 0, 1) := by decide +kernel
theorem dX11_takeTape_7 : decode cX11_takeTape 7 = .ok (.putfield 94, 3) := by decide +kernel
theorem dX11_takeTape_10 : decode cX11_takeTape 10 = .ok (.iload_n 1, 1) := by decide +kernel
theorem dX11_takeTape_11 : decode cX11_takeTape 11 = .ok (.ireturn, 1) := by decide +kernel
theorem dX11_noteFault_0 : decode cX11_noteFault 0 = .ok (.aload_n 0, 1) := by decide +kernel
theorem dX11_noteFault_1 : decode cX11_noteFault 1 = .ok (.aload_n 1, 1) := by decide +kernel
theorem dX11_noteFault_2 : decode cX11_noteFault 2 = .ok (.getfield 345, 3) := by decide +kernel
theorem dX11_noteFault_5 : decode cX11_noteFault 5 = .ok (.putfield 120, 3) := by decide +kernel
theorem dX11_noteFault_8 : decode cX11_noteFault 8 = .ok (.aload_n 0, 1) := by decide +kernel
theorem dX11_noteFault_9 : decode cX11_noteFault 9 = .ok (.aload_n 1, 1) := by decide +kernel
theorem dX11_noteFault_10 : decode cX11_noteFault 10 = .ok (.getfield 350, 3) := by decide +kernel
theorem dX11_noteFault_13 : decode cX11_noteFault 13 = .ok (.putfield 16, 3) := by decide +kernel
theorem dX11_noteFault_16 : decode cX11_noteFault 16 = .ok (.return_, 1) := by decide +kernel
theorem dX11_hasDuchy_0 : decode cX11_hasDuchy 0 = .ok (.aload_n 0, 1) := by decide +kernel
theorem dX11_hasDuchy_1 : decode cX11_hasDuchy 1 = .ok (.getfield 57, 3) := by decide +kernel
theorem dX11_hasDuchy_4 : decode cX11_hasDuchy 4 = .ok (.getfield 140, 3) := by decide +kernel
theorem dX11_hasDuchy_7 : decode cX11_hasDuchy 7 = .ok (.ifCond .le 7, 3) := by decide +kernel
theorem dX11_hasDuchy_10 : decode cX11_hasDuchy 10 = .ok (.iconst 1, 1) := by decide +kernel
theorem dX11_hasDuchy_11 : decode cX11_hasDuchy 11 = .ok (.goto 4, 3) := by decide +kernel
theorem dX11_hasDuchy_14 : decode cX11_hasDuchy 14 = .ok (.iconst 0, 1) := by decide +kernel
theorem dX11_hasDuchy_15 : decode cX11_hasDuchy 15 = .ok (.ireturn, 1) := by decide +kernel
theorem dX11_isHouse_0 : decode cX11_isHouse 0 = .ok (.iload_n 1, 1) := by decide +kernel
theorem dX11_isHouse_1 : decode cX11_isHouse 1 = .ok (.ifCond .lt 18, 3) := by decide +kernel
theorem dX11_isHouse_4 : decode cX11_isHouse 4 = .ok (.iload_n 1, 1) := by decide +kernel
theorem dX11_isHouse_5 : decode cX11_isHouse 5 = .ok (.aload_n 0, 1) := by decide +kernel
theorem dX11_isHouse_6 : decode cX11_isHouse 6 = .ok (.getfield 57, 3) := by decide +kernel
theorem dX11_isHouse_9 : decode cX11_isHouse 9 = .ok (.getfield 148, 3) := by decide +kernel
theorem dX11_isHouse_12 : decode cX11_isHouse 12 = .ok (.if_icmp .ge 7, 3) := by decide +kernel
theorem dX11_isHouse_15 : decode cX11_isHouse 15 = .ok (.iconst 1, 1) := by decide +kernel
theorem dX11_isHouse_16 : decode cX11_isHouse 16 = .ok (.goto 4, 3) := by decide +kernel
theorem dX11_isHouse_19 : decode cX11_isHouse 19 = .ok (.iconst 0, 1) := by decide +kernel
theorem dX11_isHouse_20 : decode cX11_isHouse 20 = .ok (.ireturn, 1) := by decide +kernel
theorem dX11_arePair_0 : decode cX11_arePair 0 = .ok (.aload_n 0, 1) := by decide +kernel
theorem dX11_arePair_1 : decode cX11_arePair 1 = .ok (.iload_n 1, 1) := by decide +kernel
theorem dX11_arePair_2 : decode cX11_arePair 2 = .ok (.invokevirtual 171, 3) := by decide +kernel
theorem dX11_arePair_5 : decode cX11_arePair 5 = .ok (.ifCond .eq 20, 3) := by decide +kernel
theorem dX11_arePair_8 : decode cX11_arePair 8 = .ok (.aload_n 0, 1) := by decide +kernel
theorem dX11_arePair_9 : decode cX11_arePair 9 = .ok (.iload_n 2, 1) := by decide +kernel
theorem dX11_arePair_10 : decode cX11_arePair 10 = .ok (.invokevirtual 171, 3) := by decide +kernel
theorem dX11_arePair_13 : decode cX11_arePair 13 = .ok (.ifCond .eq 12, 3) := by decide +kernel
theorem dX11_arePair_16 : decode cX11_arePair 16 = .ok (.iload_n 1, 1) := by decide +kernel
theorem dX11_arePair_17 : decode cX11_arePair 17 = .ok (.iload_n 2, 1) := by decide +kernel
theorem dX11_arePair_18 : decode cX11_arePair 18 = .ok (.if_icmp .eq 7, 3) := by decide +kernel
theorem dX11_arePair_21 : decode cX11_arePair 21 = .ok (.iconst 1, 1) := by decide +kernel
theorem dX11_arePair_22 : decode cX11_arePair 22 = .ok (.goto 4, 3) := by decide +kernel
theorem dX11_arePair_25 : decode cX11_arePair 25 = .ok (.iconst 0, 1) := by decide +kernel
theorem dX11_arePair_26 : decode cX11_arePair 26 = .ok (.ireturn, 1) := by decide +kernel
theorem dX11_canPass_0 : decode cX11_canPass 0 = .ok (.aload_n 0, 1) := by decide +kernel
theorem dX11_canPass_1 : decode cX11_canPass 1 = .ok (.invokevirtual 230, 3) := by decide +kernel
theorem dX11_canPass_4 : decode cX11_canPass 4 = .ok (.ifCond .eq 33, 3) := by decide +kernel
theorem dX11_canPass_7 : decode cX11_canPass 7 = .ok (.iload_n 1, 1) := by decide +kernel
theorem dX11_canPass_8 : decode cX11_canPass 8 = .ok (.iconst 1, 1) := by decide +kernel
theorem dX11_canPass_9 : decode cX11_canPass 9 = .ok (.if_icmp .lt 28, 3) := by decide +kernel
theorem dX11_canPass_12 : decode cX11_canPass 12 = .ok (.iload_n 1, 1) := by decide +kernel
theorem dX11_canPass_13 : decode cX11_canPass 13 = .ok (.bipush 100, 2) := by decide +kernel
theorem dX11_canPass_15 : decode cX11_canPass 15 = .ok (.if_icmp .gt 22, 3) := by decide +kernel
theorem dX11_canPass_18 : decode cX11_canPass 18 = .ok (.aload_n 0, 1) := by decide +kernel
theorem dX11_canPass_19 : decode cX11_canPass 19 = .ok (.getfield 59, 3) := by decide +kernel
theorem dX11_canPass_22 : decode cX11_canPass 22 = .ok (.getfield 151, 3) := by decide +kernel
theorem dX11_canPass_25 : decode cX11_canPass 25 = .ok (.iload_n 1, 1) := by decide +kernel
theorem dX11_canPass_26 : decode cX11_canPass 26 = .ok (.iadd, 1) := by decide +kernel
theorem dX11_canPass_27 : decode cX11_canPass 27 = .ok (.sipush 999, 3) := by decide +kernel
theorem dX11_canPass_30 : decode cX11_canPass 30 = .ok (.if_icmp .gt 7, 3) := by decide +kernel
theorem dX11_canPass_33 : decode cX11_canPass 33 = .ok (.iconst 1, 1) := by decide +kernel
theorem dX11_canPass_34 : decode cX11_canPass 34 = .ok (.goto 4, 3) := by decide +kernel
theorem dX11_canPass_37 : decode cX11_canPass 37 = .ok (.iconst 0, 1) := by decide +kernel
