theorem dX0_init_0 : decode cX0_init 0 = .ok (.aload_n 0, 1) := by decide +kernel
theorem dX0_init_1 : decode cX0_init 1 = .ok (.invokespecial 7, 3) := by decide +kernel
theorem dX0_init_4 : decode cX0_init 4 = .ok (.aload_n 0, 1) := by decide +kernel
theorem dX0_init_5 : decode cX0_init 5 = .ok (.new 3, 3) := by decide +kernel
theorem dX0_init_8 : decode cX0_init 8 = .ok (.dup, 1) := by decide +kernel
theorem dX0_init_9 : decode cX0_init 9 = .ok (.invokespecial 13, 3) := by decide +kernel
theorem dX0_init_12 : decode cX0_init 12 = .ok (.putfield 14, 3) := by decide +kernel
theorem dX0_init_15 : decode cX0_init 15 = .ok (.aload_n 0, 1) := by decide +kernel
theorem dX0_init_16 : decode cX0_init 16 = .ok (.sipush 1608, 3) := by decide +kernel
theorem dX0_init_19 : decode cX0_init 19 = .ok (.newarray .int, 2) := by decide +kernel
theorem dX0_init_21 : decode cX0_init 21 = .ok (.putfield 22, 3) := by decide +kernel
theorem dX0_init_24 : decode cX0_init 24 = .ok (.return_, 1) := by decide +kernel
theorem dX0_read_0 : decode cX0_read 0 = .ok (.aload_n 0, 1) := by decide +kernel
theorem dX0_read_1 : decode cX0_read 1 = .ok (.getfield 14, 3) := by decide +kernel
theorem dX0_read_4 : decode cX0_read 4 = .ok (.iconst 1, 1) := by decide +kernel
theorem dX0_read_5 : decode cX0_read 5 = .ok (.putfield 26, 3) := by decide +kernel
theorem dX0_read_8 : decode cX0_read 8 = .ok (.aload_n 0, 1) := by decide +kernel
theorem dX0_read_9 : decode cX0_read 9 = .ok (.getfield 14, 3) := by decide +kernel
theorem dX0_read_12 : decode cX0_read 12 = .ok (.ldc 30, 2) := by decide +kernel
theorem dX0_read_14 : decode cX0_read 14 = .ok (.putfield 31, 3) := by decide +kernel
theorem dX0_read_17 : decode cX0_read 17 = .ok (.aload_n 0, 1) := by decide +kernel
theorem dX0_read_18 : decode cX0_read 18 = .ok (.getfield 14, 3) := by decide +kernel
theorem dX0_read_21 : decode cX0_read 21 = .ok (.aload_n 1, 1) := by decide +kernel
theorem dX0_read_22 : decode cX0_read 22 = .ok (.iload_n 2, 1) := by decide +kernel
theorem dX0_read_23 : decode cX0_read 23 = .ok (.aload_n 0, 1) := by decide +kernel
theorem dX0_read_24 : decode cX0_read 24 = .ok (.getfield 22, 3) := by decide +kernel
theorem dX0_read_27 : decode cX0_read 27 = .ok (.iconst 0, 1) := by decide +kernel
theorem dX0_read_28 : decode cX0_read 28 = .ok (.invokevirtual 35, 3) := by decide +kernel
theorem dX0_read_31 : decode cX0_read 31 = .ok (.aload_n 0, 1) := by decide +kernel
theorem dX0_read_32 : decode cX0_read 32 = .ok (.aload_n 0, 1) := by decide +kernel
theorem dX0_read_33 : decode cX0_read 33 = .ok (.getfield 14, 3) := by decide +kernel
theorem dX0_read_36 : decode cX0_read 36 = .ok (.getfield 39, 3) := by decide +kernel
theorem dX0_read_39 : decode cX0_read 39 = .ok (.putfield 42, 3) := by decide +kernel
theorem dX0_read_42 : decode cX0_read 42 = .ok (.aload_n 0, 1) := by decide +kernel
theorem dX0_read_43 : decode cX0_read 43 = .ok (.getfield 42, 3) := by decide +kernel
theorem dX0_read_46 : decode cX0_read 46 = .ok (.bipush 24, 2) := by decide +kernel
theorem dX0_read_48 : decode cX0_read 48 = .ok (.if_icmp .eq 21, 3) := by decide +kernel
theorem dX0_read_51 : decode cX0_read 51 = .ok (.aload_n 0, 1) := by decide +kernel
theorem dX0_read_52 : decode cX0_read 52 = .ok (.getfield 42, 3) := by decide +kernel
theorem dX0_read_55 : decode cX0_read 55 = .ok (.bipush 25, 2) := by decide +kernel
theorem dX0_read_57 : decode cX0_read 57 = .ok (.if_icmp .eq 12, 3) := by decide +kernel
theorem dX0_read_60 : decode cX0_read 60 = .ok (.aload_n 0, 1) := by decide +kernel
theorem dX0_read_61 : decode cX0_read 61 = .ok (.getfield 42, 3) := by decide +kernel
theorem dX0_read_64 : decode cX0_read 64 = .ok (.bipush 26, 2) := by decide +kernel
theorem dX0_read_66 : decode cX0_read 66 = .ok (.if_icmp .ne 20, 3) := by decide +kernel
theorem dX0_read_69 : decode cX0_read 69 = .ok (.aload_n 0, 1) := by decide +kernel
theorem dX0_read_70 : decode cX0_read 70 = .ok (.getfield 14, 3) := by decide +kernel
theorem dX0_read_73 : decode cX0_read 73 = .ok (.invokevirtual 45, 3) := by decide +kernel
theorem dX0_read_76 : decode cX0_read 76 = .ok (.aload_n 0, 1) := by decide +kernel
theorem dX0_read_77 : decode cX0_read 77 = .ok (.getfield 14, 3) := by decide +kernel
theorem dX0_read_80 : decode cX0_read 80 = .ok (.invokevirtual 48, 3) := by decide +kernel
theorem dX0_read_83 : decode cX0_read 83 = .ok (.goto 62, 3) := by decide +kernel
theorem dX0_read_86 : decode cX0_read 86 = .ok (.aload_n 0, 1) := by decide +kernel
theorem dX0_read_87 : decode cX0_read 87 = .ok (.getfield 42, 3) := by decide +kernel
theorem dX0_read_90 : decode cX0_read 90 = .ok (.bipush 27, 2) := by decide +kernel
theorem dX0_read_92 : decode cX0_read 92 = .ok (.if_icmp .eq 21, 3) := by decide +kernel
theorem dX0_read_95 : decode cX0_read 95 = .ok (.aload_n 0, 1) := by decide +kernel
theorem dX0_read_96 : decode cX0_read 96 = .ok (.getfield 42, 3) := by decide +kernel
theorem dX0_read_99 : decode cX0_read 99 = .ok (.bipush 28, 2) := by decide +kernel
theorem dX0_read_101 : decode cX0_read 101 = .ok (.if_icmp .eq 12, 3) := by decide +kernel
theorem dX0_read_104 : decode cX0_read 104 = .ok (.aload_n 0, 1) := by decide +kernel
theorem dX0_read_105 : decode cX0_read 105 = .ok (.getfield 42, 3) := by decide +kernel
theorem dX0_read_108 : decode cX0_read 108 = .ok (.bipush 29, 2) := by decide +kernel
theorem dX0_read_110 : decode cX0_read 110 = .ok (.if_icmp .ne 20, 3) := by decide +kernel
theorem dX0_read_113 : decode cX0_read 113 = .ok (.aload_n 0, 1) := by decide +kernel
theorem dX0_read_114 : decode cX0_read 114 = .ok (.getfield 14, 3) := by decide +kernel
theorem dX0_read_117 : decode cX0_read 117 = .ok (.invokevirtual 45, 3) := by decide +kernel
theorem dX0_read_120 : decode cX0_read 120 = .ok (.aload_n 0, 1) := by decide +kernel
theorem dX0_read_121 : decode cX0_read 121 = .ok (.getfield 14, 3) := by decide +kernel
theorem dX0_read_124 : decode cX0_read 124 = .ok (.invokevirtual 51, 3) := by decide +kernel
theorem dX0_read_127 : decode cX0_read 127 = .ok (.goto 18, 3) := by decide +kernel
theorem dX0_read_130 : decode cX0_read 130 = .ok (.aload_n 0, 1) := by decide +kernel
theorem dX0_read_131 : decode cX0_read 131 = .ok (.getfield 14, 3) := by decide +kernel
theorem dX0_read_134 : decode cX0_read 134 = .ok (.iconst 1, 1) := by decide +kernel
theorem dX0_read_135 : decode cX0_read 135 = .ok (.aload_n 0, 1) := by decide +kernel
theorem dX0_read_136 : decode cX0_read 136 = .ok (.getfield 14, 3) := by decide +kernel
theorem dX0_read_139 : decode cX0_read 139 = .ok (.getfield 54, 3) := by decide +kernel
theorem dX0_read_142 : decode cX0_read 142 = .ok (.invokevirtual 57, 3) := by decide +kernel
theorem dX0_read_145 : decode cX0_read 145 = .ok (.aload_n 0, 1) := by decide +kernel
theorem dX0_read_146 : decode cX0_read 146 = .ok (.getfield 14, 3) := by decide +kernel
theorem dX0_read_149 : decode cX0_read 149 = .ok (.getfield 61, 3) := by decide +kernel
theorem dX0_read_152 : decode cX0_read 152 = .ok (.ifCond .eq 18, 3) := by decide +kernel
theorem dX0_read_155 : decode cX0_read 155 = .ok (.aload_n 0, 1) := by decide +kernel
theorem dX0_read_156 : decode cX0_read 156 = .ok (.getfield 14, 3) := by decide +kernel
theorem dX0_read_159 : decode cX0_read 159 = .ok (.iconst 1, 1) := by decide +kernel
theorem dX0_read_160 : decode cX0_read 160 = .ok (.aload_n 0, 1) := by decide +kernel
theorem dX0_read_161 : decode cX0_read 161 = .ok (.getfield 14, 3) := by decide +kernel
theorem dX0_read_164 : decode cX0_read 164 = .ok (.getfield 54, 3) := by decide +kernel
theorem dX0_read_167 : decode cX0_read 167 = .ok (.invokevirtual 57, 3) := by decide +kernel
theorem dX0_read_170 : decode cX0_read 170 = .ok (.return_, 1) := by decide +kernel
theorem dX0_answer_0 : decode cX0_answer 0 = .ok (.aload_n 0, 1) := by decide +kernel
theorem dX0_answer_1 : decode cX0_answer 1 = .ok (.getfield 42, 3) := by decide +kernel
theorem dX0_answer_4 : decode cX0_answer 4 = .ok (.bipush 24, 2) := by decide +kernel
theorem dX0_answer_6 : decode cX0_answer 6 = .ok (.if_icmp .eq 12, 3) := by decide +kernel
theorem dX0_answer_9 : decode cX0_answer 9 = .ok (.aload_n 0, 1) := by decide +kernel
theorem dX0_answer_10 : decode cX0_answer 10 = .ok (.getfield 42, 3) := by decide +kernel
theorem dX0_answer_13 : decode cX0_answer 13 = .ok (.bipush 25, 2) := by decide +kernel
theorem dX0_answer_15 : decode cX0_answer 15 = .ok (.if_icmp .ne 7, 3) := by decide +kernel
theorem dX0_answer_18 : decode cX0_answer 18 = .ok (.iconst 1, 1) := by decide +kernel
theorem dX0_answer_19 : decode cX0_answer 19 = .ok (.goto 4, 3) := by decide +kernel
theorem dX0_answer_22 : decode cX0_answer 22 = .ok (.iconst 0, 1) := by decide +kernel
theorem dX0_answer_23 : decode cX0_answer 23 = .ok (.istore_n 3, 1) := by decide +kernel
theorem dX0_answer_24 : decode cX0_answer 24 = .ok (.iload_n 3, 1) := by decide +kernel
theorem dX0_answer_25 : decode cX0_answer 25 = .ok (.ifCond .eq 9, 3) := by decide +kernel
theorem dX0_answer_28 : decode cX0_answer 28 = .ok (.ldc2_w 62, 3) := by decide +kernel
theorem dX0_answer_31 : decode cX0_answer 31 = .ok (.goto 4, 3) := by decide +kernel
theorem dX0_answer_34 : decode cX0_answer 34 = .ok (.lconst 0, 1) := by decide +kernel
theorem dX0_answer_35 : decode cX0_answer 35 = .ok (.lstore 4, 2) := by decide +kernel
theorem dX0_answer_37 : decode cX0_answer 37 = .ok (.iconst 0, 1) := by decide +kernel
theorem dX0_answer_38 : decode cX0_answer 38 = .ok (.istore 6, 2) := by decide +kernel
theorem dX0_answer_40 : decode cX0_answer 40 = .ok (.iconst 0, 1) := by decide +kernel
theorem dX0_answer_41 : decode cX0_answer 41 = .ok (.istore 7, 2) := by decide +kernel
theorem dX0_answer_43 : decode cX0_answer 43 = .ok (.iload 7, 2) := by decide +kernel
theorem dX0_answer_45 : decode cX0_answer 45 = .ok (.aload_n 1, 1) := by decide +kernel
theorem dX0_answer_46 : decode cX0_answer 46 = .ok (.getfield 64, 3) := by decide +kernel
theorem dX0_answer_49 : decode cX0_answer 49 = .ok (.getfield 70, 3) := by decide +kernel
theorem dX0_answer_52 : decode cX0_answer 52 = .ok (.if_icmp .ge 63, 3) := by decide +kernel
theorem dX0_answer_55 : decode cX0_answer 55 = .ok (.aload_n 2, 1) := by decide +kernel
theorem dX0_answer_56 : decode cX0_answer 56 = .ok (.iload 7, 2) := by decide +kernel
theorem dX0_answer_58 : decode cX0_answer 58 = .ok (.invokevirtual 73, 3) := by decide +kernel
theorem dX0_answer_61 : decode cX0_answer 61 = .ok (.ifCond .eq 48, 3) := by decide +kernel
theorem dX0_answer_64 : decode cX0_answer 64 = .ok (.aload_n 1, 1) := by decide +kernel
theorem dX0_answer_65 : decode cX0_answer 65 = .ok (.aload_n 2, 1) := by decide +kernel
theorem dX0_answer_66 : decode cX0_answer 66 = .ok (.iload 7, 2) := by decide +kernel
theorem dX0_answer_68 : decode cX0_answer 68 = .ok (.invokestatic 79, 3) := by decide +kernel
theorem dX0_answer_71 : decode cX0_answer 71 = .ok (.aload_n 1, 1) := by decide +kernel
theorem dX0_answer_72 : decode cX0_answer 72 = .ok (.getfield 83, 3) := by decide +kernel
theorem dX0_answer_75 : decode cX0_answer 75 = .ok (.aload_n 0, 1) := by decide +kernel
theorem dX0_answer_76 : decode cX0_answer 76 = .ok (.getfield 22, 3) := by decide +kernel
theorem dX0_answer_79 : decode cX0_answer 79 = .ok (.iconst 0, 1) := by decide +kernel
theorem dX0_answer_80 : decode cX0_answer 80 = .ok (.aload_n 0, 1) := by decide +kernel
theorem dX0_answer_81 : decode cX0_answer 81 = .ok (.getfield 14, 3) := by decide +kernel
theorem dX0_answer_84 : decode cX0_answer 84 = .ok (.getfield 87, 3) := by decide +kernel
theorem dX0_answer_87 : decode cX0_answer 87 = .ok (.invokevirtual 90, 3) := by decide +kernel
theorem dX0_answer_90 : decode cX0_answer 90 = .ok (.istore 8, 2) := by decide +kernel
theorem dX0_answer_92 : decode cX0_answer 92 = .ok (.aload_n 0, 1) := by decide +kernel
theorem dX0_answer_93 : decode cX0_answer 93 = .ok (.lload 4, 2) := by decide +kernel
theorem dX0_answer_95 : decode cX0_answer 95 = .ok (.iload 6, 2) := by decide +kernel
theorem dX0_answer_97 : decode cX0_answer 97 = .ok (.iload 7, 2) := by decide +kernel
theorem dX0_answer_99 : decode cX0_answer 99 = .ok (.iload 8, 2) := by decide +kernel
theorem dX0_answer_101 : decode cX0_answer 101 = .ok (.invokevirtual 96, 3) := by decide +kernel
theorem dX0_answer_104 : decode cX0_answer 104 = .ok (.lstore 4, 2) := by decide +kernel
theorem dX0_answer_106 : decode cX0_answer 106 = .ok (.iconst 1, 1) := by decide +kernel
theorem dX0_answer_107 : decode cX0_answer 107 = .ok (.istore 6, 2) := by decide +kernel
theorem dX0_answer_109 : decode cX0_answer 109 = .ok (.iinc 7 1, 3) := by decide +kernel
theorem dX0_answer_112 : decode cX0_answer 112 = .ok (.goto (-69), 3) := by decide +kernel
theorem dX0_answer_115 : decode cX0_answer 115 = .ok (.lload 4, 2) := by decide +kernel
theorem dX0_answer_117 : decode cX0_answer 117 = .ok (.lreturn, 1) := by decide +kernel
theorem dX0_joined_0 : decode cX0_joined 0 = .ok (.aload_n 0, 1) := by decide +kernel
theorem dX0_joined_1 : decode cX0_joined 1 = .ok (.getfield 42, 3) := by decide +kernel
theorem dX0_joined_4 : decode cX0_joined 4 = .ok (.tableswitch 110 24 29 #[40, 61, 110, 110, 74, 92], 40) := by decide +kernel
theorem dX0_joined_44 : decode cX0_joined 44 = .ok (.lload_n 1, 1) := by decide +kernel
theorem dX0_joined_45 : decode cX0_joined 45 = .ok (.ldc2_w 62, 3) := by decide +kernel
theorem dX0_joined_48 : decode cX0_joined 48 = .ok (.lcmp, 1) := by decide +kernel
theorem dX0_joined_49 : decode cX0_joined 49 = .ok (.ifCond .ne 14, 3) := by decide +kernel
theorem dX0_joined_52 : decode cX0_joined 52 = .ok (.iload 5, 2) := by decide +kernel
theorem dX0_joined_54 : decode cX0_joined 54 = .ok (.ifCond .eq 9, 3) := by decide +kernel
theorem dX0_joined_57 : decode cX0_joined 57 = .ok (.iload 4, 2) := by decide +kernel
theorem dX0_joined_59 : decode cX0_joined 59 = .ok (.i2l, 1) := by decide +kernel
theorem dX0_joined_60 : decode cX0_joined 60 = .ok (.goto 4, 3) := by decide +kernel
theorem dX0_joined_63 : decode cX0_joined 63 = .ok (.lload_n 1, 1) := by decide +kernel
theorem dX0_joined_64 : decode cX0_joined 64 = .ok (.lreturn, 1) := by decide +kernel
theorem dX0_joined_65 : decode cX0_joined 65 = .ok (.iload 5, 2) := by decide +kernel
theorem dX0_joined_67 : decode cX0_joined 67 = .ok (.ifCond .eq 9, 3) := by decide +kernel
theorem dX0_joined_70 : decode cX0_joined 70 = .ok (.iload 4, 2) := by decide +kernel
theorem dX0_joined_72 : decode cX0_joined 72 = .ok (.i2l, 1) := by decide +kernel
theorem dX0_joined_73 : decode cX0_joined 73 = .ok (.goto 4, 3) := by decide +kernel
theorem dX0_joined_76 : decode cX0_joined 76 = .ok (.lload_n 1, 1) := by decide +kernel
theorem dX0_joined_77 : decode cX0_joined 77 = .ok (.lreturn, 1) := by decide +kernel
theorem dX0_joined_78 : decode cX0_joined 78 = .ok (.iload_n 3, 1) := by decide +kernel
theorem dX0_joined_79 : decode cX0_joined 79 = .ok (.ifCond .eq 13, 3) := by decide +kernel
theorem dX0_joined_82 : decode cX0_joined 82 = .ok (.lload_n 1, 1) := by decide +kernel
theorem dX0_joined_83 : decode cX0_joined 83 = .ok (.iload 5, 2) := by decide +kernel
theorem dX0_joined_85 : decode cX0_joined 85 = .ok (.i2l, 1) := by decide +kernel
theorem dX0_joined_86 : decode cX0_joined 86 = .ok (.invokestatic 100, 3) := by decide +kernel
theorem dX0_joined_89 : decode cX0_joined 89 = .ok (.goto 6, 3) := by decide +kernel
theorem dX0_joined_92 : decode cX0_joined 92 = .ok (.iload 5, 2) := by decide +kernel
theorem dX0_joined_94 : decode cX0_joined 94 = .ok (.i2l, 1) := by decide +kernel
theorem dX0_joined_95 : decode cX0_joined 95 = .ok (.lreturn, 1) := by decide +kernel
theorem dX0_joined_96 : decode cX0_joined 96 = .ok (.iload_n 3, 1) := by decide +kernel
theorem dX0_joined_97 : decode cX0_joined 97 = .ok (.ifCond .eq 13, 3) := by decide +kernel
theorem dX0_joined_100 : decode cX0_joined 100 = .ok (.lload_n 1, 1) := by decide +kernel
theorem dX0_joined_101 : decode cX0_joined 101 = .ok (.iload 5, 2) := by decide +kernel
theorem dX0_joined_103 : decode cX0_joined 103 = .ok (.i2l, 1) := by decide +kernel
theorem dX0_joined_104 : decode cX0_joined 104 = .ok (.invokestatic 106, 3) := by decide +kernel
theorem dX0_joined_107 : decode cX0_joined 107 = .ok (.goto 6, 3) := by decide +kernel
theorem dX0_joined_110 : decode cX0_joined 110 = .ok (.iload 5, 2) := by decide +kernel
theorem dX0_joined_112 : decode cX0_joined 112 = .ok (.i2l, 1) := by decide +kernel
theorem dX0_joined_113 : decode cX0_joined 113 = .ok (.lreturn, 1) := by decide +kernel
theorem dX0_joined_114 : decode cX0_joined 114 = .ok (.lload_n 1, 1) := by decide +kernel
theorem dX0_joined_115 : decode cX0_joined 115 = .ok (.iload 5, 2) := by decide +kernel
theorem dX0_joined_117 : decode cX0_joined 117 = .ok (.i2l, 1) := by decide +kernel
theorem dX0_joined_118 : decode cX0_joined 118 = .ok (.ladd, 1) := by decide +kernel
theorem dX0_joined_119 : decode cX0_joined 119 = .ok (.lreturn, 1) := by decide +kernel
theorem dX0_tellAll_0 : decode cX0_tellAll 0 = .ok (.aload_n 0, 1) := by decide +kernel
theorem dX0_tellAll_1 : decode cX0_tellAll 1 = .ok (.getfield 83, 3) := by decide +kernel
theorem dX0_tellAll_4 : decode cX0_tellAll 4 = .ok (.astore_n 3, 1) := by decide +kernel
theorem dX0_tellAll_5 : decode cX0_tellAll 5 = .ok (.iconst 0, 1) := by decide +kernel
theorem dX0_tellAll_6 : decode cX0_tellAll 6 = .ok (.istore 4, 2) := by decide +kernel
theorem dX0_tellAll_8 : decode cX0_tellAll 8 = .ok (.iload 4, 2) := by decide +kernel
theorem dX0_tellAll_10 : decode cX0_tellAll 10 = .ok (.bipush 7, 2) := by decide +kernel
theorem dX0_tellAll_12 : decode cX0_tellAll 12 = .ok (.if_icmp .ge 66, 3) := by decide +kernel
theorem dX0_tellAll_15 : decode cX0_tellAll 15 = .ok (.iload_n 2, 1) := by decide +kernel
theorem dX0_tellAll_16 : decode cX0_tellAll 16 = .ok (.ifCond .lt 62, 3) := by decide +kernel
theorem dX0_tellAll_19 : decode cX0_tellAll 19 = .ok (.iload_n 2, 1) := by decide +kernel
theorem dX0_tellAll_20 : decode cX0_tellAll 20 = .ok (.bipush 7, 2) := by decide +kernel
theorem dX0_tellAll_22 : decode cX0_tellAll 22 = .ok (.if_icmp .ge 56, 3) := by decide +kernel
theorem dX0_tellAll_25 : decode cX0_tellAll 25 = .ok (.aload_n 1, 1) := by decide +kernel
theorem dX0_tellAll_26 : decode cX0_tellAll 26 = .ok (.getfield 109, 3) := by decide +kernel
theorem dX0_tellAll_29 : decode cX0_tellAll 29 = .ok (.bipush 8, 2) := by decide +kernel
theorem dX0_tellAll_31 : decode cX0_tellAll 31 = .ok (.iload_n 2, 1) := by decide +kernel
theorem dX0_tellAll_32 : decode cX0_tellAll 32 = .ok (.imul, 1) := by decide +kernel
theorem dX0_tellAll_33 : decode cX0_tellAll 33 = .ok (.iload 4, 2) := by decide +kernel
theorem dX0_tellAll_35 : decode cX0_tellAll 35 = .ok (.iadd, 1) := by decide +kernel
theorem dX0_tellAll_36 : decode cX0_tellAll 36 = .ok (.iaload, 1) := by decide +kernel
theorem dX0_tellAll_37 : decode cX0_tellAll 37 = .ok (.istore 5, 2) := by decide +kernel
theorem dX0_tellAll_39 : decode cX0_tellAll 39 = .ok (.aload_n 3, 1) := by decide +kernel
theorem dX0_tellAll_40 : decode cX0_tellAll 40 = .ok (.getfield 112, 3) := by decide +kernel
theorem dX0_tellAll_43 : decode cX0_tellAll 43 = .ok (.iload 4, 2) := by decide +kernel
theorem dX0_tellAll_45 : decode cX0_tellAll 45 = .ok (.iload 5, 2) := by decide +kernel
theorem dX0_tellAll_47 : decode cX0_tellAll 47 = .ok (.iastore, 1) := by decide +kernel
theorem dX0_tellAll_48 : decode cX0_tellAll 48 = .ok (.aload_n 3, 1) := by decide +kernel
theorem dX0_tellAll_49 : decode cX0_tellAll 49 = .ok (.getfield 115, 3) := by decide +kernel
theorem dX0_tellAll_52 : decode cX0_tellAll 52 = .ok (.iload 4, 2) := by decide +kernel
theorem dX0_tellAll_54 : decode cX0_tellAll 54 = .ok (.iload 5, 2) := by decide +kernel
theorem dX0_tellAll_56 : decode cX0_tellAll 56 = .ok (.ifCond .le 14, 3) := by decide +kernel
theorem dX0_tellAll_59 : decode cX0_tellAll 59 = .ok (.aload_n 0, 1) := by decide +kernel
theorem dX0_tellAll_60 : decode cX0_tellAll 60 = .ok (.aload_n 1, 1) := by decide +kernel
theorem dX0_tellAll_61 : decode cX0_tellAll 61 = .ok (.iload 4, 2) := by decide +kernel
theorem dX0_tellAll_63 : decode cX0_tellAll 63 = .ok (.iload_n 2, 1) := by decide +kernel
theorem dX0_tellAll_64 : decode cX0_tellAll 64 = .ok (.invokevirtual 118, 3) := by decide +kernel
theorem dX0_tellAll_67 : decode cX0_tellAll 67 = .ok (.goto 4, 3) := by decide +kernel
theorem dX0_tellAll_70 : decode cX0_tellAll 70 = .ok (.iconst (-1), 1) := by decide +kernel
theorem dX0_tellAll_71 : decode cX0_tellAll 71 = .ok (.iastore, 1) := by decide +kernel
theorem dX0_tellAll_72 : decode cX0_tellAll 72 = .ok (.iinc 4 1, 3) := by decide +kernel
theorem dX0_tellAll_75 : decode cX0_tellAll 75 = .ok (.goto (-67), 3) := by decide +kernel
theorem dX0_tellAll_78 : decode cX0_tellAll 78 = .ok (.aload_n 0, 1) := by decide +kernel
theorem dX0_tellAll_79 : decode cX0_tellAll 79 = .ok (.aload_n 1, 1) := by decide +kernel
theorem dX0_tellAll_80 : decode cX0_tellAll 80 = .ok (.iload_n 2, 1) := by decide +kernel
theorem dX0_tellAll_81 : decode cX0_tellAll 81 = .ok (.invokevirtual 122, 3) := by decide +kernel
theorem dX0_tellAll_84 : decode cX0_tellAll 84 = .ok (.aload_n 3, 1) := by decide +kernel
theorem dX0_tellAll_85 : decode cX0_tellAll 85 = .ok (.getfield 126, 3) := by decide +kernel
theorem dX0_tellAll_88 : decode cX0_tellAll 88 = .ok (.bipush 16, 2) := by decide +kernel
theorem dX0_tellAll_90 : decode cX0_tellAll 90 = .ok (.iload_n 2, 1) := by decide +kernel
theorem dX0_tellAll_91 : decode cX0_tellAll 91 = .ok (.iastore, 1) := by decide +kernel
theorem dX0_tellAll_92 : decode cX0_tellAll 92 = .ok (.aload_n 3, 1) := by decide +kernel
theorem dX0_tellAll_93 : decode cX0_tellAll 93 = .ok (.getfield 126, 3) := by decide +kernel
theorem dX0_tellAll_96 : decode cX0_tellAll 96 = .ok (.bipush 17, 2) := by decide +kernel
theorem dX0_tellAll_98 : decode cX0_tellAll 98 = .ok (.aload_n 1, 1) := by decide +kernel
theorem dX0_tellAll_99 : decode cX0_tellAll 99 = .ok (.iload_n 2, 1) := by decide +kernel
theorem dX0_tellAll_100 : decode cX0_tellAll 100 = .ok (.invokevirtual 128, 3) := by decide +kernel
theorem dX0_tellAll_103 : decode cX0_tellAll 103 = .ok (.iastore, 1) := by decide +kernel
theorem dX0_tellAll_104 : decode cX0_tellAll 104 = .ok (.return_, 1) := by decide +kernel
theorem dX1_init_0 : decode cX1_init 0 = .ok (.aload_n 0, 1) := by decide +kernel
theorem dX1_init_1 : decode cX1_init 1 = .ok (.invokespecial 3, 3) := by decide +kernel
theorem dX1_init_4 : decode cX1_init 4 = .ok (.aload_n 0, 1) := by decide +kernel
theorem dX1_init_5 : decode cX1_init 5 = .ok (.new 9, 3) := by decide +kernel
theorem dX1_init_8 : decode cX1_init 8 = .ok (.dup, 1) := by decide +kernel
theorem dX1_init_9 : decode cX1_init 9 = .ok (.invokespecial 11, 3) := by decide +kernel
theorem dX1_init_12 : decode cX1_init 12 = .ok (.putfield 12, 3) := by decide +kernel
theorem dX1_init_15 : decode cX1_init 15 = .ok (.aload_n 0, 1) := by decide +kernel
theorem dX1_init_16 : decode cX1_init 16 = .ok (.new 18, 3) := by decide +kernel
theorem dX1_init_19 : decode cX1_init 19 = .ok (.dup, 1) := by decide +kernel
theorem dX1_init_20 : decode cX1_init 20 = .ok (.invokespecial 20, 3) := by decide +kernel
theorem dX1_init_23 : decode cX1_init 23 = .ok (.putfield 21, 3) := by decide +kernel
theorem dX1_init_26 : decode cX1_init 26 = .ok (.aload_n 0, 1) := by decide +kernel
theorem dX1_init_27 : decode cX1_init 27 = .ok (.bipush 7, 2) := by decide +kernel
theorem dX1_init_29 : decode cX1_init 29 = .ok (.newarray .int, 2) := by decide +kernel
theorem dX1_init_31 : decode cX1_init 31 = .ok (.putfield 25, 3) := by decide +kernel
theorem dX1_init_34 : decode cX1_init 34 = .ok (.aload_n 0, 1) := by decide +kernel
theorem dX1_init_35 : decode cX1_init 35 = .ok (.bipush 7, 2) := by decide +kernel
theorem dX1_init_37 : decode cX1_init 37 = .ok (.newarray .int, 2) := by decide +kernel
theorem dX1_init_39 : decode cX1_init 39 = .ok (.putfield 29, 3) := by decide +kernel
theorem dX1_init_42 : decode cX1_init 42 = .ok (.return_, 1) := by decide +kernel
theorem dX1_run_0 : decode cX1_run 0 = .ok (.aload_n 0, 1) := by decide +kernel
theorem dX1_run_1 : decode cX1_run 1 = .ok (.aload_n 1, 1) := by decide +kernel
theorem dX1_run_2 : decode cX1_run 2 = .ok (.iload_n 2, 1) := by decide +kernel
theorem dX1_run_3 : decode cX1_run 3 = .ok (.iload_n 3, 1) := by decide +kernel
theorem dX1_run_4 : decode cX1_run 4 = .ok (.invokevirtual 32, 3) := by decide +kernel
theorem dX1_run_7 : decode cX1_run 7 = .ok (.aload_n 0, 1) := by decide +kernel
theorem dX1_run_8 : decode cX1_run 8 = .ok (.aload_n 1, 1) := by decide +kernel
theorem dX1_run_9 : decode cX1_run 9 = .ok (.invokevirtual 36, 3) := by decide +kernel
theorem dX1_run_12 : decode cX1_run 12 = .ok (.aload_n 0, 1) := by decide +kernel
theorem dX1_run_13 : decode cX1_run 13 = .ok (.aload_n 1, 1) := by decide +kernel
theorem dX1_run_14 : decode cX1_run 14 = .ok (.invokevirtual 40, 3) := by decide +kernel
theorem dX1_run_17 : decode cX1_run 17 = .ok (.aload_n 0, 1) := by decide +kernel
theorem dX1_run_18 : decode cX1_run 18 = .ok (.aload_n 1, 1) := by decide +kernel
theorem dX1_run_19 : decode cX1_run 19 = .ok (.invokevirtual 43, 3) := by decide +kernel
theorem dX1_run_22 : decode cX1_run 22 = .ok (.aload_n 1, 1) := by decide +kernel
theorem dX1_run_23 : decode cX1_run 23 = .ok (.getfield 46, 3) := by decide +kernel
theorem dX1_run_26 : decode cX1_run 26 = .ok (.sipush 999, 3) := by decide +kernel
theorem dX1_run_29 : decode cX1_run 29 = .ok (.if_icmp .ge 13, 3) := by decide +kernel
theorem dX1_run_32 : decode cX1_run 32 = .ok (.aload_n 1, 1) := by decide +kernel
theorem dX1_run_33 : decode cX1_run 33 = .ok (.dup, 1) := by decide +kernel
theorem dX1_run_34 : decode cX1_run 34 = .ok (.getfield 46, 3) := by decide +kernel
theorem dX1_run_37 : decode cX1_run 37 = .ok (.iconst 1, 1) := by decide +kernel
theorem dX1_run_38 : decode cX1_run 38 = .ok (.iadd, 1) := by decide +kernel
theorem dX1_run_39 : decode cX1_run 39 = .ok (.putfield 46, 3) := by decide +kernel
theorem dX1_run_42 : decode cX1_run 42 = .ok (.return_, 1) := by decide +kernel
theorem dX1_serve_0 : decode cX1_serve 0 = .ok (.iload_n 2, 1) := by decide +kernel
theorem dX1_serve_1 : decode cX1_serve 1 = .ok (.istore 4, 2) := by decide +kernel
theorem dX1_serve_3 : decode cX1_serve 3 = .ok (.aload_n 0, 1) := by decide +kernel
theorem dX1_serve_4 : decode cX1_serve 4 = .ok (.iconst 0, 1) := by decide +kernel
theorem dX1_serve_5 : decode cX1_serve 5 = .ok (.putfield 52, 3) := by decide +kernel
theorem dX1_serve_8 : decode cX1_serve 8 = .ok (.iconst 0, 1) := by decide +kernel
theorem dX1_serve_9 : decode cX1_serve 9 = .ok (.istore 5, 2) := by decide +kernel
theorem dX1_serve_11 : decode cX1_serve 11 = .ok (.iload 5, 2) := by decide +kernel
theorem dX1_serve_13 : decode cX1_serve 13 = .ok (.bipush 7, 2) := by decide +kernel
theorem dX1_serve_15 : decode cX1_serve 15 = .ok (.if_icmp .ge 174, 3) := by decide +kernel
theorem dX1_serve_18 : decode cX1_serve 18 = .ok (.aload_n 0, 1) := by decide +kernel
theorem dX1_serve_19 : decode cX1_serve 19 = .ok (.getfield 25, 3) := by decide +kernel
theorem dX1_serve_22 : decode cX1_serve 22 = .ok (.iload 5, 2) := by decide +kernel
theorem dX1_serve_24 : decode cX1_serve 24 = .ok (.iconst (-1), 1) := by decide +kernel
theorem dX1_serve_25 : decode cX1_serve 25 = .ok (.iastore, 1) := by decide +kernel
theorem dX1_serve_26 : decode cX1_serve 26 = .ok (.aload_n 0, 1) := by decide +kernel
theorem dX1_serve_27 : decode cX1_serve 27 = .ok (.getfield 29, 3) := by decide +kernel
theorem dX1_serve_30 : decode cX1_serve 30 = .ok (.iload 5, 2) := by decide +kernel
theorem dX1_serve_32 : decode cX1_serve 32 = .ok (.sipush 255, 3) := by decide +kernel
theorem dX1_serve_35 : decode cX1_serve 35 = .ok (.iastore, 1) := by decide +kernel
theorem dX1_serve_36 : decode cX1_serve 36 = .ok (.aload_n 1, 1) := by decide +kernel
theorem dX1_serve_37 : decode cX1_serve 37 = .ok (.iload 5, 2) := by decide +kernel
theorem dX1_serve_39 : decode cX1_serve 39 = .ok (.invokevirtual 55, 3) := by decide +kernel
theorem dX1_serve_42 : decode cX1_serve 42 = .ok (.ifCond .ne 6, 3) := by decide +kernel
theorem dX1_serve_45 : decode cX1_serve 45 = .ok (.goto 138, 3) := by decide +kernel
theorem dX1_serve_48 : decode cX1_serve 48 = .ok (.aload_n 0, 1) := by decide +kernel
theorem dX1_serve_49 : decode cX1_serve 49 = .ok (.aload_n 1, 1) := by decide +kernel
theorem dX1_serve_50 : decode cX1_serve 50 = .ok (.iload 5, 2) := by decide +kernel
theorem dX1_serve_52 : decode cX1_serve 52 = .ok (.iload 4, 2) := by decide +kernel
theorem dX1_serve_54 : decode cX1_serve 54 = .ok (.invokevirtual 59, 3) := by decide +kernel
theorem dX1_serve_57 : decode cX1_serve 57 = .ok (.istore 6, 2) := by decide +kernel
theorem dX1_serve_59 : decode cX1_serve 59 = .ok (.iload 6, 2) := by decide +kernel
theorem dX1_serve_61 : decode cX1_serve 61 = .ok (.ifCond .lt 10, 3) := by decide +kernel
theorem dX1_serve_64 : decode cX1_serve 64 = .ok (.iload 6, 2) := by decide +kernel
theorem dX1_serve_66 : decode cX1_serve 66 = .ok (.bipush 7, 2) := by decide +kernel
theorem dX1_serve_68 : decode cX1_serve 68 = .ok (.if_icmp .lt 27, 3) := by decide +kernel
theorem dX1_serve_71 : decode cX1_serve 71 = .ok (.aload_n 1, 1) := by decide +kernel
theorem dX1_serve_72 : decode cX1_serve 72 = .ok (.getfield 63, 3) := by decide +kernel
theorem dX1_serve_75 : decode cX1_serve 75 = .ok (.iload 5, 2) := by decide +kernel
theorem dX1_serve_77 : decode cX1_serve 77 = .ok (.bipush 9, 2) := by decide +kernel
theorem dX1_serve_79 : decode cX1_serve 79 = .ok (.aload_n 1, 1) := by decide +kernel
theorem dX1_serve_80 : decode cX1_serve 80 = .ok (.getfield 63, 3) := by decide +kernel
theorem dX1_serve_83 : decode cX1_serve 83 = .ok (.iload 5, 2) := by decide +kernel
theorem dX1_serve_85 : decode cX1_serve 85 = .ok (.iaload, 1) := by decide +kernel
theorem dX1_serve_86 : decode cX1_serve 86 = .ok (.iconst 1, 1) := by decide +kernel
theorem dX1_serve_87 : decode cX1_serve 87 = .ok (.iadd, 1) := by decide +kernel
theorem dX1_serve_88 : decode cX1_serve 88 = .ok (.invokestatic 66, 3) := by decide +kernel
theorem dX1_serve_91 : decode cX1_serve 91 = .ok (.iastore, 1) := by decide +kernel
theorem dX1_serve_92 : decode cX1_serve 92 = .ok (.goto 91, 3) := by decide +kernel
theorem dX1_serve_95 : decode cX1_serve 95 = .ok (.iload_n 3, 1) := by decide +kernel
theorem dX1_serve_96 : decode cX1_serve 96 = .ok (.ifCond .eq 34, 3) := by decide +kernel
theorem dX1_serve_99 : decode cX1_serve 99 = .ok (.aload_n 0, 1) := by decide +kernel
theorem dX1_serve_100 : decode cX1_serve 100 = .ok (.getfield 29, 3) := by decide +kernel
theorem dX1_serve_103 : decode cX1_serve 103 = .ok (.iload 5, 2) := by decide +kernel
theorem dX1_serve_105 : decode cX1_serve 105 = .ok (.aload_n 0, 1) := by decide +kernel
theorem dX1_serve_106 : decode cX1_serve 106 = .ok (.aload_n 1, 1) := by decide +kernel
theorem dX1_serve_107 : decode cX1_serve 107 = .ok (.iload 6, 2) := by decide +kernel
theorem dX1_serve_109 : decode cX1_serve 109 = .ok (.iload 5, 2) := by decide +kernel
theorem dX1_serve_111 : decode cX1_serve 111 = .ok (.invokevirtual 72, 3) := by decide +kernel
theorem dX1_serve_114 : decode cX1_serve 114 = .ok (.iastore, 1) := by decide +kernel
theorem dX1_serve_115 : decode cX1_serve 115 = .ok (.aload_n 1, 1) := by decide +kernel
theorem dX1_serve_116 : decode cX1_serve 116 = .ok (.iload 6, 2) := by decide +kernel
theorem dX1_serve_118 : decode cX1_serve 118 = .ok (.iload 5, 2) := by decide +kernel
theorem dX1_serve_120 : decode cX1_serve 120 = .ok (.aload_n 0, 1) := by decide +kernel
theorem dX1_serve_121 : decode cX1_serve 121 = .ok (.getfield 29, 3) := by decide +kernel
theorem dX1_serve_124 : decode cX1_serve 124 = .ok (.iload 5, 2) := by decide +kernel
theorem dX1_serve_126 : decode cX1_serve 126 = .ok (.iaload, 1) := by decide +kernel
theorem dX1_serve_127 : decode cX1_serve 127 = .ok (.invokevirtual 75, 3) := by decide +kernel
theorem dX1_serve_130 : decode cX1_serve 130 = .ok (.aload_n 0, 1) := by decide +kernel
theorem dX1_serve_131 : decode cX1_serve 131 = .ok (.getfield 25, 3) := by decide +kernel
theorem dX1_serve_134 : decode cX1_serve 134 = .ok (.iload 5, 2) := by decide +kernel
theorem dX1_serve_136 : decode cX1_serve 136 = .ok (.iload 6, 2) := by decide +kernel
theorem dX1_serve_138 : decode cX1_serve 138 = .ok (.iastore, 1) := by decide +kernel
theorem dX1_serve_139 : decode cX1_serve 139 = .ok (.iload 4, 2) := by decide +kernel
theorem dX1_serve_141 : decode cX1_serve 141 = .ok (.iconst 1, 1) := by decide +kernel
theorem dX1_serve_142 : decode cX1_serve 142 = .ok (.iload 6, 2) := by decide +kernel
theorem dX1_serve_144 : decode cX1_serve 144 = .ok (.ishl, 1) := by decide +kernel
theorem dX1_serve_145 : decode cX1_serve 145 = .ok (.ior, 1) := by decide +kernel
theorem dX1_serve_146 : decode cX1_serve 146 = .ok (.istore 4, 2) := by decide +kernel
theorem dX1_serve_148 : decode cX1_serve 148 = .ok (.aload_n 0, 1) := by decide +kernel
theorem dX1_serve_149 : decode cX1_serve 149 = .ok (.dup, 1) := by decide +kernel
theorem dX1_serve_150 : decode cX1_serve 150 = .ok (.getfield 52, 3) := by decide +kernel
theorem dX1_serve_153 : decode cX1_serve 153 = .ok (.iconst 1, 1) := by decide +kernel
theorem dX1_serve_154 : decode cX1_serve 154 = .ok (.iadd, 1) := by decide +kernel
theorem dX1_serve_155 : decode cX1_serve 155 = .ok (.putfield 52, 3) := by decide +kernel
theorem dX1_serve_158 : decode cX1_serve 158 = .ok (.aload_n 1, 1) := by decide +kernel
theorem dX1_serve_159 : decode cX1_serve 159 = .ok (.getfield 79, 3) := by decide +kernel
theorem dX1_serve_162 : decode cX1_serve 162 = .ok (.iload 6, 2) := by decide +kernel
theorem dX1_serve_164 : decode cX1_serve 164 = .ok (.dup2, 1) := by decide +kernel
theorem dX1_serve_165 : decode cX1_serve 165 = .ok (.iaload, 1) := by decide +kernel
theorem dX1_serve_166 : decode cX1_serve 166 = .ok (.aload_n 0, 1) := by decide +kernel
theorem dX1_serve_167 : decode cX1_serve 167 = .ok (.getfield 12, 3) := by decide +kernel
theorem dX1_serve_170 : decode cX1_serve 170 = .ok (.getfield 82, 3) := by decide +kernel
theorem dX1_serve_173 : decode cX1_serve 173 = .ok (.isub, 1) := by decide +kernel
theorem dX1_serve_174 : decode cX1_serve 174 = .ok (.iastore, 1) := by decide +kernel
theorem dX1_serve_175 : decode cX1_serve 175 = .ok (.aload_n 1, 1) := by decide +kernel
theorem dX1_serve_176 : decode cX1_serve 176 = .ok (.getfield 63, 3) := by decide +kernel
theorem dX1_serve_179 : decode cX1_serve 179 = .ok (.iload 5, 2) := by decide +kernel
theorem dX1_serve_181 : decode cX1_serve 181 = .ok (.iconst 0, 1) := by decide +kernel
theorem dX1_serve_182 : decode cX1_serve 182 = .ok (.iastore, 1) := by decide +kernel
theorem dX1_serve_183 : decode cX1_serve 183 = .ok (.iinc 5 1, 3) := by decide +kernel
theorem dX1_serve_186 : decode cX1_serve 186 = .ok (.goto (-175), 3) := by decide +kernel
theorem dX1_serve_189 : decode cX1_serve 189 = .ok (.return_, 1) := by decide +kernel
theorem dX1_tasteOfLoaf_0 : decode cX1_tasteOfLoaf 0 = .ok (.aload_n 0, 1) := by decide +kernel
theorem dX1_tasteOfLoaf_1 : decode cX1_tasteOfLoaf 1 = .ok (.aload_n 1, 1) := by decide +kernel
theorem dX1_tasteOfLoaf_2 : decode cX1_tasteOfLoaf 2 = .ok (.iload_n 2, 1) := by decide +kernel
theorem dX1_tasteOfLoaf_3 : decode cX1_tasteOfLoaf 3 = .ok (.iload_n 3, 1) := by decide +kernel
theorem dX1_tasteOfLoaf_4 : decode cX1_tasteOfLoaf 4 = .ok (.invokevirtual 85, 3) := by decide +kernel
theorem dX1_tasteOfLoaf_7 : decode cX1_tasteOfLoaf 7 = .ok (.aload_n 0, 1) := by decide +kernel
theorem dX1_tasteOfLoaf_8 : decode cX1_tasteOfLoaf 8 = .ok (.getfield 21, 3) := by decide +kernel
theorem dX1_tasteOfLoaf_11 : decode cX1_tasteOfLoaf 11 = .ok (.aload_n 0, 1) := by decide +kernel
theorem dX1_tasteOfLoaf_12 : decode cX1_tasteOfLoaf 12 = .ok (.getfield 12, 3) := by decide +kernel
theorem dX1_tasteOfLoaf_15 : decode cX1_tasteOfLoaf 15 = .ok (.getfield 89, 3) := by decide +kernel
theorem dX1_tasteOfLoaf_18 : decode cX1_tasteOfLoaf 18 = .ok (.aload_n 0, 1) := by decide +kernel
theorem dX1_tasteOfLoaf_19 : decode cX1_tasteOfLoaf 19 = .ok (.getfield 12, 3) := by decide +kernel
theorem dX1_tasteOfLoaf_22 : decode cX1_tasteOfLoaf 22 = .ok (.getfield 92, 3) := by decide +kernel
theorem dX1_tasteOfLoaf_25 : decode cX1_tasteOfLoaf 25 = .ok (.iconst 1, 1) := by decide +kernel
theorem dX1_tasteOfLoaf_26 : decode cX1_tasteOfLoaf 26 = .ok (.iaload, 1) := by decide +kernel
theorem dX1_tasteOfLoaf_27 : decode cX1_tasteOfLoaf 27 = .ok (.aload_n 0, 1) := by decide +kernel
theorem dX1_tasteOfLoaf_28 : decode cX1_tasteOfLoaf 28 = .ok (.getfield 12, 3) := by decide +kernel
theorem dX1_tasteOfLoaf_31 : decode cX1_tasteOfLoaf 31 = .ok (.getfield 95, 3) := by decide +kernel
theorem dX1_tasteOfLoaf_34 : decode cX1_tasteOfLoaf 34 = .ok (.iconst 1, 1) := by decide +kernel
theorem dX1_tasteOfLoaf_35 : decode cX1_tasteOfLoaf 35 = .ok (.iaload, 1) := by decide +kernel
theorem dX1_tasteOfLoaf_36 : decode cX1_tasteOfLoaf 36 = .ok (.invokevirtual 98, 3) := by decide +kernel
theorem dX1_tasteOfLoaf_39 : decode cX1_tasteOfLoaf 39 = .ok (.invokestatic 102, 3) := by decide +kernel
theorem dX1_tasteOfLoaf_42 : decode cX1_tasteOfLoaf 42 = .ok (.ireturn, 1) := by decide +kernel
theorem dX1_pickBaker_0 : decode cX1_pickBaker 0 = .ok (.iconst 0, 1) := by decide +kernel
theorem dX1_pickBaker_1 : decode cX1_pickBaker 1 = .ok (.istore 4, 2) := by decide +kernel
theorem dX1_pickBaker_3 : decode cX1_pickBaker 3 = .ok (.iconst (-1), 1) := by decide +kernel
theorem dX1_pickBaker_4 : decode cX1_pickBaker 4 = .ok (.istore 5, 2) := by decide +kernel
theorem dX1_pickBaker_6 : decode cX1_pickBaker 6 = .ok (.iconst 0, 1) := by decide +kernel
theorem dX1_pickBaker_7 : decode cX1_pickBaker 7 = .ok (.istore 6, 2) := by decide +kernel
theorem dX1_pickBaker_9 : decode cX1_pickBaker 9 = .ok (.iload 6, 2) := by decide +kernel
theorem dX1_pickBaker_11 : decode cX1_pickBaker 11 = .ok (.bipush 7, 2) := by decide +kernel
theorem dX1_pickBaker_13 : decode cX1_pickBaker 13 = .ok (.if_icmp .ge 63, 3) := by decide +kernel
theorem dX1_pickBaker_16 : decode cX1_pickBaker 16 = .ok (.aload_n 1, 1) := by decide +kernel
theorem dX1_pickBaker_17 : decode cX1_pickBaker 17 = .ok (.getfield 106, 3) := by decide +kernel
theorem dX1_pickBaker_20 : decode cX1_pickBaker 20 = .ok (.bipush 8, 2) := by decide +kernel
theorem dX1_pickBaker_22 : decode cX1_pickBaker 22 = .ok (.iload_n 2, 1) := by decide +kernel
theorem dX1_pickBaker_23 : decode cX1_pickBaker 23 = .ok (.imul, 1) := by decide +kernel
theorem dX1_pickBaker_24 : decode cX1_pickBaker 24 = .ok (.iload 6, 2) := by decide +kernel
theorem dX1_pickBaker_26 : decode cX1_pickBaker 26 = .ok (.iadd, 1) := by decide +kernel
theorem dX1_pickBaker_27 : decode cX1_pickBaker 27 = .ok (.iaload, 1) := by decide +kernel
theorem dX1_pickBaker_28 : decode cX1_pickBaker 28 = .ok (.ifCond .le 42, 3) := by decide +kernel
theorem dX1_pickBaker_31 : decode cX1_pickBaker 31 = .ok (.aload_n 1, 1) := by decide +kernel
theorem dX1_pickBaker_32 : decode cX1_pickBaker 32 = .ok (.getfield 79, 3) := by decide +kernel
theorem dX1_pickBaker_35 : decode cX1_pickBaker 35 = .ok (.iload 6, 2) := by decide +kernel
theorem dX1_pickBaker_37 : decode cX1_pickBaker 37 = .ok (.iaload, 1) := by decide +kernel
theorem dX1_pickBaker_38 : decode cX1_pickBaker 38 = .ok (.aload_n 0, 1) := by decide +kernel
theorem dX1_pickBaker_39 : decode cX1_pickBaker 39 = .ok (.getfield 12, 3) := by decide +kernel
theorem dX1_pickBaker_42 : decode cX1_pickBaker 42 = .ok (.getfield 82, 3) := by decide +kernel
theorem dX1_pickBaker_45 : decode cX1_pickBaker 45 = .ok (.if_icmp .lt 25, 3) := by decide +kernel
theorem dX1_pickBaker_48 : decode cX1_pickBaker 48 = .ok (.iload_n 3, 1) := by decide +kernel
theorem dX1_pickBaker_49 : decode cX1_pickBaker 49 = .ok (.iload 6, 2) := by decide +kernel
theorem dX1_pickBaker_51 : decode cX1_pickBaker 51 = .ok (.ishr, 1) := by decide +kernel
theorem dX1_pickBaker_52 : decode cX1_pickBaker 52 = .ok (.iconst 1, 1) := by decide +kernel
theorem dX1_pickBaker_53 : decode cX1_pickBaker 53 = .ok (.iand, 1) := by decide +kernel
theorem dX1_pickBaker_54 : decode cX1_pickBaker 54 = .ok (.ifCond .ne 16, 3) := by decide +kernel
theorem dX1_pickBaker_57 : decode cX1_pickBaker 57 = .ok (.iload 4, 2) := by decide +kernel
theorem dX1_pickBaker_59 : decode cX1_pickBaker 59 = .ok (.iconst 1, 1) := by decide +kernel
theorem dX1_pickBaker_60 : decode cX1_pickBaker 60 = .ok (.iload 6, 2) := by decide +kernel
theorem dX1_pickBaker_62 : decode cX1_pickBaker 62 = .ok (.ishl, 1) := by decide +kernel
theorem dX1_pickBaker_63 : decode cX1_pickBaker 63 = .ok (.ior, 1) := by decide +kernel
theorem dX1_pickBaker_64 : decode cX1_pickBaker 64 = .ok (.istore 4, 2) := by decide +kernel
theorem dX1_pickBaker_66 : decode cX1_pickBaker 66 = .ok (.iload 6, 2) := by decide +kernel
theorem dX1_pickBaker_68 : decode cX1_pickBaker 68 = .ok (.istore 5, 2) := by decide +kernel
theorem dX1_pickBaker_70 : decode cX1_pickBaker 70 = .ok (.iinc 6 1, 3) := by decide +kernel
theorem dX1_pickBaker_73 : decode cX1_pickBaker 73 = .ok (.goto (-64), 3) := by decide +kernel
theorem dX1_pickBaker_76 : decode cX1_pickBaker 76 = .ok (.iload 4, 2) := by decide +kernel
theorem dX1_pickBaker_78 : decode cX1_pickBaker 78 = .ok (.invokestatic 109, 3) := by decide +kernel
theorem dX1_pickBaker_81 : decode cX1_pickBaker 81 = .ok (.iconst 2, 1) := by decide +kernel
theorem dX1_pickBaker_82 : decode cX1_pickBaker 82 = .ok (.if_icmp .ge 6, 3) := by decide +kernel
theorem dX1_pickBaker_85 : decode cX1_pickBaker 85 = .ok (.iload 5, 2) := by decide +kernel
theorem dX1_pickBaker_87 : decode cX1_pickBaker 87 = .ok (.ireturn, 1) := by decide +kernel
theorem dX1_pickBaker_88 : decode cX1_pickBaker 88 = .ok (.iconst (-1), 1) := by decide +kernel
theorem dX1_pickBaker_89 : decode cX1_pickBaker 89 = .ok (.istore 5, 2) := by decide +kernel
theorem dX1_pickBaker_91 : decode cX1_pickBaker 91 = .ok (.iconst 0, 1) := by decide +kernel
theorem dX1_pickBaker_92 : decode cX1_pickBaker 92 = .ok (.istore 6, 2) := by decide +kernel
theorem dX1_pickBaker_94 : decode cX1_pickBaker 94 = .ok (.iconst 0, 1) := by decide +kernel
theorem dX1_pickBaker_95 : decode cX1_pickBaker 95 = .ok (.istore 7, 2) := by decide +kernel
theorem dX1_pickBaker_97 : decode cX1_pickBaker 97 = .ok (.iload 7, 2) := by decide +kernel
theorem dX1_pickBaker_99 : decode cX1_pickBaker 99 = .ok (.bipush 7, 2) := by decide +kernel
theorem dX1_pickBaker_101 : decode cX1_pickBaker 101 = .ok (.if_icmp .ge 82, 3) := by decide +kernel
theorem dX1_pickBaker_104 : decode cX1_pickBaker 104 = .ok (.iload 4, 2) := by decide +kernel
theorem dX1_pickBaker_106 : decode cX1_pickBaker 106 = .ok (.iload 7, 2) := by decide +kernel
theorem dX1_pickBaker_108 : decode cX1_pickBaker 108 = .ok (.ishr, 1) := by decide +kernel
theorem dX1_pickBaker_109 : decode cX1_pickBaker 109 = .ok (.iconst 1, 1) := by decide +kernel
theorem dX1_pickBaker_110 : decode cX1_pickBaker 110 = .ok (.iand, 1) := by decide +kernel
theorem dX1_pickBaker_111 : decode cX1_pickBaker 111 = .ok (.ifCond .eq 66, 3) := by decide +kernel
theorem dX1_pickBaker_114 : decode cX1_pickBaker 114 = .ok (.aload_n 0, 1) := by decide +kernel
theorem dX1_pickBaker_115 : decode cX1_pickBaker 115 = .ok (.aload_n 1, 1) := by decide +kernel
theorem dX1_pickBaker_116 : decode cX1_pickBaker 116 = .ok (.iload 7, 2) := by decide +kernel
theorem dX1_pickBaker_118 : decode cX1_pickBaker 118 = .ok (.iload_n 2, 1) := by decide +kernel
theorem dX1_pickBaker_119 : decode cX1_pickBaker 119 = .ok (.invokevirtual 85, 3) := by decide +kernel
theorem dX1_pickBaker_122 : decode cX1_pickBaker 122 = .ok (.aload_n 0, 1) := by decide +kernel
theorem dX1_pickBaker_123 : decode cX1_pickBaker 123 = .ok (.getfield 21, 3) := by decide +kernel
theorem dX1_pickBaker_126 : decode cX1_pickBaker 126 = .ok (.aload_n 0, 1) := by decide +kernel
theorem dX1_pickBaker_127 : decode cX1_pickBaker 127 = .ok (.getfield 12, 3) := by decide +kernel
theorem dX1_pickBaker_130 : decode cX1_pickBaker 130 = .ok (.getfield 89, 3) := by decide +kernel
theorem dX1_pickBaker_133 : decode cX1_pickBaker 133 = .ok (.aload_n 0, 1) := by decide +kernel
theorem dX1_pickBaker_134 : decode cX1_pickBaker 134 = .ok (.getfield 12, 3) := by decide +kernel
theorem dX1_pickBaker_137 : decode cX1_pickBaker 137 = .ok (.getfield 92, 3) := by decide +kernel
theorem dX1_pickBaker_140 : decode cX1_pickBaker 140 = .ok (.iconst 0, 1) := by decide +kernel
theorem dX1_pickBaker_141 : decode cX1_pickBaker 141 = .ok (.iaload, 1) := by decide +kernel
theorem dX1_pickBaker_142 : decode cX1_pickBaker 142 = .ok (.aload_n 0, 1) := by decide +kernel
theorem dX1_pickBaker_143 : decode cX1_pickBaker 143 = .ok (.getfield 12, 3) := by decide +kernel
theorem dX1_pickBaker_146 : decode cX1_pickBaker 146 = .ok (.getfield 95, 3) := by decide +kernel
theorem dX1_pickBaker_149 : decode cX1_pickBaker 149 = .ok (.iconst 0, 1) := by decide +kernel
theorem dX1_pickBaker_150 : decode cX1_pickBaker 150 = .ok (.iaload, 1) := by decide +kernel
theorem dX1_pickBaker_151 : decode cX1_pickBaker 151 = .ok (.invokevirtual 98, 3) := by decide +kernel
theorem dX1_pickBaker_154 : decode cX1_pickBaker 154 = .ok (.istore 8, 2) := by decide +kernel
theorem dX1_pickBaker_156 : decode cX1_pickBaker 156 = .ok (.iload 5, 2) := by decide +kernel
theorem dX1_pickBaker_158 : decode cX1_pickBaker 158 = .ok (.iconst (-1), 1) := by decide +kernel
theorem dX1_pickBaker_159 : decode cX1_pickBaker 159 = .ok (.if_icmp .eq 10, 3) := by decide +kernel
theorem dX1_pickBaker_162 : decode cX1_pickBaker 162 = .ok (.iload 8, 2) := by decide +kernel
theorem dX1_pickBaker_164 : decode cX1_pickBaker 164 = .ok (.iload 6, 2) := by decide +kernel
theorem dX1_pickBaker_166 : decode cX1_pickBaker 166 = .ok (.if_icmp .le 11, 3) := by decide +kernel
theorem dX1_pickBaker_169 : decode cX1_pickBaker 169 = .ok (.iload 7, 2) := by decide +kernel
theorem dX1_pickBaker_171 : decode cX1_pickBaker 171 = .ok (.istore 5, 2) := by decide +kernel
theorem dX1_pickBaker_173 : decode cX1_pickBaker 173 = .ok (.iload 8, 2) := by decide +kernel
theorem dX1_pickBaker_175 : decode cX1_pickBaker 175 = .ok (.istore 6, 2) := by decide +kernel
theorem dX1_pickBaker_177 : decode cX1_pickBaker 177 = .ok (.iinc 7 1, 3) := by decide +kernel
theorem dX1_pickBaker_180 : decode cX1_pickBaker 180 = .ok (.goto (-83), 3) := by decide +kernel
theorem dX1_pickBaker_183 : decode cX1_pickBaker 183 = .ok (.iload 5, 2) := by decide +kernel
theorem dX1_pickBaker_185 : decode cX1_pickBaker 185 = .ok (.ireturn, 1) := by decide +kernel
theorem dX1_starve_0 : decode cX1_starve 0 = .ok (.iconst 0, 1) := by decide +kernel
theorem dX1_starve_1 : decode cX1_starve 1 = .ok (.istore_n 2, 1) := by decide +kernel
theorem dX1_starve_2 : decode cX1_starve 2 = .ok (.iload_n 2, 1) := by decide +kernel
theorem dX1_starve_3 : decode cX1_starve 3 = .ok (.bipush 7, 2) := by decide +kernel
theorem dX1_starve_5 : decode cX1_starve 5 = .ok (.if_icmp .ge 65, 3) := by decide +kernel
theorem dX1_starve_8 : decode cX1_starve 8 = .ok (.aload_n 1, 1) := by decide +kernel
theorem dX1_starve_9 : decode cX1_starve 9 = .ok (.iload_n 2, 1) := by decide +kernel
theorem dX1_starve_10 : decode cX1_starve 10 = .ok (.invokevirtual 55, 3) := by decide +kernel
theorem dX1_starve_13 : decode cX1_starve 13 = .ok (.ifCond .eq 51, 3) := by decide +kernel
theorem dX1_starve_16 : decode cX1_starve 16 = .ok (.aload_n 0, 1) := by decide +kernel
theorem dX1_starve_17 : decode cX1_starve 17 = .ok (.aload_n 1, 1) := by decide +kernel
theorem dX1_starve_18 : decode cX1_starve 18 = .ok (.iload_n 2, 1) := by decide +kernel
theorem dX1_starve_19 : decode cX1_starve 19 = .ok (.invokevirtual 114, 3) := by decide +kernel
theorem dX1_starve_22 : decode cX1_starve 22 = .ok (.aload_n 0, 1) := by decide +kernel
theorem dX1_starve_23 : decode cX1_starve 23 = .ok (.getfield 21, 3) := by decide +kernel
theorem dX1_starve_26 : decode cX1_starve 26 = .ok (.aload_n 0, 1) := by decide +kernel
theorem dX1_starve_27 : decode cX1_starve 27 = .ok (.getfield 12, 3) := by decide +kernel
theorem dX1_starve_30 : decode cX1_starve 30 = .ok (.getfield 89, 3) := by decide +kernel
theorem dX1_starve_33 : decode cX1_starve 33 = .ok (.aload_n 0, 1) := by decide +kernel
theorem dX1_starve_34 : decode cX1_starve 34 = .ok (.getfield 12, 3) := by decide +kernel
theorem dX1_starve_37 : decode cX1_starve 37 = .ok (.getfield 92, 3) := by decide +kernel
theorem dX1_starve_40 : decode cX1_starve 40 = .ok (.iconst 2, 1) := by decide +kernel
theorem dX1_starve_41 : decode cX1_starve 41 = .ok (.iaload, 1) := by decide +kernel
theorem dX1_starve_42 : decode cX1_starve 42 = .ok (.aload_n 0, 1) := by decide +kernel
theorem dX1_starve_43 : decode cX1_starve 43 = .ok (.getfield 12, 3) := by decide +kernel
theorem dX1_starve_46 : decode cX1_starve 46 = .ok (.getfield 95, 3) := by decide +kernel
theorem dX1_starve_49 : decode cX1_starve 49 = .ok (.iconst 2, 1) := by decide +kernel
theorem dX1_starve_50 : decode cX1_starve 50 = .ok (.iaload, 1) := by decide +kernel
theorem dX1_starve_51 : decode cX1_starve 51 = .ok (.invokevirtual 98, 3) := by decide +kernel
theorem dX1_starve_54 : decode cX1_starve 54 = .ok (.istore_n 3, 1) := by decide +kernel
theorem dX1_starve_55 : decode cX1_starve 55 = .ok (.iload_n 3, 1) := by decide +kernel
theorem dX1_starve_56 : decode cX1_starve 56 = .ok (.ifCond .eq 8, 3) := by decide +kernel
theorem dX1_starve_59 : decode cX1_starve 59 = .ok (.aload_n 1, 1) := by decide +kernel
theorem dX1_starve_60 : decode cX1_starve 60 = .ok (.iload_n 2, 1) := by decide +kernel
theorem dX1_starve_61 : decode cX1_starve 61 = .ok (.invokevirtual 118, 3) := by decide +kernel
theorem dX1_starve_64 : decode cX1_starve 64 = .ok (.iinc 2 1, 3) := by decide +kernel
theorem dX1_starve_67 : decode cX1_starve 67 = .ok (.goto (-65), 3) := by decide +kernel
theorem dX1_starve_70 : decode cX1_starve 70 = .ok (.return_, 1) := by decide +kernel
theorem dX1_cool_0 : decode cX1_cool 0 = .ok (.aload_n 0, 1) := by decide +kernel
theorem dX1_cool_1 : decode cX1_cool 1 = .ok (.getfield 21, 3) := by decide +kernel
theorem dX1_cool_4 : decode cX1_cool 4 = .ok (.getfield 122, 3) := by decide +kernel
theorem dX1_cool_7 : decode cX1_cool 7 = .ok (.bipush 13, 2) := by decide +kernel
theorem dX1_cool_9 : decode cX1_cool 9 = .ok (.aload_n 1, 1) := by decide +kernel
theorem dX1_cool_10 : decode cX1_cool 10 = .ok (.getfield 46, 3) := by decide +kernel
theorem dX1_cool_13 : decode cX1_cool 13 = .ok (.iastore, 1) := by decide +kernel
theorem dX1_cool_14 : decode cX1_cool 14 = .ok (.iconst 0, 1) := by decide +kernel
theorem dX1_cool_15 : decode cX1_cool 15 = .ok (.istore_n 2, 1) := by decide +kernel
theorem dX1_cool_16 : decode cX1_cool 16 = .ok (.iload_n 2, 1) := by decide +kernel
theorem dX1_cool_17 : decode cX1_cool 17 = .ok (.bipush 7, 2) := by decide +kernel
theorem dX1_cool_19 : decode cX1_cool 19 = .ok (.if_icmp .ge 141, 3) := by decide +kernel
theorem dX1_cool_22 : decode cX1_cool 22 = .ok (.iload_n 2, 1) := by decide +kernel
theorem dX1_cool_23 : decode cX1_cool 23 = .ok (.iconst 1, 1) := by decide +kernel
theorem dX1_cool_24 : decode cX1_cool 24 = .ok (.iadd, 1) := by decide +kernel
theorem dX1_cool_25 : decode cX1_cool 25 = .ok (.istore_n 3, 1) := by decide +kernel
theorem dX1_cool_26 : decode cX1_cool 26 = .ok (.iload_n 3, 1) := by decide +kernel
theorem dX1_cool_27 : decode cX1_cool 27 = .ok (.bipush 7, 2) := by decide +kernel
theorem dX1_cool_29 : decode cX1_cool 29 = .ok (.if_icmp .ge 125, 3) := by decide +kernel
theorem dX1_cool_32 : decode cX1_cool 32 = .ok (.aload_n 1, 1) := by decide +kernel
theorem dX1_cool_33 : decode cX1_cool 33 = .ok (.getfield 106, 3) := by decide +kernel
theorem dX1_cool_36 : decode cX1_cool 36 = .ok (.bipush 8, 2) := by decide +kernel
theorem dX1_cool_38 : decode cX1_cool 38 = .ok (.iload_n 2, 1) := by decide +kernel
theorem dX1_cool_39 : decode cX1_cool 39 = .ok (.imul, 1) := by decide +kernel
theorem dX1_cool_40 : decode cX1_cool 40 = .ok (.iload_n 3, 1) := by decide +kernel
theorem dX1_cool_41 : decode cX1_cool 41 = .ok (.iadd, 1) := by decide +kernel
theorem dX1_cool_42 : decode cX1_cool 42 = .ok (.iaload, 1) := by decide +kernel
theorem dX1_cool_43 : decode cX1_cool 43 = .ok (.istore 4, 2) := by decide +kernel
theorem dX1_cool_45 : decode cX1_cool 45 = .ok (.iload 4, 2) := by decide +kernel
theorem dX1_cool_47 : decode cX1_cool 47 = .ok (.ifCond .le 101, 3) := by decide +kernel
theorem dX1_cool_50 : decode cX1_cool 50 = .ok (.aload_n 0, 1) := by decide +kernel
theorem dX1_cool_51 : decode cX1_cool 51 = .ok (.getfield 21, 3) := by decide +kernel
theorem dX1_cool_54 : decode cX1_cool 54 = .ok (.getfield 122, 3) := by decide +kernel
theorem dX1_cool_57 : decode cX1_cool 57 = .ok (.bipush 6, 2) := by decide +kernel
theorem dX1_cool_59 : decode cX1_cool 59 = .ok (.iload 4, 2) := by decide +kernel
theorem dX1_cool_61 : decode cX1_cool 61 = .ok (.iastore, 1) := by decide +kernel
theorem dX1_cool_62 : decode cX1_cool 62 = .ok (.aload_n 0, 1) := by decide +kernel
theorem dX1_cool_63 : decode cX1_cool 63 = .ok (.getfield 21, 3) := by decide +kernel
theorem dX1_cool_66 : decode cX1_cool 66 = .ok (.getfield 122, 3) := by decide +kernel
theorem dX1_cool_69 : decode cX1_cool 69 = .ok (.bipush 15, 2) := by decide +kernel
theorem dX1_cool_71 : decode cX1_cool 71 = .ok (.aload_n 0, 1) := by decide +kernel
theorem dX1_cool_72 : decode cX1_cool 72 = .ok (.getfield 25, 3) := by decide +kernel
theorem dX1_cool_75 : decode cX1_cool 75 = .ok (.iload_n 2, 1) := by decide +kernel
theorem dX1_cool_76 : decode cX1_cool 76 = .ok (.iaload, 1) := by decide +kernel
theorem dX1_cool_77 : decode cX1_cool 77 = .ok (.iload_n 3, 1) := by decide +kernel
theorem dX1_cool_78 : decode cX1_cool 78 = .ok (.if_icmp .ne 7, 3) := by decide +kernel
theorem dX1_cool_81 : decode cX1_cool 81 = .ok (.iconst 1, 1) := by decide +kernel
theorem dX1_cool_82 : decode cX1_cool 82 = .ok (.goto 4, 3) := by decide +kernel
theorem dX1_cool_85 : decode cX1_cool 85 = .ok (.iconst 0, 1) := by decide +kernel
theorem dX1_cool_86 : decode cX1_cool 86 = .ok (.aload_n 0, 1) := by decide +kernel
theorem dX1_cool_87 : decode cX1_cool 87 = .ok (.getfield 25, 3) := by decide +kernel
theorem dX1_cool_90 : decode cX1_cool 90 = .ok (.iload_n 3, 1) := by decide +kernel
theorem dX1_cool_91 : decode cX1_cool 91 = .ok (.iaload, 1) := by decide +kernel
theorem dX1_cool_92 : decode cX1_cool 92 = .ok (.iload_n 2, 1) := by decide +kernel
theorem dX1_cool_93 : decode cX1_cool 93 = .ok (.if_icmp .ne 7, 3) := by decide +kernel
theorem dX1_cool_96 : decode cX1_cool 96 = .ok (.iconst 1, 1) := by decide +kernel
theorem dX1_cool_97 : decode cX1_cool 97 = .ok (.goto 4, 3) := by decide +kernel
theorem dX1_cool_100 : decode cX1_cool 100 = .ok (.iconst 0, 1) := by decide +kernel
theorem dX1_cool_101 : decode cX1_cool 101 = .ok (.iadd, 1) := by decide +kernel
theorem dX1_cool_102 : decode cX1_cool 102 = .ok (.iastore, 1) := by decide +kernel
theorem dX1_cool_103 : decode cX1_cool 103 = .ok (.aload_n 0, 1) := by decide +kernel
theorem dX1_cool_104 : decode cX1_cool 104 = .ok (.getfield 21, 3) := by decide +kernel
theorem dX1_cool_107 : decode cX1_cool 107 = .ok (.aload_n 0, 1) := by decide +kernel
theorem dX1_cool_108 : decode cX1_cool 108 = .ok (.getfield 12, 3) := by decide +kernel
theorem dX1_cool_111 : decode cX1_cool 111 = .ok (.getfield 89, 3) := by decide +kernel
theorem dX1_cool_114 : decode cX1_cool 114 = .ok (.aload_n 0, 1) := by decide +kernel
theorem dX1_cool_115 : decode cX1_cool 115 = .ok (.getfield 12, 3) := by decide +kernel
theorem dX1_cool_118 : decode cX1_cool 118 = .ok (.getfield 92, 3) := by decide +kernel
theorem dX1_cool_121 : decode cX1_cool 121 = .ok (.iconst 3, 1) := by decide +kernel
theorem dX1_cool_122 : decode cX1_cool 122 = .ok (.iaload, 1) := by decide +kernel
theorem dX1_cool_123 : decode cX1_cool 123 = .ok (.aload_n 0, 1) := by decide +kernel
theorem dX1_cool_124 : decode cX1_cool 124 = .ok (.getfield 12, 3) := by decide +kernel
theorem dX1_cool_127 : decode cX1_cool 127 = .ok (.getfield 95, 3) := by decide +kernel
theorem dX1_cool_130 : decode cX1_cool 130 = .ok (.iconst 3, 1) := by decide +kernel
theorem dX1_cool_131 : decode cX1_cool 131 = .ok (.iaload, 1) := by decide +kernel
theorem dX1_cool_132 : decode cX1_cool 132 = .ok (.invokevirtual 98, 3) := by decide +kernel
theorem dX1_cool_135 : decode cX1_cool 135 = .ok (.istore 5, 2) := by decide +kernel
theorem dX1_cool_137 : decode cX1_cool 137 = .ok (.aload_n 1, 1) := by decide +kernel
theorem dX1_cool_138 : decode cX1_cool 138 = .ok (.iload_n 2, 1) := by decide +kernel
theorem dX1_cool_139 : decode cX1_cool 139 = .ok (.iload_n 3, 1) := by decide +kernel
theorem dX1_cool_140 : decode cX1_cool 140 = .ok (.iload 5, 2) := by decide +kernel
theorem dX1_cool_142 : decode cX1_cool 142 = .ok (.invokestatic 102, 3) := by decide +kernel
theorem dX1_cool_145 : decode cX1_cool 145 = .ok (.invokevirtual 127, 3) := by decide +kernel
theorem dX1_cool_148 : decode cX1_cool 148 = .ok (.iinc 3 1, 3) := by decide +kernel
theorem dX1_cool_151 : decode cX1_cool 151 = .ok (.goto (-125), 3) := by decide +kernel
theorem dX1_cool_154 : decode cX1_cool 154 = .ok (.iinc 2 1, 3) := by decide +kernel
theorem dX1_cool_157 : decode cX1_cool 157 = .ok (.goto (-141), 3) := by decide +kernel
theorem dX1_cool_160 : decode cX1_cool 160 = .ok (.return_, 1) := by decide +kernel
theorem dX1_grow_0 : decode cX1_grow 0 = .ok (.iconst 0, 1) := by decide +kernel
theorem dX1_grow_1 : decode cX1_grow 1 = .ok (.istore_n 2, 1) := by decide +kernel
theorem dX1_grow_2 : decode cX1_grow 2 = .ok (.iload_n 2, 1) := by decide +kernel
theorem dX1_grow_3 : decode cX1_grow 3 = .ok (.bipush 7, 2) := by decide +kernel
theorem dX1_grow_5 : decode cX1_grow 5 = .ok (.if_icmp .ge 73, 3) := by decide +kernel
theorem dX1_grow_8 : decode cX1_grow 8 = .ok (.aload_n 1, 1) := by decide +kernel
theorem dX1_grow_9 : decode cX1_grow 9 = .ok (.iload_n 2, 1) := by decide +kernel
theorem dX1_grow_10 : decode cX1_grow 10 = .ok (.invokevirtual 55, 3) := by decide +kernel
theorem dX1_grow_13 : decode cX1_grow 13 = .ok (.ifCond .eq 59, 3) := by decide +kernel
theorem dX1_grow_16 : decode cX1_grow 16 = .ok (.aload_n 0, 1) := by decide +kernel
theorem dX1_grow_17 : decode cX1_grow 17 = .ok (.aload_n 1, 1) := by decide +kernel
theorem dX1_grow_18 : decode cX1_grow 18 = .ok (.iload_n 2, 1) := by decide +kernel
theorem dX1_grow_19 : decode cX1_grow 19 = .ok (.invokevirtual 114, 3) := by decide +kernel
theorem dX1_grow_22 : decode cX1_grow 22 = .ok (.aload_n 0, 1) := by decide +kernel
theorem dX1_grow_23 : decode cX1_grow 23 = .ok (.getfield 21, 3) := by decide +kernel
theorem dX1_grow_26 : decode cX1_grow 26 = .ok (.aload_n 0, 1) := by decide +kernel
theorem dX1_grow_27 : decode cX1_grow 27 = .ok (.getfield 12, 3) := by decide +kernel
theorem dX1_grow_30 : decode cX1_grow 30 = .ok (.getfield 89, 3) := by decide +kernel
theorem dX1_grow_33 : decode cX1_grow 33 = .ok (.aload_n 0, 1) := by decide +kernel
theorem dX1_grow_34 : decode cX1_grow 34 = .ok (.getfield 12, 3) := by decide +kernel
theorem dX1_grow_37 : decode cX1_grow 37 = .ok (.getfield 92, 3) := by decide +kernel
theorem dX1_grow_40 : decode cX1_grow 40 = .ok (.iconst 4, 1) := by decide +kernel
theorem dX1_grow_41 : decode cX1_grow 41 = .ok (.iaload, 1) := by decide +kernel
theorem dX1_grow_42 : decode cX1_grow 42 = .ok (.aload_n 0, 1) := by decide +kernel
theorem dX1_grow_43 : decode cX1_grow 43 = .ok (.getfield 12, 3) := by decide +kernel
theorem dX1_grow_46 : decode cX1_grow 46 = .ok (.getfield 95, 3) := by decide +kernel
theorem dX1_grow_49 : decode cX1_grow 49 = .ok (.iconst 4, 1) := by decide +kernel
theorem dX1_grow_50 : decode cX1_grow 50 = .ok (.iaload, 1) := by decide +kernel
theorem dX1_grow_51 : decode cX1_grow 51 = .ok (.invokevirtual 98, 3) := by decide +kernel
theorem dX1_grow_54 : decode cX1_grow 54 = .ok (.istore_n 3, 1) := by decide +kernel
theorem dX1_grow_55 : decode cX1_grow 55 = .ok (.aload_n 1, 1) := by decide +kernel
theorem dX1_grow_56 : decode cX1_grow 56 = .ok (.getfield 79, 3) := by decide +kernel
theorem dX1_grow_59 : decode cX1_grow 59 = .ok (.iload_n 2, 1) := by decide +kernel
theorem dX1_grow_60 : decode cX1_grow 60 = .ok (.aload_n 1, 1) := by decide +kernel
theorem dX1_grow_61 : decode cX1_grow 61 = .ok (.getfield 79, 3) := by decide +kernel
theorem dX1_grow_64 : decode cX1_grow 64 = .ok (.iload_n 2, 1) := by decide +kernel
theorem dX1_grow_65 : decode cX1_grow 65 = .ok (.iaload, 1) := by decide +kernel
theorem dX1_grow_66 : decode cX1_grow 66 = .ok (.iload_n 3, 1) := by decide +kernel
theorem dX1_grow_67 : decode cX1_grow 67 = .ok (.iadd, 1) := by decide +kernel
theorem dX1_grow_68 : decode cX1_grow 68 = .ok (.invokestatic 102, 3) := by decide +kernel
theorem dX1_grow_71 : decode cX1_grow 71 = .ok (.iastore, 1) := by decide +kernel
theorem dX1_grow_72 : decode cX1_grow 72 = .ok (.iinc 2 1, 3) := by decide +kernel
theorem dX1_grow_75 : decode cX1_grow 75 = .ok (.goto (-73), 3) := by decide +kernel
theorem dX1_grow_78 : decode cX1_grow 78 = .ok (.return_, 1) := by decide +kernel
theorem dX1_tellLoaf_0 : decode cX1_tellLoaf 0 = .ok (.aload_n 0, 1) := by decide +kernel
theorem dX1_tellLoaf_1 : decode cX1_tellLoaf 1 = .ok (.getfield 21, 3) := by decide +kernel
theorem dX1_tellLoaf_4 : decode cX1_tellLoaf 4 = .ok (.getfield 122, 3) := by decide +kernel
theorem dX1_tellLoaf_7 : decode cX1_tellLoaf 7 = .ok (.bipush 13, 2) := by decide +kernel
theorem dX1_tellLoaf_9 : decode cX1_tellLoaf 9 = .ok (.aload_n 1, 1) := by decide +kernel
theorem dX1_tellLoaf_10 : decode cX1_tellLoaf 10 = .ok (.getfield 46, 3) := by decide +kernel
theorem dX1_tellLoaf_13 : decode cX1_tellLoaf 13 = .ok (.iastore, 1) := by decide +kernel
theorem dX1_tellLoaf_14 : decode cX1_tellLoaf 14 = .ok (.iload_n 2, 1) := by decide +kernel
theorem dX1_tellLoaf_15 : decode cX1_tellLoaf 15 = .ok (.ifCond .lt 89, 3) := by decide +kernel
theorem dX1_tellLoaf_18 : decode cX1_tellLoaf 18 = .ok (.iload_n 2, 1) := by decide +kernel
theorem dX1_tellLoaf_19 : decode cX1_tellLoaf 19 = .ok (.bipush 7, 2) := by decide +kernel
theorem dX1_tellLoaf_21 : decode cX1_tellLoaf 21 = .ok (.if_icmp .ge 83, 3) := by decide +kernel
theorem dX1_tellLoaf_24 : decode cX1_tellLoaf 24 = .ok (.iload_n 3, 1) := by decide +kernel
theorem dX1_tellLoaf_25 : decode cX1_tellLoaf 25 = .ok (.ifCond .lt 79, 3) := by decide +kernel
theorem dX1_tellLoaf_28 : decode cX1_tellLoaf 28 = .ok (.iload_n 3, 1) := by decide +kernel
theorem dX1_tellLoaf_29 : decode cX1_tellLoaf 29 = .ok (.bipush 7, 2) := by decide +kernel
theorem dX1_tellLoaf_31 : decode cX1_tellLoaf 31 = .ok (.if_icmp .ge 73, 3) := by decide +kernel
theorem dX1_tellLoaf_34 : decode cX1_tellLoaf 34 = .ok (.aload_n 0, 1) := by decide +kernel
theorem dX1_tellLoaf_35 : decode cX1_tellLoaf 35 = .ok (.getfield 21, 3) := by decide +kernel
theorem dX1_tellLoaf_38 : decode cX1_tellLoaf 38 = .ok (.getfield 122, 3) := by decide +kernel
theorem dX1_tellLoaf_41 : decode cX1_tellLoaf 41 = .ok (.iconst 2, 1) := by decide +kernel
theorem dX1_tellLoaf_42 : decode cX1_tellLoaf 42 = .ok (.aload_n 1, 1) := by decide +kernel
theorem dX1_tellLoaf_43 : decode cX1_tellLoaf 43 = .ok (.getfield 79, 3) := by decide +kernel
theorem dX1_tellLoaf_46 : decode cX1_tellLoaf 46 = .ok (.iload_n 2, 1) := by decide +kernel
theorem dX1_tellLoaf_47 : decode cX1_tellLoaf 47 = .ok (.iaload, 1) := by decide +kernel
theorem dX1_tellLoaf_48 : decode cX1_tellLoaf 48 = .ok (.iastore, 1) := by decide +kernel
theorem dX1_tellLoaf_49 : decode cX1_tellLoaf 49 = .ok (.aload_n 0, 1) := by decide +kernel
theorem dX1_tellLoaf_50 : decode cX1_tellLoaf 50 = .ok (.getfield 21, 3) := by decide +kernel
theorem dX1_tellLoaf_53 : decode cX1_tellLoaf 53 = .ok (.getfield 122, 3) := by decide +kernel
theorem dX1_tellLoaf_56 : decode cX1_tellLoaf 56 = .ok (.iconst 3, 1) := by decide +kernel
theorem dX1_tellLoaf_57 : decode cX1_tellLoaf 57 = .ok (.aload_n 0, 1) := by decide +kernel
theorem dX1_tellLoaf_58 : decode cX1_tellLoaf 58 = .ok (.getfield 12, 3) := by decide +kernel
theorem dX1_tellLoaf_61 : decode cX1_tellLoaf 61 = .ok (.getfield 130, 3) := by decide +kernel
theorem dX1_tellLoaf_64 : decode cX1_tellLoaf 64 = .ok (.iload_n 2, 1) := by decide +kernel
theorem dX1_tellLoaf_65 : decode cX1_tellLoaf 65 = .ok (.iaload, 1) := by decide +kernel
theorem dX1_tellLoaf_66 : decode cX1_tellLoaf 66 = .ok (.iastore, 1) := by decide +kernel
theorem dX1_tellLoaf_67 : decode cX1_tellLoaf 67 = .ok (.aload_n 0, 1) := by decide +kernel
theorem dX1_tellLoaf_68 : decode cX1_tellLoaf 68 = .ok (.getfield 21, 3) := by decide +kernel
theorem dX1_tellLoaf_71 : decode cX1_tellLoaf 71 = .ok (.getfield 122, 3) := by decide +kernel
theorem dX1_tellLoaf_74 : decode cX1_tellLoaf 74 = .ok (.bipush 14, 2) := by decide +kernel
theorem dX1_tellLoaf_76 : decode cX1_tellLoaf 76 = .ok (.aload_n 1, 1) := by decide +kernel
theorem dX1_tellLoaf_77 : decode cX1_tellLoaf 77 = .ok (.getfield 63, 3) := by decide +kernel
theorem dX1_tellLoaf_80 : decode cX1_tellLoaf 80 = .ok (.iload_n 3, 1) := by decide +kernel
theorem dX1_tellLoaf_81 : decode cX1_tellLoaf 81 = .ok (.iaload, 1) := by decide +kernel
theorem dX1_tellLoaf_82 : decode cX1_tellLoaf 82 = .ok (.iastore, 1) := by decide +kernel
theorem dX1_tellLoaf_83 : decode cX1_tellLoaf 83 = .ok (.aload_n 0, 1) := by decide +kernel
theorem dX1_tellLoaf_84 : decode cX1_tellLoaf 84 = .ok (.getfield 21, 3) := by decide +kernel
theorem dX1_tellLoaf_87 : decode cX1_tellLoaf 87 = .ok (.getfield 122, 3) := by decide +kernel
theorem dX1_tellLoaf_90 : decode cX1_tellLoaf 90 = .ok (.bipush 6, 2) := by decide +kernel
theorem dX1_tellLoaf_92 : decode cX1_tellLoaf 92 = .ok (.aload_n 1, 1) := by decide +kernel
theorem dX1_tellLoaf_93 : decode cX1_tellLoaf 93 = .ok (.getfield 106, 3) := by decide +kernel
theorem dX1_tellLoaf_96 : decode cX1_tellLoaf 96 = .ok (.bipush 8, 2) := by decide +kernel
theorem dX1_tellLoaf_98 : decode cX1_tellLoaf 98 = .ok (.iload_n 3, 1) := by decide +kernel
theorem dX1_tellLoaf_99 : decode cX1_tellLoaf 99 = .ok (.imul, 1) := by decide +kernel
theorem dX1_tellLoaf_100 : decode cX1_tellLoaf 100 = .ok (.iload_n 2, 1) := by decide +kernel
theorem dX1_tellLoaf_101 : decode cX1_tellLoaf 101 = .ok (.iadd, 1) := by decide +kernel
theorem dX1_tellLoaf_102 : decode cX1_tellLoaf 102 = .ok (.iaload, 1) := by decide +kernel
theorem dX1_tellLoaf_103 : decode cX1_tellLoaf 103 = .ok (.iastore, 1) := by decide +kernel
theorem dX1_tellLoaf_104 : decode cX1_tellLoaf 104 = .ok (.return_, 1) := by decide +kernel
theorem dX1_tellHouse_0 : decode cX1_tellHouse 0 = .ok (.aload_n 0, 1) := by decide +kernel
theorem dX1_tellHouse_1 : decode cX1_tellHouse 1 = .ok (.getfield 21, 3) := by decide +kernel
theorem dX1_tellHouse_4 : decode cX1_tellHouse 4 = .ok (.getfield 122, 3) := by decide +kernel
theorem dX1_tellHouse_7 : decode cX1_tellHouse 7 = .ok (.bipush 13, 2) := by decide +kernel
theorem dX1_tellHouse_9 : decode cX1_tellHouse 9 = .ok (.aload_n 1, 1) := by decide +kernel
theorem dX1_tellHouse_10 : decode cX1_tellHouse 10 = .ok (.getfield 46, 3) := by decide +kernel
theorem dX1_tellHouse_13 : decode cX1_tellHouse 13 = .ok (.iastore, 1) := by decide +kernel
theorem dX1_tellHouse_14 : decode cX1_tellHouse 14 = .ok (.iload_n 2, 1) := by decide +kernel
theorem dX1_tellHouse_15 : decode cX1_tellHouse 15 = .ok (.ifCond .lt 58, 3) := by decide +kernel
theorem dX1_tellHouse_18 : decode cX1_tellHouse 18 = .ok (.iload_n 2, 1) := by decide +kernel
theorem dX1_tellHouse_19 : decode cX1_tellHouse 19 = .ok (.bipush 7, 2) := by decide +kernel
theorem dX1_tellHouse_21 : decode cX1_tellHouse 21 = .ok (.if_icmp .ge 52, 3) := by decide +kernel
theorem dX1_tellHouse_24 : decode cX1_tellHouse 24 = .ok (.aload_n 0, 1) := by decide +kernel
theorem dX1_tellHouse_25 : decode cX1_tellHouse 25 = .ok (.getfield 21, 3) := by decide +kernel
theorem dX1_tellHouse_28 : decode cX1_tellHouse 28 = .ok (.getfield 122, 3) := by decide +kernel
theorem dX1_tellHouse_31 : decode cX1_tellHouse 31 = .ok (.iconst 2, 1) := by decide +kernel
theorem dX1_tellHouse_32 : decode cX1_tellHouse 32 = .ok (.aload_n 1, 1) := by decide +kernel
theorem dX1_tellHouse_33 : decode cX1_tellHouse 33 = .ok (.getfield 79, 3) := by decide +kernel
theorem dX1_tellHouse_36 : decode cX1_tellHouse 36 = .ok (.iload_n 2, 1) := by decide +kernel
theorem dX1_tellHouse_37 : decode cX1_tellHouse 37 = .ok (.iaload, 1) := by decide +kernel
theorem dX1_tellHouse_38 : decode cX1_tellHouse 38 = .ok (.iastore, 1) := by decide +kernel
theorem dX1_tellHouse_39 : decode cX1_tellHouse 39 = .ok (.aload_n 0, 1) := by decide +kernel
theorem dX1_tellHouse_40 : decode cX1_tellHouse 40 = .ok (.getfield 21, 3) := by decide +kernel
theorem dX1_tellHouse_43 : decode cX1_tellHouse 43 = .ok (.getfield 122, 3) := by decide +kernel
theorem dX1_tellHouse_46 : decode cX1_tellHouse 46 = .ok (.iconst 3, 1) := by decide +kernel
theorem dX1_tellHouse_47 : decode cX1_tellHouse 47 = .ok (.aload_n 0, 1) := by decide +kernel
theorem dX1_tellHouse_48 : decode cX1_tellHouse 48 = .ok (.getfield 12, 3) := by decide +kernel
theorem dX1_tellHouse_51 : decode cX1_tellHouse 51 = .ok (.getfield 130, 3) := by decide +kernel
theorem dX1_tellHouse_54 : decode cX1_tellHouse 54 = .ok (.iload_n 2, 1) := by decide +kernel
theorem dX1_tellHouse_55 : decode cX1_tellHouse 55 = .ok (.iaload, 1) := by decide +kernel
theorem dX1_tellHouse_56 : decode cX1_tellHouse 56 = .ok (.iastore, 1) := by decide +kernel
theorem dX1_tellHouse_57 : decode cX1_tellHouse 57 = .ok (.aload_n 0, 1) := by decide +kernel
theorem dX1_tellHouse_58 : decode cX1_tellHouse 58 = .ok (.getfield 21, 3) := by decide +kernel
theorem dX1_tellHouse_61 : decode cX1_tellHouse 61 = .ok (.getfield 122, 3) := by decide +kernel
theorem dX1_tellHouse_64 : decode cX1_tellHouse 64 = .ok (.bipush 14, 2) := by decide +kernel
theorem dX1_tellHouse_66 : decode cX1_tellHouse 66 = .ok (.aload_n 1, 1) := by decide +kernel
theorem dX1_tellHouse_67 : decode cX1_tellHouse 67 = .ok (.getfield 63, 3) := by decide +kernel
theorem dX1_tellHouse_70 : decode cX1_tellHouse 70 = .ok (.iload_n 2, 1) := by decide +kernel
theorem dX1_tellHouse_71 : decode cX1_tellHouse 71 = .ok (.iaload, 1) := by decide +kernel
theorem dX1_tellHouse_72 : decode cX1_tellHouse 72 = .ok (.iastore, 1) := by decide +kernel
theorem dX1_tellHouse_73 : decode cX1_tellHouse 73 = .ok (.return_, 1) := by decide +kernel
theorem dX1_bounded_0 : decode cX1_bounded 0 = .ok (.iload_n 0, 1) := by decide +kernel
theorem dX1_bounded_1 : decode cX1_bounded 1 = .ok (.ifCond .ge 7, 3) := by decide +kernel
theorem dX1_bounded_4 : decode cX1_bounded 4 = .ok (.iconst 0, 1) := by decide +kernel
theorem dX1_bounded_5 : decode cX1_bounded 5 = .ok (.goto 15, 3) := by decide +kernel
theorem dX1_bounded_8 : decode cX1_bounded 8 = .ok (.iload_n 0, 1) := by decide +kernel
theorem dX1_bounded_9 : decode cX1_bounded 9 = .ok (.bipush 99, 2) := by decide +kernel
theorem dX1_bounded_11 : decode cX1_bounded 11 = .ok (.if_icmp .le 8, 3) := by decide +kernel
theorem dX1_bounded_14 : decode cX1_bounded 14 = .ok (.bipush 99, 2) := by decide +kernel
theorem dX1_bounded_16 : decode cX1_bounded 16 = .ok (.goto 4, 3) := by decide +kernel
theorem dX1_bounded_19 : decode cX1_bounded 19 = .ok (.iload_n 0, 1) := by decide +kernel
theorem dX1_bounded_20 : decode cX1_bounded 20 = .ok (.ireturn, 1) := by decide +kernel
theorem dX2_init_0 : decode cX2_init 0 = .ok (.aload_n 0, 1) := by decide +kernel
theorem dX2_init_1 : decode cX2_init 1 = .ok (.invokespecial 7, 3) := by decide +kernel
theorem dX2_init_4 : decode cX2_init 4 = .ok (.aload_n 0, 1) := by decide +kernel
theorem dX2_init_5 : decode cX2_init 5 = .ok (.new 1, 3) := by decide +kernel
theorem dX2_init_8 : decode cX2_init 8 = .ok (.dup, 1) := by decide +kernel
theorem dX2_init_9 : decode cX2_init 9 = .ok (.invokespecial 13, 3) := by decide +kernel
theorem dX2_init_12 : decode cX2_init 12 = .ok (.putfield 14, 3) := by decide +kernel
theorem dX2_init_15 : decode cX2_init 15 = .ok (.aload_n 0, 1) := by decide +kernel
theorem dX2_init_16 : decode cX2_init 16 = .ok (.new 18, 3) := by decide +kernel
theorem dX2_init_19 : decode cX2_init 19 = .ok (.dup, 1) := by decide +kernel
theorem dX2_init_20 : decode cX2_init 20 = .ok (.invokespecial 20, 3) := by decide +kernel
theorem dX2_init_23 : decode cX2_init 23 = .ok (.putfield 21, 3) := by decide +kernel
theorem dX2_init_26 : decode cX2_init 26 = .ok (.return_, 1) := by decide +kernel
theorem dX2_exchange_0 : decode cX2_exchange 0 = .ok (.aload_n 0, 1) := by decide +kernel
theorem dX2_exchange_1 : decode cX2_exchange 1 = .ok (.getfield 21, 3) := by decide +kernel
theorem dX2_exchange_4 : decode cX2_exchange 4 = .ok (.astore_n 2, 1) := by decide +kernel
theorem dX2_exchange_5 : decode cX2_exchange 5 = .ok (.aload_n 0, 1) := by decide +kernel
theorem dX2_exchange_6 : decode cX2_exchange 6 = .ok (.aload_n 1, 1) := by decide +kernel
theorem dX2_exchange_7 : decode cX2_exchange 7 = .ok (.putfield 21, 3) := by decide +kernel
theorem dX2_exchange_10 : decode cX2_exchange 10 = .ok (.aload_n 2, 1) := by decide +kernel
theorem dX2_exchange_11 : decode cX2_exchange 11 = .ok (.areturn, 1) := by decide +kernel
theorem dX2_read_0 : decode cX2_read 0 = .ok (.aload_n 0, 1) := by decide +kernel
theorem dX2_read_1 : decode cX2_read 1 = .ok (.iconst 0, 1) := by decide +kernel
theorem dX2_read_2 : decode cX2_read 2 = .ok (.putfield 25, 3) := by decide +kernel
theorem dX2_read_5 : decode cX2_read 5 = .ok (.aload_n 0, 1) := by decide +kernel
theorem dX2_read_6 : decode cX2_read 6 = .ok (.getfield 14, 3) := by decide +kernel
theorem dX2_read_9 : decode cX2_read 9 = .ok (.aload_n 1, 1) := by decide +kernel
theorem dX2_read_10 : decode cX2_read 10 = .ok (.iload_n 2, 1) := by decide +kernel
theorem dX2_read_11 : decode cX2_read 11 = .ok (.aload_n 0, 1) := by decide +kernel
theorem dX2_read_12 : decode cX2_read 12 = .ok (.getfield 21, 3) := by decide +kernel
theorem dX2_read_15 : decode cX2_read 15 = .ok (.getfield 29, 3) := by decide +kernel
theorem dX2_read_18 : decode cX2_read 18 = .ok (.aload_n 0, 1) := by decide +kernel
theorem dX2_read_19 : decode cX2_read 19 = .ok (.getfield 21, 3) := by decide +kernel
theorem dX2_read_22 : decode cX2_read 22 = .ok (.invokevirtual 33, 3) := by decide +kernel
theorem dX2_read_25 : decode cX2_read 25 = .ok (.invokevirtual 37, 3) := by decide +kernel
theorem dX2_read_28 : decode cX2_read 28 = .ok (.iconst 0, 1) := by decide +kernel
theorem dX2_read_29 : decode cX2_read 29 = .ok (.istore_n 3, 1) := by decide +kernel
theorem dX2_read_30 : decode cX2_read 30 = .ok (.iload_n 3, 1) := by decide +kernel
theorem dX2_read_31 : decode cX2_read 31 = .ok (.bipush 60, 2) := by decide +kernel
theorem dX2_read_33 : decode cX2_read 33 = .ok (.if_icmp .gt 257, 3) := by decide +kernel
theorem dX2_read_36 : decode cX2_read 36 = .ok (.aload_n 0, 1) := by decide +kernel
theorem dX2_read_37 : decode cX2_read 37 = .ok (.getfield 14, 3) := by decide +kernel
theorem dX2_read_40 : decode cX2_read 40 = .ok (.getfield 41, 3) := by decide +kernel
theorem dX2_read_43 : decode cX2_read 43 = .ok (.ifCond .ne 247, 3) := by decide +kernel
theorem dX2_read_46 : decode cX2_read 46 = .ok (.aload_n 0, 1) := by decide +kernel
theorem dX2_read_47 : decode cX2_read 47 = .ok (.getfield 14, 3) := by decide +kernel
theorem dX2_read_50 : decode cX2_read 50 = .ok (.getfield 44, 3) := by decide +kernel
theorem dX2_read_53 : decode cX2_read 53 = .ok (.ifCond .eq 237, 3) := by decide +kernel
theorem dX2_read_56 : decode cX2_read 56 = .ok (.aload_n 0, 1) := by decide +kernel
theorem dX2_read_57 : decode cX2_read 57 = .ok (.getfield 14, 3) := by decide +kernel
theorem dX2_read_60 : decode cX2_read 60 = .ok (.getfield 47, 3) := by decide +kernel
theorem dX2_read_63 : decode cX2_read 63 = .ok (.istore 4, 2) := by decide +kernel
theorem dX2_read_65 : decode cX2_read 65 = .ok (.iload_n 3, 1) := by decide +kernel
theorem dX2_read_66 : decode cX2_read 66 = .ok (.bipush 60, 2) := by decide +kernel
theorem dX2_read_68 : decode cX2_read 68 = .ok (.if_icmp .ne 21, 3) := by decide +kernel
theorem dX2_read_71 : decode cX2_read 71 = .ok (.aload_n 0, 1) := by decide +kernel
theorem dX2_read_72 : decode cX2_read 72 = .ok (.getfield 14, 3) := by decide +kernel
theorem dX2_read_75 : decode cX2_read 75 = .ok (.iconst 5, 1) := by decide +kernel
theorem dX2_read_76 : decode cX2_read 76 = .ok (.aload_n 0, 1) := by decide +kernel
theorem dX2_read_77 : decode cX2_read 77 = .ok (.getfield 14, 3) := by decide +kernel
theorem dX2_read_80 : decode cX2_read 80 = .ok (.getfield 50, 3) := by decide +kernel
theorem dX2_read_83 : decode cX2_read 83 = .ok (.invokevirtual 53, 3) := by decide +kernel
theorem dX2_read_86 : decode cX2_read 86 = .ok (.goto 176, 3) := by decide +kernel
theorem dX2_read_89 : decode cX2_read 89 = .ok (.iload_n 3, 1) := by decide +kernel
theorem dX2_read_90 : decode cX2_read 90 = .ok (.ifCond .ne 7, 3) := by decide +kernel
theorem dX2_read_93 : decode cX2_read 93 = .ok (.iconst 1, 1) := by decide +kernel
theorem dX2_read_94 : decode cX2_read 94 = .ok (.goto 4, 3) := by decide +kernel
theorem dX2_read_97 : decode cX2_read 97 = .ok (.iconst 0, 1) := by decide +kernel
theorem dX2_read_98 : decode cX2_read 98 = .ok (.iload 4, 2) := by decide +kernel
theorem dX2_read_100 : decode cX2_read 100 = .ok (.ifCond .ne 7, 3) := by decide +kernel
theorem dX2_read_103 : decode cX2_read 103 = .ok (.iconst 1, 1) := by decide +kernel
theorem dX2_read_104 : decode cX2_read 104 = .ok (.goto 4, 3) := by decide +kernel
theorem dX2_read_107 : decode cX2_read 107 = .ok (.iconst 0, 1) := by decide +kernel
theorem dX2_read_108 : decode cX2_read 108 = .ok (.if_icmp .eq 21, 3) := by decide +kernel
theorem dX2_read_111 : decode cX2_read 111 = .ok (.aload_n 0, 1) := by decide +kernel
theorem dX2_read_112 : decode cX2_read 112 = .ok (.getfield 14, 3) := by decide +kernel
theorem dX2_read_115 : decode cX2_read 115 = .ok (.iconst 1, 1) := by decide +kernel
theorem dX2_read_116 : decode cX2_read 116 = .ok (.aload_n 0, 1) := by decide +kernel
theorem dX2_read_117 : decode cX2_read 117 = .ok (.getfield 14, 3) := by decide +kernel
theorem dX2_read_120 : decode cX2_read 120 = .ok (.getfield 50, 3) := by decide +kernel
theorem dX2_read_123 : decode cX2_read 123 = .ok (.invokevirtual 53, 3) := by decide +kernel
theorem dX2_read_126 : decode cX2_read 126 = .ok (.goto 136, 3) := by decide +kernel
theorem dX2_read_129 : decode cX2_read 129 = .ok (.iload 4, 2) := by decide +kernel
theorem dX2_read_131 : decode cX2_read 131 = .ok (.ifCond .ne 30, 3) := by decide +kernel
theorem dX2_read_134 : decode cX2_read 134 = .ok (.aload_n 0, 1) := by decide +kernel
theorem dX2_read_135 : decode cX2_read 135 = .ok (.getfield 14, 3) := by decide +kernel
theorem dX2_read_138 : decode cX2_read 138 = .ok (.invokevirtual 57, 3) := by decide +kernel
theorem dX2_read_141 : decode cX2_read 141 = .ok (.aload_n 0, 1) := by decide +kernel
theorem dX2_read_142 : decode cX2_read 142 = .ok (.getfield 21, 3) := by decide +kernel
theorem dX2_read_145 : decode cX2_read 145 = .ok (.aload_n 0, 1) := by decide +kernel
theorem dX2_read_146 : decode cX2_read 146 = .ok (.getfield 14, 3) := by decide +kernel
theorem dX2_read_149 : decode cX2_read 149 = .ok (.iconst 1, 1) := by decide +kernel
theorem dX2_read_150 : decode cX2_read 150 = .ok (.bipush 20, 2) := by decide +kernel
theorem dX2_read_152 : decode cX2_read 152 = .ok (.invokevirtual 60, 3) := by decide +kernel
theorem dX2_read_155 : decode cX2_read 155 = .ok (.putfield 64, 3) := by decide +kernel
theorem dX2_read_158 : decode cX2_read 158 = .ok (.goto 104, 3) := by decide +kernel
theorem dX2_read_161 : decode cX2_read 161 = .ok (.iload 4, 2) := by decide +kernel
theorem dX2_read_163 : decode cX2_read 163 = .ok (.iconst 1, 1) := by decide +kernel
theorem dX2_read_164 : decode cX2_read 164 = .ok (.if_icmp .ne 10, 3) := by decide +kernel
theorem dX2_read_167 : decode cX2_read 167 = .ok (.aload_n 0, 1) := by decide +kernel
theorem dX2_read_168 : decode cX2_read 168 = .ok (.invokevirtual 67, 3) := by decide +kernel
theorem dX2_read_171 : decode cX2_read 171 = .ok (.goto 91, 3) := by decide +kernel
theorem dX2_read_174 : decode cX2_read 174 = .ok (.iload 4, 2) := by decide +kernel
theorem dX2_read_176 : decode cX2_read 176 = .ok (.iconst 4, 1) := by decide +kernel
theorem dX2_read_177 : decode cX2_read 177 = .ok (.if_icmp .ne 10, 3) := by decide +kernel
theorem dX2_read_180 : decode cX2_read 180 = .ok (.aload_n 0, 1) := by decide +kernel
theorem dX2_read_181 : decode cX2_read 181 = .ok (.invokevirtual 70, 3) := by decide +kernel
theorem dX2_read_184 : decode cX2_read 184 = .ok (.goto 78, 3) := by decide +kernel
theorem dX2_read_187 : decode cX2_read 187 = .ok (.iload 4, 2) := by decide +kernel
theorem dX2_read_189 : decode cX2_read 189 = .ok (.bipush 7, 2) := by decide +kernel
theorem dX2_read_191 : decode cX2_read 191 = .ok (.if_icmp .lt 22, 3) := by decide +kernel
theorem dX2_read_194 : decode cX2_read 194 = .ok (.iload 4, 2) := by decide +kernel
theorem dX2_read_196 : decode cX2_read 196 = .ok (.bipush 11, 2) := by decide +kernel
theorem dX2_read_198 : decode cX2_read 198 = .ok (.if_icmp .gt 15, 3) := by decide +kernel
theorem dX2_read_201 : decode cX2_read 201 = .ok (.aload_n 0, 1) := by decide +kernel
theorem dX2_read_202 : decode cX2_read 202 = .ok (.iload 4, 2) := by decide +kernel
theorem dX2_read_204 : decode cX2_read 204 = .ok (.bipush 7, 2) := by decide +kernel
theorem dX2_read_206 : decode cX2_read 206 = .ok (.isub, 1) := by decide +kernel
theorem dX2_read_207 : decode cX2_read 207 = .ok (.invokevirtual 73, 3) := by decide +kernel
theorem dX2_read_210 : decode cX2_read 210 = .ok (.goto 52, 3) := by decide +kernel
theorem dX2_read_213 : decode cX2_read 213 = .ok (.iload 4, 2) := by decide +kernel
theorem dX2_read_215 : decode cX2_read 215 = .ok (.bipush 12, 2) := by decide +kernel
theorem dX2_read_217 : decode cX2_read 217 = .ok (.if_icmp .ne 30, 3) := by decide +kernel
theorem dX2_read_220 : decode cX2_read 220 = .ok (.aload_n 0, 1) := by decide +kernel
theorem dX2_read_221 : decode cX2_read 221 = .ok (.getfield 14, 3) := by decide +kernel
theorem dX2_read_224 : decode cX2_read 224 = .ok (.invokevirtual 57, 3) := by decide +kernel
theorem dX2_read_227 : decode cX2_read 227 = .ok (.aload_n 0, 1) := by decide +kernel
theorem dX2_read_228 : decode cX2_read 228 = .ok (.getfield 21, 3) := by decide +kernel
theorem dX2_read_231 : decode cX2_read 231 = .ok (.aload_n 0, 1) := by decide +kernel
theorem dX2_read_232 : decode cX2_read 232 = .ok (.getfield 14, 3) := by decide +kernel
theorem dX2_read_235 : decode cX2_read 235 = .ok (.iconst 0, 1) := by decide +kernel
theorem dX2_read_236 : decode cX2_read 236 = .ok (.bipush 100, 2) := by decide +kernel
theorem dX2_read_238 : decode cX2_read 238 = .ok (.invokevirtual 60, 3) := by decide +kernel
theorem dX2_read_241 : decode cX2_read 241 = .ok (.putfield 77, 3) := by decide +kernel
theorem dX2_read_244 : decode cX2_read 244 = .ok (.goto 18, 3) := by decide +kernel
theorem dX2_read_247 : decode cX2_read 247 = .ok (.aload_n 0, 1) := by decide +kernel
theorem dX2_read_248 : decode cX2_read 248 = .ok (.getfield 14, 3) := by decide +kernel
theorem dX2_read_251 : decode cX2_read 251 = .ok (.iconst 1, 1) := by decide +kernel
theorem dX2_read_252 : decode cX2_read 252 = .ok (.aload_n 0, 1) := by decide +kernel
theorem dX2_read_253 : decode cX2_read 253 = .ok (.getfield 14, 3) := by decide +kernel
theorem dX2_read_256 : decode cX2_read 256 = .ok (.getfield 50, 3) := by decide +kernel
theorem dX2_read_259 : decode cX2_read 259 = .ok (.invokevirtual 53, 3) := by decide +kernel
theorem dX2_read_262 : decode cX2_read 262 = .ok (.aload_n 0, 1) := by decide +kernel
theorem dX2_read_263 : decode cX2_read 263 = .ok (.getfield 14, 3) := by decide +kernel
theorem dX2_read_266 : decode cX2_read 266 = .ok (.bipush 59, 2) := by decide +kernel
theorem dX2_read_268 : decode cX2_read 268 = .ok (.invokevirtual 80, 3) := by decide +kernel
theorem dX2_read_271 : decode cX2_read 271 = .ok (.aload_n 0, 1) := by decide +kernel
theorem dX2_read_272 : decode cX2_read 272 = .ok (.getfield 21, 3) := by decide +kernel
theorem dX2_read_275 : decode cX2_read 275 = .ok (.dup, 1) := by decide +kernel
theorem dX2_read_276 : decode cX2_read 276 = .ok (.getfield 84, 3) := by decide +kernel
theorem dX2_read_279 : decode cX2_read 279 = .ok (.iconst 1, 1) := by decide +kernel
theorem dX2_read_280 : decode cX2_read 280 = .ok (.iadd, 1) := by decide +kernel
theorem dX2_read_281 : decode cX2_read 281 = .ok (.putfield 84, 3) := by decide +kernel
theorem dX2_read_284 : decode cX2_read 284 = .ok (.iinc 3 1, 3) := by decide +kernel
theorem dX2_read_287 : decode cX2_read 287 = .ok (.goto (-257), 3) := by decide +kernel
theorem dX2_read_290 : decode cX2_read 290 = .ok (.aload_n 0, 1) := by decide +kernel
theorem dX2_read_291 : decode cX2_read 291 = .ok (.getfield 21, 3) := by decide +kernel
theorem dX2_read_294 : decode cX2_read 294 = .ok (.getfield 84, 3) := by decide +kernel
theorem dX2_read_297 : decode cX2_read 297 = .ok (.ifCond .ne 18, 3) := by decide +kernel
theorem dX2_read_300 : decode cX2_read 300 = .ok (.aload_n 0, 1) := by decide +kernel
theorem dX2_read_301 : decode cX2_read 301 = .ok (.getfield 14, 3) := by decide +kernel
theorem dX2_read_304 : decode cX2_read 304 = .ok (.iconst 1, 1) := by decide +kernel
theorem dX2_read_305 : decode cX2_read 305 = .ok (.aload_n 0, 1) := by decide +kernel
theorem dX2_read_306 : decode cX2_read 306 = .ok (.getfield 14, 3) := by decide +kernel
theorem dX2_read_309 : decode cX2_read 309 = .ok (.getfield 87, 3) := by decide +kernel
theorem dX2_read_312 : decode cX2_read 312 = .ok (.invokevirtual 53, 3) := by decide +kernel
theorem dX2_read_315 : decode cX2_read 315 = .ok (.return_, 1) := by decide +kernel
theorem dX2_readHouse_0 : decode cX2_readHouse 0 = .ok (.aload_n 0, 1) := by decide +kernel
theorem dX2_readHouse_1 : decode cX2_readHouse 1 = .ok (.getfield 21, 3) := by decide +kernel
theorem dX2_readHouse_4 : decode cX2_readHouse 4 = .ok (.getfield 90, 3) := by decide +kernel
theorem dX2_readHouse_7 : decode cX2_readHouse 7 = .ok (.bipush 7, 2) := by decide +kernel
theorem dX2_readHouse_9 : decode cX2_readHouse 9 = .ok (.if_icmp .lt 19, 3) := by decide +kernel
theorem dX2_readHouse_12 : decode cX2_readHouse 12 = .ok (.aload_n 0, 1) := by decide +kernel
theorem dX2_readHouse_13 : decode cX2_readHouse 13 = .ok (.getfield 14, 3) := by decide +kernel
theorem dX2_readHouse_16 : decode cX2_readHouse 16 = .ok (.iconst 5, 1) := by decide +kernel
theorem dX2_readHouse_17 : decode cX2_readHouse 17 = .ok (.aload_n 0, 1) := by decide +kernel
theorem dX2_readHouse_18 : decode cX2_readHouse 18 = .ok (.getfield 14, 3) := by decide +kernel
theorem dX2_readHouse_21 : decode cX2_readHouse 21 = .ok (.getfield 50, 3) := by decide +kernel
theorem dX2_readHouse_24 : decode cX2_readHouse 24 = .ok (.invokevirtual 53, 3) := by decide +kernel
theorem dX2_readHouse_27 : decode cX2_readHouse 27 = .ok (.return_, 1) := by decide +kernel
theorem dX2_readHouse_28 : decode cX2_readHouse 28 = .ok (.aload_n 0, 1) := by decide +kernel
theorem dX2_readHouse_29 : decode cX2_readHouse 29 = .ok (.getfield 14, 3) := by decide +kernel
theorem dX2_readHouse_32 : decode cX2_readHouse 32 = .ok (.invokevirtual 57, 3) := by decide +kernel
theorem dX2_readHouse_35 : decode cX2_readHouse 35 = .ok (.aload_n 0, 1) := by decide +kernel
theorem dX2_readHouse_36 : decode cX2_readHouse 36 = .ok (.getfield 14, 3) := by decide +kernel
theorem dX2_readHouse_39 : decode cX2_readHouse 39 = .ok (.invokevirtual 93, 3) := by decide +kernel
theorem dX2_readHouse_42 : decode cX2_readHouse 42 = .ok (.ifCond .ne 4, 3) := by decide +kernel
theorem dX2_readHouse_45 : decode cX2_readHouse 45 = .ok (.return_, 1) := by decide +kernel
theorem dX2_readHouse_46 : decode cX2_readHouse 46 = .ok (.aload_n 0, 1) := by decide +kernel
theorem dX2_readHouse_47 : decode cX2_readHouse 47 = .ok (.getfield 21, 3) := by decide +kernel
theorem dX2_readHouse_50 : decode cX2_readHouse 50 = .ok (.aload_n 0, 1) := by decide +kernel
theorem dX2_readHouse_51 : decode cX2_readHouse 51 = .ok (.getfield 14, 3) := by decide +kernel
theorem dX2_readHouse_54 : decode cX2_readHouse 54 = .ok (.getfield 97, 3) := by decide +kernel
theorem dX2_readHouse_57 : decode cX2_readHouse 57 = .ok (.aload_n 0, 1) := by decide +kernel
theorem dX2_readHouse_58 : decode cX2_readHouse 58 = .ok (.getfield 14, 3) := by decide +kernel
theorem dX2_readHouse_61 : decode cX2_readHouse 61 = .ok (.getfield 50, 3) := by decide +kernel
theorem dX2_readHouse_64 : decode cX2_readHouse 64 = .ok (.aload_n 0, 1) := by decide +kernel
theorem dX2_readHouse_65 : decode cX2_readHouse 65 = .ok (.getfield 14, 3) := by decide +kernel
theorem dX2_readHouse_68 : decode cX2_readHouse 68 = .ok (.getfield 100, 3) := by decide +kernel
theorem dX2_readHouse_71 : decode cX2_readHouse 71 = .ok (.invokevirtual 103, 3) := by decide +kernel
theorem dX2_readHouse_74 : decode cX2_readHouse 74 = .ok (.iconst (-1), 1) := by decide +kernel
theorem dX2_readHouse_75 : decode cX2_readHouse 75 = .ok (.if_icmp .eq 19, 3) := by decide +kernel
theorem dX2_readHouse_78 : decode cX2_readHouse 78 = .ok (.aload_n 0, 1) := by decide +kernel
theorem dX2_readHouse_79 : decode cX2_readHouse 79 = .ok (.getfield 14, 3) := by decide +kernel
theorem dX2_readHouse_82 : decode cX2_readHouse 82 = .ok (.iconst 3, 1) := by decide +kernel
theorem dX2_readHouse_83 : decode cX2_readHouse 83 = .ok (.aload_n 0, 1) := by decide +kernel
theorem dX2_readHouse_84 : decode cX2_readHouse 84 = .ok (.getfield 14, 3) := by decide +kernel
theorem dX2_readHouse_87 : decode cX2_readHouse 87 = .ok (.getfield 50, 3) := by decide +kernel
theorem dX2_readHouse_90 : decode cX2_readHouse 90 = .ok (.invokevirtual 53, 3) := by decide +kernel
theorem dX2_readHouse_93 : decode cX2_readHouse 93 = .ok (.return_, 1) := by decide +kernel
theorem dX2_readHouse_94 : decode cX2_readHouse 94 = .ok (.aload_n 0, 1) := by decide +kernel
theorem dX2_readHouse_95 : decode cX2_readHouse 95 = .ok (.getfield 21, 3) := by decide +kernel
theorem dX2_readHouse_98 : decode cX2_readHouse 98 = .ok (.aload_n 0, 1) := by decide +kernel
theorem dX2_readHouse_99 : decode cX2_readHouse 99 = .ok (.getfield 14, 3) := by decide +kernel
theorem dX2_readHouse_102 : decode cX2_readHouse 102 = .ok (.getfield 97, 3) := by decide +kernel
theorem dX2_readHouse_105 : decode cX2_readHouse 105 = .ok (.aload_n 0, 1) := by decide +kernel
theorem dX2_readHouse_106 : decode cX2_readHouse 106 = .ok (.getfield 14, 3) := by decide +kernel
theorem dX2_readHouse_109 : decode cX2_readHouse 109 = .ok (.getfield 50, 3) := by decide +kernel
theorem dX2_readHouse_112 : decode cX2_readHouse 112 = .ok (.aload_n 0, 1) := by decide +kernel
theorem dX2_readHouse_113 : decode cX2_readHouse 113 = .ok (.getfield 14, 3) := by decide +kernel
theorem dX2_readHouse_116 : decode cX2_readHouse 116 = .ok (.getfield 100, 3) := by decide +kernel
theorem dX2_readHouse_119 : decode cX2_readHouse 119 = .ok (.invokevirtual 107, 3) := by decide +kernel
theorem dX2_readHouse_122 : decode cX2_readHouse 122 = .ok (.aload_n 0, 1) := by decide +kernel
theorem dX2_readHouse_123 : decode cX2_readHouse 123 = .ok (.getfield 14, 3) := by decide +kernel
theorem dX2_readHouse_126 : decode cX2_readHouse 126 = .ok (.invokevirtual 57, 3) := by decide +kernel
theorem dX2_readHouse_129 : decode cX2_readHouse 129 = .ok (.aload_n 0, 1) := by decide +kernel
theorem dX2_readHouse_130 : decode cX2_readHouse 130 = .ok (.getfield 14, 3) := by decide +kernel
theorem dX2_readHouse_133 : decode cX2_readHouse 133 = .ok (.iconst 2, 1) := by decide +kernel
theorem dX2_readHouse_134 : decode cX2_readHouse 134 = .ok (.invokevirtual 111, 3) := by decide +kernel
theorem dX2_readHouse_137 : decode cX2_readHouse 137 = .ok (.aload_n 0, 1) := by decide +kernel
theorem dX2_readHouse_138 : decode cX2_readHouse 138 = .ok (.getfield 14, 3) := by decide +kernel
theorem dX2_readHouse_141 : decode cX2_readHouse 141 = .ok (.iconst 0, 1) := by decide +kernel
theorem dX2_readHouse_142 : decode cX2_readHouse 142 = .ok (.bipush 99, 2) := by decide +kernel
theorem dX2_readHouse_144 : decode cX2_readHouse 144 = .ok (.invokevirtual 60, 3) := by decide +kernel
theorem dX2_readHouse_147 : decode cX2_readHouse 147 = .ok (.istore_n 1, 1) := by decide +kernel
theorem dX2_readHouse_148 : decode cX2_readHouse 148 = .ok (.aload_n 0, 1) := by decide +kernel
theorem dX2_readHouse_149 : decode cX2_readHouse 149 = .ok (.getfield 14, 3) := by decide +kernel
theorem dX2_readHouse_152 : decode cX2_readHouse 152 = .ok (.iconst 3, 1) := by decide +kernel
theorem dX2_readHouse_153 : decode cX2_readHouse 153 = .ok (.invokevirtual 111, 3) := by decide +kernel
theorem dX2_readHouse_156 : decode cX2_readHouse 156 = .ok (.aload_n 0, 1) := by decide +kernel
theorem dX2_readHouse_157 : decode cX2_readHouse 157 = .ok (.getfield 14, 3) := by decide +kernel
theorem dX2_readHouse_160 : decode cX2_readHouse 160 = .ok (.iconst 0, 1) := by decide +kernel
theorem dX2_readHouse_161 : decode cX2_readHouse 161 = .ok (.bipush 9, 2) := by decide +kernel
theorem dX2_readHouse_163 : decode cX2_readHouse 163 = .ok (.invokevirtual 60, 3) := by decide +kernel
theorem dX2_readHouse_166 : decode cX2_readHouse 166 = .ok (.istore_n 2, 1) := by decide +kernel
theorem dX2_readHouse_167 : decode cX2_readHouse 167 = .ok (.aload_n 0, 1) := by decide +kernel
theorem dX2_readHouse_168 : decode cX2_readHouse 168 = .ok (.getfield 21, 3) := by decide +kernel
theorem dX2_readHouse_171 : decode cX2_readHouse 171 = .ok (.iload_n 1, 1) := by decide +kernel
theorem dX2_readHouse_172 : decode cX2_readHouse 172 = .ok (.iload_n 2, 1) := by decide +kernel
theorem dX2_readHouse_173 : decode cX2_readHouse 173 = .ok (.invokevirtual 114, 3) := by decide +kernel
theorem dX2_readHouse_176 : decode cX2_readHouse 176 = .ok (.return_, 1) := by decide +kernel
theorem dX2_readFeud_0 : decode cX2_readFeud 0 = .ok (.aload_n 0, 1) := by decide +kernel
theorem dX2_readFeud_1 : decode cX2_readFeud 1 = .ok (.getfield 14, 3) := by decide +kernel
theorem dX2_readFeud_4 : decode cX2_readFeud 4 = .ok (.invokevirtual 57, 3) := by decide +kernel
theorem dX2_readFeud_7 : decode cX2_readFeud 7 = .ok (.aload_n 0, 1) := by decide +kernel
theorem dX2_readFeud_8 : decode cX2_readFeud 8 = .ok (.iconst (-1), 1) := by decide +kernel
theorem dX2_readFeud_9 : decode cX2_readFeud 9 = .ok (.invokevirtual 117, 3) := by decide +kernel
theorem dX2_readFeud_12 : decode cX2_readFeud 12 = .ok (.istore_n 1, 1) := by decide +kernel
theorem dX2_readFeud_13 : decode cX2_readFeud 13 = .ok (.aload_n 0, 1) := by decide +kernel
theorem dX2_readFeud_14 : decode cX2_readFeud 14 = .ok (.getfield 14, 3) := by decide +kernel
theorem dX2_readFeud_17 : decode cX2_readFeud 17 = .ok (.iconst 5, 1) := by decide +kernel
theorem dX2_readFeud_18 : decode cX2_readFeud 18 = .ok (.invokevirtual 111, 3) := by decide +kernel
theorem dX2_readFeud_21 : decode cX2_readFeud 21 = .ok (.aload_n 0, 1) := by decide +kernel
theorem dX2_readFeud_22 : decode cX2_readFeud 22 = .ok (.iload_n 1, 1) := by decide +kernel
theorem dX2_readFeud_23 : decode cX2_readFeud 23 = .ok (.invokevirtual 117, 3) := by decide +kernel
theorem dX2_readFeud_26 : decode cX2_readFeud 26 = .ok (.istore_n 2, 1) := by decide +kernel
theorem dX2_readFeud_27 : decode cX2_readFeud 27 = .ok (.aload_n 0, 1) := by decide +kernel
theorem dX2_readFeud_28 : decode cX2_readFeud 28 = .ok (.getfield 14, 3) := by decide +kernel
theorem dX2_readFeud_31 : decode cX2_readFeud 31 = .ok (.bipush 6, 2) := by decide +kernel
theorem dX2_readFeud_33 : decode cX2_readFeud 33 = .ok (.invokevirtual 111, 3) := by decide +kernel
theorem dX2_readFeud_36 : decode cX2_readFeud 36 = .ok (.aload_n 0, 1) := by decide +kernel
theorem dX2_readFeud_37 : decode cX2_readFeud 37 = .ok (.getfield 14, 3) := by decide +kernel
theorem dX2_readFeud_40 : decode cX2_readFeud 40 = .ok (.iconst 1, 1) := by decide +kernel
theorem dX2_readFeud_41 : decode cX2_readFeud 41 = .ok (.bipush 99, 2) := by decide +kernel
theorem dX2_readFeud_43 : decode cX2_readFeud 43 = .ok (.invokevirtual 60, 3) := by decide +kernel
theorem dX2_readFeud_46 : decode cX2_readFeud 46 = .ok (.istore_n 3, 1) := by decide +kernel
theorem dX2_readFeud_47 : decode cX2_readFeud 47 = .ok (.aload_n 0, 1) := by decide +kernel
theorem dX2_readFeud_48 : decode cX2_readFeud 48 = .ok (.getfield 14, 3) := by decide +kernel
theorem dX2_readFeud_51 : decode cX2_readFeud 51 = .ok (.getfield 41, 3) := by decide +kernel
theorem dX2_readFeud_54 : decode cX2_readFeud 54 = .ok (.ifCond .ne 41, 3) := by decide +kernel
theorem dX2_readFeud_57 : decode cX2_readFeud 57 = .ok (.iload_n 1, 1) := by decide +kernel
theorem dX2_readFeud_58 : decode cX2_readFeud 58 = .ok (.ifCond .lt 37, 3) := by decide +kernel
theorem dX2_readFeud_61 : decode cX2_readFeud 61 = .ok (.iload_n 2, 1) := by decide +kernel
theorem dX2_readFeud_62 : decode cX2_readFeud 62 = .ok (.ifCond .lt 33, 3) := by decide +kernel
theorem dX2_readFeud_65 : decode cX2_readFeud 65 = .ok (.aload_n 0, 1) := by decide +kernel
theorem dX2_readFeud_66 : decode cX2_readFeud 66 = .ok (.getfield 21, 3) := by decide +kernel
theorem dX2_readFeud_69 : decode cX2_readFeud 69 = .ok (.getfield 121, 3) := by decide +kernel
theorem dX2_readFeud_72 : decode cX2_readFeud 72 = .ok (.bipush 8, 2) := by decide +kernel
theorem dX2_readFeud_74 : decode cX2_readFeud 74 = .ok (.iload_n 1, 1) := by decide +kernel
theorem dX2_readFeud_75 : decode cX2_readFeud 75 = .ok (.imul, 1) := by decide +kernel
theorem dX2_readFeud_76 : decode cX2_readFeud 76 = .ok (.iload_n 2, 1) := by decide +kernel
theorem dX2_readFeud_77 : decode cX2_readFeud 77 = .ok (.iadd, 1) := by decide +kernel
theorem dX2_readFeud_78 : decode cX2_readFeud 78 = .ok (.iload_n 3, 1) := by decide +kernel
theorem dX2_readFeud_79 : decode cX2_readFeud 79 = .ok (.iastore, 1) := by decide +kernel
theorem dX2_readFeud_80 : decode cX2_readFeud 80 = .ok (.aload_n 0, 1) := by decide +kernel
theorem dX2_readFeud_81 : decode cX2_readFeud 81 = .ok (.getfield 21, 3) := by decide +kernel
theorem dX2_readFeud_84 : decode cX2_readFeud 84 = .ok (.getfield 121, 3) := by decide +kernel
theorem dX2_readFeud_87 : decode cX2_readFeud 87 = .ok (.bipush 8, 2) := by decide +kernel
theorem dX2_readFeud_89 : decode cX2_readFeud 89 = .ok (.iload_n 2, 1) := by decide +kernel
theorem dX2_readFeud_90 : decode cX2_readFeud 90 = .ok (.imul, 1) := by decide +kernel
theorem dX2_readFeud_91 : decode cX2_readFeud 91 = .ok (.iload_n 1, 1) := by decide +kernel
theorem dX2_readFeud_92 : decode cX2_readFeud 92 = .ok (.iadd, 1) := by decide +kernel
theorem dX2_readFeud_93 : decode cX2_readFeud 93 = .ok (.iload_n 3, 1) := by decide +kernel
theorem dX2_readFeud_94 : decode cX2_readFeud 94 = .ok (.iastore, 1) := by decide +kernel
theorem dX2_readFeud_95 : decode cX2_readFeud 95 = .ok (.return_, 1) := by decide +kernel
theorem dX2_readKnownName_0 : decode cX2_readKnownName 0 = .ok (.aload_n 0, 1) := by decide +kernel
theorem dX2_readKnownName_1 : decode cX2_readKnownName 1 = .ok (.getfield 14, 3) := by decide +kernel
theorem dX2_readKnownName_4 : decode cX2_readKnownName 4 = .ok (.getfield 41, 3) := by decide +kernel
theorem dX2_readKnownName_7 : decode cX2_readKnownName 7 = .ok (.ifCond .ne 13, 3) := by decide +kernel
theorem dX2_readKnownName_10 : decode cX2_readKnownName 10 = .ok (.aload_n 0, 1) := by decide +kernel
theorem dX2_readKnownName_11 : decode cX2_readKnownName 11 = .ok (.getfield 14, 3) := by decide +kernel
theorem dX2_readKnownName_14 : decode cX2_readKnownName 14 = .ok (.invokevirtual 93, 3) := by decide +kernel
theorem dX2_readKnownName_17 : decode cX2_readKnownName 17 = .ok (.ifCond .ne 5, 3) := by decide +kernel
theorem dX2_readKnownName_20 : decode cX2_readKnownName 20 = .ok (.iconst (-1), 1) := by decide +kernel
theorem dX2_readKnownName_21 : decode cX2_readKnownName 21 = .ok (.ireturn, 1) := by decide +kernel
theorem dX2_readKnownName_22 : decode cX2_readKnownName 22 = .ok (.aload_n 0, 1) := by decide +kernel
theorem dX2_readKnownName_23 : decode cX2_readKnownName 23 = .ok (.getfield 21, 3) := by decide +kernel
theorem dX2_readKnownName_26 : decode cX2_readKnownName 26 = .ok (.aload_n 0, 1) := by decide +kernel
theorem dX2_readKnownName_27 : decode cX2_readKnownName 27 = .ok (.getfield 14, 3) := by decide +kernel
theorem dX2_readKnownName_30 : decode cX2_readKnownName 30 = .ok (.getfield 97, 3) := by decide +kernel
theorem dX2_readKnownName_33 : decode cX2_readKnownName 33 = .ok (.aload_n 0, 1) := by decide +kernel
theorem dX2_readKnownName_34 : decode cX2_readKnownName 34 = .ok (.getfield 14, 3) := by decide +kernel
theorem dX2_readKnownName_37 : decode cX2_readKnownName 37 = .ok (.getfield 50, 3) := by decide +kernel
theorem dX2_readKnownName_40 : decode cX2_readKnownName 40 = .ok (.aload_n 0, 1) := by decide +kernel
theorem dX2_readKnownName_41 : decode cX2_readKnownName 41 = .ok (.getfield 14, 3) := by decide +kernel
theorem dX2_readKnownName_44 : decode cX2_readKnownName 44 = .ok (.getfield 100, 3) := by decide +kernel
theorem dX2_readKnownName_47 : decode cX2_readKnownName 47 = .ok (.invokevirtual 103, 3) := by decide +kernel
theorem dX2_readKnownName_50 : decode cX2_readKnownName 50 = .ok (.istore_n 2, 1) := by decide +kernel
theorem dX2_readKnownName_51 : decode cX2_readKnownName 51 = .ok (.iload_n 2, 1) := by decide +kernel
theorem dX2_readKnownName_52 : decode cX2_readKnownName 52 = .ok (.iconst (-1), 1) := by decide +kernel
theorem dX2_readKnownName_53 : decode cX2_readKnownName 53 = .ok (.if_icmp .eq 29, 3) := by decide +kernel
theorem dX2_readKnownName_56 : decode cX2_readKnownName 56 = .ok (.iload_n 2, 1) := by decide +kernel
theorem dX2_readKnownName_57 : decode cX2_readKnownName 57 = .ok (.iload_n 1, 1) := by decide +kernel
theorem dX2_readKnownName_58 : decode cX2_readKnownName 58 = .ok (.if_icmp .eq 24, 3) := by decide +kernel
theorem dX2_readKnownName_61 : decode cX2_readKnownName 61 = .ok (.iload_n 1, 1) := by decide +kernel
theorem dX2_readKnownName_62 : decode cX2_readKnownName 62 = .ok (.ifCond .lt 37, 3) := by decide +kernel
theorem dX2_readKnownName_65 : decode cX2_readKnownName 65 = .ok (.aload_n 0, 1) := by decide +kernel
theorem dX2_readKnownName_66 : decode cX2_readKnownName 66 = .ok (.getfield 21, 3) := by decide +kernel
theorem dX2_readKnownName_69 : decode cX2_readKnownName 69 = .ok (.getfield 121, 3) := by decide +kernel
theorem dX2_readKnownName_72 : decode cX2_readKnownName 72 = .ok (.bipush 8, 2) := by decide +kernel
theorem dX2_readKnownName_74 : decode cX2_readKnownName 74 = .ok (.iload_n 1, 1) := by decide +kernel
theorem dX2_readKnownName_75 : decode cX2_readKnownName 75 = .ok (.imul, 1) := by decide +kernel
theorem dX2_readKnownName_76 : decode cX2_readKnownName 76 = .ok (.iload_n 2, 1) := by decide +kernel
theorem dX2_readKnownName_77 : decode cX2_readKnownName 77 = .ok (.iadd, 1) := by decide +kernel
theorem dX2_readKnownName_78 : decode cX2_readKnownName 78 = .ok (.iaload, 1) := by decide +kernel
theorem dX2_readKnownName_79 : decode cX2_readKnownName 79 = .ok (.ifCond .le 20, 3) := by decide +kernel
theorem dX2_readKnownName_82 : decode cX2_readKnownName 82 = .ok (.aload_n 0, 1) := by decide +kernel
theorem dX2_readKnownName_83 : decode cX2_readKnownName 83 = .ok (.getfield 14, 3) := by decide +kernel
theorem dX2_readKnownName_86 : decode cX2_readKnownName 86 = .ok (.iconst 3, 1) := by decide +kernel
theorem dX2_readKnownName_87 : decode cX2_readKnownName 87 = .ok (.aload_n 0, 1) := by decide +kernel
theorem dX2_readKnownName_88 : decode cX2_readKnownName 88 = .ok (.getfield 14, 3) := by decide +kernel
theorem dX2_readKnownName_91 : decode cX2_readKnownName 91 = .ok (.getfield 50, 3) := by decide +kernel
theorem dX2_readKnownName_94 : decode cX2_readKnownName 94 = .ok (.invokevirtual 53, 3) := by decide +kernel
theorem dX2_readKnownName_97 : decode cX2_readKnownName 97 = .ok (.iconst (-1), 1) := by decide +kernel
theorem dX2_readKnownName_98 : decode cX2_readKnownName 98 = .ok (.ireturn, 1) := by decide +kernel
theorem dX2_readKnownName_99 : decode cX2_readKnownName 99 = .ok (.aload_n 0, 1) := by decide +kernel
theorem dX2_readKnownName_100 : decode cX2_readKnownName 100 = .ok (.getfield 14, 3) := by decide +kernel
theorem dX2_readKnownName_103 : decode cX2_readKnownName 103 = .ok (.invokevirtual 57, 3) := by decide +kernel
theorem dX2_readKnownName_106 : decode cX2_readKnownName 106 = .ok (.iload_n 2, 1) := by decide +kernel
theorem dX2_readKnownName_107 : decode cX2_readKnownName 107 = .ok (.ireturn, 1) := by decide +kernel
theorem dX2_readRule_0 : decode cX2_readRule 0 = .ok (.aload_n 0, 1) := by decide +kernel
theorem dX2_readRule_1 : decode cX2_readRule 1 = .ok (.getfield 25, 3) := by decide +kernel
theorem dX2_readRule_4 : decode cX2_readRule 4 = .ok (.iload_n 1, 1) := by decide +kernel
theorem dX2_readRule_5 : decode cX2_readRule 5 = .ok (.ishr, 1) := by decide +kernel
theorem dX2_readRule_6 : decode cX2_readRule 6 = .ok (.iconst 1, 1) := by decide +kernel
theorem dX2_readRule_7 : decode cX2_readRule 7 = .ok (.iand, 1) := by decide +kernel
theorem dX2_readRule_8 : decode cX2_readRule 8 = .ok (.ifCond .eq 19, 3) := by decide +kernel
theorem dX2_readRule_11 : decode cX2_readRule 11 = .ok (.aload_n 0, 1) := by decide +kernel
theorem dX2_readRule_12 : decode cX2_readRule 12 = .ok (.getfield 14, 3) := by decide +kernel
theorem dX2_readRule_15 : decode cX2_readRule 15 = .ok (.iconst 5, 1) := by decide +kernel
theorem dX2_readRule_16 : decode cX2_readRule 16 = .ok (.aload_n 0, 1) := by decide +kernel
theorem dX2_readRule_17 : decode cX2_readRule 17 = .ok (.getfield 14, 3) := by decide +kernel
theorem dX2_readRule_20 : decode cX2_readRule 20 = .ok (.getfield 50, 3) := by decide +kernel
theorem dX2_readRule_23 : decode cX2_readRule 23 = .ok (.invokevirtual 53, 3) := by decide +kernel
theorem dX2_readRule_26 : decode cX2_readRule 26 = .ok (.return_, 1) := by decide +kernel
theorem dX2_readRule_27 : decode cX2_readRule 27 = .ok (.aload_n 0, 1) := by decide +kernel
theorem dX2_readRule_28 : decode cX2_readRule 28 = .ok (.dup, 1) := by decide +kernel
theorem dX2_readRule_29 : decode cX2_readRule 29 = .ok (.getfield 25, 3) := by decide +kernel
theorem dX2_readRule_32 : decode cX2_readRule 32 = .ok (.iconst 1, 1) := by decide +kernel
theorem dX2_readRule_33 : decode cX2_readRule 33 = .ok (.iload_n 1, 1) := by decide +kernel
theorem dX2_readRule_34 : decode cX2_readRule 34 = .ok (.ishl, 1) := by decide +kernel
theorem dX2_readRule_35 : decode cX2_readRule 35 = .ok (.ior, 1) := by decide +kernel
theorem dX2_readRule_36 : decode cX2_readRule 36 = .ok (.putfield 25, 3) := by decide +kernel
theorem dX2_readRule_39 : decode cX2_readRule 39 = .ok (.aload_n 0, 1) := by decide +kernel
theorem dX2_readRule_40 : decode cX2_readRule 40 = .ok (.getfield 14, 3) := by decide +kernel
theorem dX2_readRule_43 : decode cX2_readRule 43 = .ok (.iload_n 1, 1) := by decide +kernel
theorem dX2_readRule_44 : decode cX2_readRule 44 = .ok (.invokestatic 124, 3) := by decide +kernel
theorem dX2_readRule_47 : decode cX2_readRule 47 = .ok (.putfield 127, 3) := by decide +kernel
theorem dX2_readRule_50 : decode cX2_readRule 50 = .ok (.aload_n 0, 1) := by decide +kernel
theorem dX2_readRule_51 : decode cX2_readRule 51 = .ok (.getfield 14, 3) := by decide +kernel
theorem dX2_readRule_54 : decode cX2_readRule 54 = .ok (.getfield 130, 3) := by decide +kernel
theorem dX2_readRule_57 : decode cX2_readRule 57 = .ok (.istore_n 2, 1) := by decide +kernel
theorem dX2_readRule_58 : decode cX2_readRule 58 = .ok (.aload_n 0, 1) := by decide +kernel
theorem dX2_readRule_59 : decode cX2_readRule 59 = .ok (.getfield 14, 3) := by decide +kernel
theorem dX2_readRule_62 : decode cX2_readRule 62 = .ok (.invokevirtual 57, 3) := by decide +kernel
theorem dX2_readRule_65 : decode cX2_readRule 65 = .ok (.iload_n 1, 1) := by decide +kernel
theorem dX2_readRule_66 : decode cX2_readRule 66 = .ok (.iconst 2, 1) := by decide +kernel
theorem dX2_readRule_67 : decode cX2_readRule 67 = .ok (.if_icmp .ne 13, 3) := by decide +kernel
theorem dX2_readRule_70 : decode cX2_readRule 70 = .ok (.aload_n 0, 1) := by decide +kernel
theorem dX2_readRule_71 : decode cX2_readRule 71 = .ok (.getfield 14, 3) := by decide +kernel
theorem dX2_readRule_74 : decode cX2_readRule 74 = .ok (.invokevirtual 133, 3) := by decide +kernel
theorem dX2_readRule_77 : decode cX2_readRule 77 = .ok (.goto 10, 3) := by decide +kernel
theorem dX2_readRule_80 : decode cX2_readRule 80 = .ok (.aload_n 0, 1) := by decide +kernel
theorem dX2_readRule_81 : decode cX2_readRule 81 = .ok (.getfield 14, 3) := by decide +kernel
theorem dX2_readRule_84 : decode cX2_readRule 84 = .ok (.invokevirtual 136, 3) := by decide +kernel
theorem dX2_readRule_87 : decode cX2_readRule 87 = .ok (.aload_n 0, 1) := by decide +kernel
theorem dX2_readRule_88 : decode cX2_readRule 88 = .ok (.getfield 21, 3) := by decide +kernel
theorem dX2_readRule_91 : decode cX2_readRule 91 = .ok (.iload_n 1, 1) := by decide +kernel
theorem dX2_readRule_92 : decode cX2_readRule 92 = .ok (.iload_n 2, 1) := by decide +kernel
theorem dX2_readRule_93 : decode cX2_readRule 93 = .ok (.aload_n 0, 1) := by decide +kernel
theorem dX2_readRule_94 : decode cX2_readRule 94 = .ok (.getfield 14, 3) := by decide +kernel
theorem dX2_readRule_97 : decode cX2_readRule 97 = .ok (.getfield 130, 3) := by decide +kernel
theorem dX2_readRule_100 : decode cX2_readRule 100 = .ok (.invokevirtual 139, 3) := by decide +kernel
theorem dX2_readRule_103 : decode cX2_readRule 103 = .ok (.return_, 1) := by decide +kernel
theorem dX2_factsOf_0 : decode cX2_factsOf 0 = .ok (.iload_n 0, 1) := by decide +kernel
theorem dX2_factsOf_1 : decode cX2_factsOf 1 = .ok (.iconst 3, 1) := by decide +kernel
theorem dX2_factsOf_2 : decode cX2_factsOf 2 = .ok (.if_icmp .ne 6, 3) := by decide +kernel
theorem dX2_factsOf_5 : decode cX2_factsOf 5 = .ok (.ldc 143, 2) := by decide +kernel
theorem dX2_factsOf_7 : decode cX2_factsOf 7 = .ok (.ireturn, 1) := by decide +kernel
theorem dX2_factsOf_8 : decode cX2_factsOf 8 = .ok (.iload_n 0, 1) := by decide +kernel
theorem dX2_factsOf_9 : decode cX2_factsOf 9 = .ok (.ifCond .eq 8, 3) := by decide +kernel
theorem dX2_factsOf_12 : decode cX2_factsOf 12 = .ok (.iload_n 0, 1) := by decide +kernel
theorem dX2_factsOf_13 : decode cX2_factsOf 13 = .ok (.iconst 1, 1) := by decide +kernel
theorem dX2_factsOf_14 : decode cX2_factsOf 14 = .ok (.if_icmp .ne 9, 3) := by decide +kernel
theorem dX2_factsOf_17 : decode cX2_factsOf 17 = .ok (.sipush 24652, 3) := by decide +kernel
theorem dX2_factsOf_20 : decode cX2_factsOf 20 = .ok (.goto 6, 3) := by decide +kernel
theorem dX2_factsOf_23 : decode cX2_factsOf 23 = .ok (.sipush 24588, 3) := by decide +kernel
theorem dX2_factsOf_26 : decode cX2_factsOf 26 = .ok (.ireturn, 1) := by decide +kernel
theorem dX3_init_0 : decode cX3_init 0 = .ok (.aload_n 0, 1) := by decide +kernel
theorem dX3_init_1 : decode cX3_init 1 = .ok (.invokespecial 3, 3) := by decide +kernel
theorem dX3_init_4 : decode cX3_init 4 = .ok (.aload_n 0, 1) := by decide +kernel
theorem dX3_init_5 : decode cX3_init 5 = .ok (.bipush 10, 2) := by decide +kernel
theorem dX3_init_7 : decode cX3_init 7 = .ok (.newarray .int, 2) := by decide +kernel
theorem dX3_init_9 : decode cX3_init 9 = .ok (.putfield 11, 3) := by decide +kernel
theorem dX3_init_12 : decode cX3_init 12 = .ok (.aload_n 0, 1) := by decide +kernel
theorem dX3_init_13 : decode cX3_init 13 = .ok (.iconst (-1), 1) := by decide +kernel
theorem dX3_init_14 : decode cX3_init 14 = .ok (.putfield 15, 3) := by decide +kernel
theorem dX3_init_17 : decode cX3_init 17 = .ok (.aload_n 0, 1) := by decide +kernel
theorem dX3_init_18 : decode cX3_init 18 = .ok (.sipush 896, 3) := by decide +kernel
theorem dX3_init_21 : decode cX3_init 21 = .ok (.newarray .int, 2) := by decide +kernel
theorem dX3_init_23 : decode cX3_init 23 = .ok (.putfield 19, 3) := by decide +kernel
theorem dX3_init_26 : decode cX3_init 26 = .ok (.return_, 1) := by decide +kernel
theorem dX3_spare_0 : decode cX3_spare 0 = .ok (.aload_n 0, 1) := by decide +kernel
theorem dX3_spare_1 : decode cX3_spare 1 = .ok (.getfield 15, 3) := by decide +kernel
theorem dX3_spare_4 : decode cX3_spare 4 = .ok (.iload 5, 2) := by decide +kernel
theorem dX3_spare_6 : decode cX3_spare 6 = .ok (.if_icmp .ne 13, 3) := by decide +kernel
theorem dX3_spare_9 : decode cX3_spare 9 = .ok (.aload_n 0, 1) := by decide +kernel
theorem dX3_spare_10 : decode cX3_spare 10 = .ok (.getfield 22, 3) := by decide +kernel
theorem dX3_spare_13 : decode cX3_spare 13 = .ok (.iload 4, 2) := by decide +kernel
theorem dX3_spare_15 : decode cX3_spare 15 = .ok (.if_icmp .ne 4, 3) := by decide +kernel
theorem dX3_spare_18 : decode cX3_spare 18 = .ok (.return_, 1) := by decide +kernel
theorem dX3_spare_19 : decode cX3_spare 19 = .ok (.aload_n 0, 1) := by decide +kernel
theorem dX3_spare_20 : decode cX3_spare 20 = .ok (.iload 5, 2) := by decide +kernel
theorem dX3_spare_22 : decode cX3_spare 22 = .ok (.putfield 15, 3) := by decide +kernel
theorem dX3_spare_25 : decode cX3_spare 25 = .ok (.aload_n 0, 1) := by decide +kernel
theorem dX3_spare_26 : decode cX3_spare 26 = .ok (.iload 4, 2) := by decide +kernel
theorem dX3_spare_28 : decode cX3_spare 28 = .ok (.putfield 22, 3) := by decide +kernel
theorem dX3_spare_31 : decode cX3_spare 31 = .ok (.aload_n 0, 1) := by decide +kernel
theorem dX3_spare_32 : decode cX3_spare 32 = .ok (.iconst 0, 1) := by decide +kernel
theorem dX3_spare_33 : decode cX3_spare 33 = .ok (.putfield 25, 3) := by decide +kernel
theorem dX3_spare_36 : decode cX3_spare 36 = .ok (.aload_n 0, 1) := by decide +kernel
theorem dX3_spare_37 : decode cX3_spare 37 = .ok (.aload_n 2, 1) := by decide +kernel
theorem dX3_spare_38 : decode cX3_spare 38 = .ok (.invokevirtual 28, 3) := by decide +kernel
theorem dX3_spare_41 : decode cX3_spare 41 = .ok (.aload_n 3, 1) := by decide +kernel
theorem dX3_spare_42 : decode cX3_spare 42 = .ok (.aload_n 2, 1) := by decide +kernel
theorem dX3_spare_43 : decode cX3_spare 43 = .ok (.invokevirtual 32, 3) := by decide +kernel
theorem dX3_spare_46 : decode cX3_spare 46 = .ok (.iconst 0, 1) := by decide +kernel
theorem dX3_spare_47 : decode cX3_spare 47 = .ok (.istore 6, 2) := by decide +kernel
theorem dX3_spare_49 : decode cX3_spare 49 = .ok (.iload 6, 2) := by decide +kernel
theorem dX3_spare_51 : decode cX3_spare 51 = .ok (.iload 4, 2) := by decide +kernel
theorem dX3_spare_53 : decode cX3_spare 53 = .ok (.if_icmp .ge 16, 3) := by decide +kernel
theorem dX3_spare_56 : decode cX3_spare 56 = .ok (.aload_n 1, 1) := by decide +kernel
theorem dX3_spare_57 : decode cX3_spare 57 = .ok (.aload_n 3, 1) := by decide +kernel
theorem dX3_spare_58 : decode cX3_spare 58 = .ok (.iconst 0, 1) := by decide +kernel
theorem dX3_spare_59 : decode cX3_spare 59 = .ok (.iconst 0, 1) := by decide +kernel
theorem dX3_spare_60 : decode cX3_spare 60 = .ok (.invokevirtual 37, 3) := by decide +kernel
theorem dX3_spare_63 : decode cX3_spare 63 = .ok (.iinc 6 1, 3) := by decide +kernel
theorem dX3_spare_66 : decode cX3_spare 66 = .ok (.goto (-17), 3) := by decide +kernel
theorem dX3_spare_69 : decode cX3_spare 69 = .ok (.aload_n 3, 1) := by decide +kernel
theorem dX3_spare_70 : decode cX3_spare 70 = .ok (.getfield 43, 3) := by decide +kernel
theorem dX3_spare_73 : decode cX3_spare 73 = .ok (.istore 6, 2) := by decide +kernel
theorem dX3_spare_75 : decode cX3_spare 75 = .ok (.aload_n 0, 1) := by decide +kernel
theorem dX3_spare_76 : decode cX3_spare 76 = .ok (.getfield 46, 3) := by decide +kernel
theorem dX3_spare_79 : decode cX3_spare 79 = .ok (.istore 7, 2) := by decide +kernel
theorem dX3_spare_81 : decode cX3_spare 81 = .ok (.iload 7, 2) := by decide +kernel
theorem dX3_spare_83 : decode cX3_spare 83 = .ok (.ifCond .le 70, 3) := by decide +kernel
theorem dX3_spare_86 : decode cX3_spare 86 = .ok (.iconst 0, 1) := by decide +kernel
theorem dX3_spare_87 : decode cX3_spare 87 = .ok (.istore 8, 2) := by decide +kernel
theorem dX3_spare_89 : decode cX3_spare 89 = .ok (.iload 8, 2) := by decide +kernel
theorem dX3_spare_91 : decode cX3_spare 91 = .ok (.iconst 1, 1) := by decide +kernel
theorem dX3_spare_92 : decode cX3_spare 92 = .ok (.aload_n 0, 1) := by decide +kernel
theorem dX3_spare_93 : decode cX3_spare 93 = .ok (.getfield 46, 3) := by decide +kernel
theorem dX3_spare_96 : decode cX3_spare 96 = .ok (.ishl, 1) := by decide +kernel
theorem dX3_spare_97 : decode cX3_spare 97 = .ok (.if_icmp .ge 50, 3) := by decide +kernel
theorem dX3_spare_100 : decode cX3_spare 100 = .ok (.iload 8, 2) := by decide +kernel
theorem dX3_spare_102 : decode cX3_spare 102 = .ok (.invokestatic 49, 3) := by decide +kernel
theorem dX3_spare_105 : decode cX3_spare 105 = .ok (.iload 7, 2) := by decide +kernel
theorem dX3_spare_107 : decode cX3_spare 107 = .ok (.if_icmp .ne 34, 3) := by decide +kernel
theorem dX3_spare_110 : decode cX3_spare 110 = .ok (.aload_n 3, 1) := by decide +kernel
theorem dX3_spare_111 : decode cX3_spare 111 = .ok (.aload_n 2, 1) := by decide +kernel
theorem dX3_spare_112 : decode cX3_spare 112 = .ok (.invokevirtual 32, 3) := by decide +kernel
theorem dX3_spare_115 : decode cX3_spare 115 = .ok (.aload_n 0, 1) := by decide +kernel
theorem dX3_spare_116 : decode cX3_spare 116 = .ok (.aload_n 3, 1) := by decide +kernel
theorem dX3_spare_117 : decode cX3_spare 117 = .ok (.iload 8, 2) := by decide +kernel
theorem dX3_spare_119 : decode cX3_spare 119 = .ok (.invokevirtual 55, 3) := by decide +kernel
theorem dX3_spare_122 : decode cX3_spare 122 = .ok (.aload_n 1, 1) := by decide +kernel
theorem dX3_spare_123 : decode cX3_spare 123 = .ok (.aload_n 3, 1) := by decide +kernel
theorem dX3_spare_124 : decode cX3_spare 124 = .ok (.iload 4, 2) := by decide +kernel
theorem dX3_spare_126 : decode cX3_spare 126 = .ok (.iload 6, 2) := by decide +kernel
theorem dX3_spare_128 : decode cX3_spare 128 = .ok (.invokestatic 59, 3) := by decide +kernel
theorem dX3_spare_131 : decode cX3_spare 131 = .ok (.ifCond .eq 10, 3) := by decide +kernel
theorem dX3_spare_134 : decode cX3_spare 134 = .ok (.aload_n 0, 1) := by decide +kernel
theorem dX3_spare_135 : decode cX3_spare 135 = .ok (.iload 8, 2) := by decide +kernel
theorem dX3_spare_137 : decode cX3_spare 137 = .ok (.putfield 25, 3) := by decide +kernel
theorem dX3_spare_140 : decode cX3_spare 140 = .ok (.return_, 1) := by decide +kernel
theorem dX3_spare_141 : decode cX3_spare 141 = .ok (.iinc 8 1, 3) := by decide +kernel
theorem dX3_spare_144 : decode cX3_spare 144 = .ok (.goto (-55), 3) := by decide +kernel
theorem dX3_spare_147 : decode cX3_spare 147 = .ok (.iinc 7 (-1), 3) := by decide +kernel
theorem dX3_spare_150 : decode cX3_spare 150 = .ok (.goto (-69), 3) := by decide +kernel
theorem dX3_spare_153 : decode cX3_spare 153 = .ok (.return_, 1) := by decide +kernel
theorem dX3_sparedPair_0 : decode cX3_sparedPair 0 = .ok (.iload_n 1, 1) := by decide +kernel
theorem dX3_sparedPair_1 : decode cX3_sparedPair 1 = .ok (.istore_n 2, 1) := by decide +kernel
theorem dX3_sparedPair_2 : decode cX3_sparedPair 2 = .ok (.iconst 0, 1) := by decide +kernel
theorem dX3_sparedPair_3 : decode cX3_sparedPair 3 = .ok (.istore_n 3, 1) := by decide +kernel
theorem dX3_sparedPair_4 : decode cX3_sparedPair 4 = .ok (.iload_n 3, 1) := by decide +kernel
theorem dX3_sparedPair_5 : decode cX3_sparedPair 5 = .ok (.aload_n 0, 1) := by decide +kernel
theorem dX3_sparedPair_6 : decode cX3_sparedPair 6 = .ok (.getfield 46, 3) := by decide +kernel
theorem dX3_sparedPair_9 : decode cX3_sparedPair 9 = .ok (.if_icmp .ge 40, 3) := by decide +kernel
theorem dX3_sparedPair_12 : decode cX3_sparedPair 12 = .ok (.iload_n 3, 1) := by decide +kernel
theorem dX3_sparedPair_13 : decode cX3_sparedPair 13 = .ok (.bipush 10, 2) := by decide +kernel
theorem dX3_sparedPair_15 : decode cX3_sparedPair 15 = .ok (.if_icmp .ge 34, 3) := by decide +kernel
theorem dX3_sparedPair_18 : decode cX3_sparedPair 18 = .ok (.aload_n 0, 1) := by decide +kernel
theorem dX3_sparedPair_19 : decode cX3_sparedPair 19 = .ok (.getfield 25, 3) := by decide +kernel
theorem dX3_sparedPair_22 : decode cX3_sparedPair 22 = .ok (.iload_n 3, 1) := by decide +kernel
theorem dX3_sparedPair_23 : decode cX3_sparedPair 23 = .ok (.ishr, 1) := by decide +kernel
theorem dX3_sparedPair_24 : decode cX3_sparedPair 24 = .ok (.iconst 1, 1) := by decide +kernel
theorem dX3_sparedPair_25 : decode cX3_sparedPair 25 = .ok (.iand, 1) := by decide +kernel
theorem dX3_sparedPair_26 : decode cX3_sparedPair 26 = .ok (.ifCond .eq 17, 3) := by decide +kernel
theorem dX3_sparedPair_29 : decode cX3_sparedPair 29 = .ok (.iload_n 2, 1) := by decide +kernel
theorem dX3_sparedPair_30 : decode cX3_sparedPair 30 = .ok (.ifCond .ne 10, 3) := by decide +kernel
theorem dX3_sparedPair_33 : decode cX3_sparedPair 33 = .ok (.aload_n 0, 1) := by decide +kernel
theorem dX3_sparedPair_34 : decode cX3_sparedPair 34 = .ok (.getfield 11, 3) := by decide +kernel
theorem dX3_sparedPair_37 : decode cX3_sparedPair 37 = .ok (.iload_n 3, 1) := by decide +kernel
theorem dX3_sparedPair_38 : decode cX3_sparedPair 38 = .ok (.iaload, 1) := by decide +kernel
theorem dX3_sparedPair_39 : decode cX3_sparedPair 39 = .ok (.ireturn, 1) := by decide +kernel
theorem dX3_sparedPair_40 : decode cX3_sparedPair 40 = .ok (.iinc 2 (-1), 3) := by decide +kernel
theorem dX3_sparedPair_43 : decode cX3_sparedPair 43 = .ok (.iinc 3 1, 3) := by decide +kernel
theorem dX3_sparedPair_46 : decode cX3_sparedPair 46 = .ok (.goto (-42), 3) := by decide +kernel
theorem dX3_sparedPair_49 : decode cX3_sparedPair 49 = .ok (.iconst (-1), 1) := by decide +kernel
theorem dX3_sparedPair_50 : decode cX3_sparedPair 50 = .ok (.ireturn, 1) := by decide +kernel
theorem dX3_listFeuds_0 : decode cX3_listFeuds 0 = .ok (.aload_n 0, 1) := by decide +kernel
theorem dX3_listFeuds_1 : decode cX3_listFeuds 1 = .ok (.iconst 0, 1) := by decide +kernel
theorem dX3_listFeuds_2 : decode cX3_listFeuds 2 = .ok (.putfield 46, 3) := by decide +kernel
theorem dX3_listFeuds_5 : decode cX3_listFeuds 5 = .ok (.iconst 0, 1) := by decide +kernel
theorem dX3_listFeuds_6 : decode cX3_listFeuds 6 = .ok (.istore_n 2, 1) := by decide +kernel
theorem dX3_listFeuds_7 : decode cX3_listFeuds 7 = .ok (.iload_n 2, 1) := by decide +kernel
theorem dX3_listFeuds_8 : decode cX3_listFeuds 8 = .ok (.bipush 7, 2) := by decide +kernel
theorem dX3_listFeuds_10 : decode cX3_listFeuds 10 = .ok (.if_icmp .ge 73, 3) := by decide +kernel
theorem dX3_listFeuds_13 : decode cX3_listFeuds 13 = .ok (.iload_n 2, 1) := by decide +kernel
theorem dX3_listFeuds_14 : decode cX3_listFeuds 14 = .ok (.iconst 1, 1) := by decide +kernel
theorem dX3_listFeuds_15 : decode cX3_listFeuds 15 = .ok (.iadd, 1) := by decide +kernel
theorem dX3_listFeuds_16 : decode cX3_listFeuds 16 = .ok (.istore_n 3, 1) := by decide +kernel
theorem dX3_listFeuds_17 : decode cX3_listFeuds 17 = .ok (.iload_n 3, 1) := by decide +kernel
theorem dX3_listFeuds_18 : decode cX3_listFeuds 18 = .ok (.bipush 7, 2) := by decide +kernel
theorem dX3_listFeuds_20 : decode cX3_listFeuds 20 = .ok (.if_icmp .ge 57, 3) := by decide +kernel
theorem dX3_listFeuds_23 : decode cX3_listFeuds 23 = .ok (.aload_n 1, 1) := by decide +kernel
theorem dX3_listFeuds_24 : decode cX3_listFeuds 24 = .ok (.getfield 63, 3) := by decide +kernel
theorem dX3_listFeuds_27 : decode cX3_listFeuds 27 = .ok (.bipush 8, 2) := by decide +kernel
theorem dX3_listFeuds_29 : decode cX3_listFeuds 29 = .ok (.iload_n 2, 1) := by decide +kernel
theorem dX3_listFeuds_30 : decode cX3_listFeuds 30 = .ok (.imul, 1) := by decide +kernel
theorem dX3_listFeuds_31 : decode cX3_listFeuds 31 = .ok (.iload_n 3, 1) := by decide +kernel
theorem dX3_listFeuds_32 : decode cX3_listFeuds 32 = .ok (.iadd, 1) := by decide +kernel
theorem dX3_listFeuds_33 : decode cX3_listFeuds 33 = .ok (.iaload, 1) := by decide +kernel
theorem dX3_listFeuds_34 : decode cX3_listFeuds 34 = .ok (.ifCond .le 37, 3) := by decide +kernel
theorem dX3_listFeuds_37 : decode cX3_listFeuds 37 = .ok (.aload_n 0, 1) := by decide +kernel
theorem dX3_listFeuds_38 : decode cX3_listFeuds 38 = .ok (.getfield 46, 3) := by decide +kernel
theorem dX3_listFeuds_41 : decode cX3_listFeuds 41 = .ok (.bipush 10, 2) := by decide +kernel
theorem dX3_listFeuds_43 : decode cX3_listFeuds 43 = .ok (.if_icmp .ge 28, 3) := by decide +kernel
theorem dX3_listFeuds_46 : decode cX3_listFeuds 46 = .ok (.aload_n 0, 1) := by decide +kernel
theorem dX3_listFeuds_47 : decode cX3_listFeuds 47 = .ok (.getfield 11, 3) := by decide +kernel
theorem dX3_listFeuds_50 : decode cX3_listFeuds 50 = .ok (.aload_n 0, 1) := by decide +kernel
theorem dX3_listFeuds_51 : decode cX3_listFeuds 51 = .ok (.getfield 46, 3) := by decide +kernel
theorem dX3_listFeuds_54 : decode cX3_listFeuds 54 = .ok (.bipush 8, 2) := by decide +kernel
theorem dX3_listFeuds_56 : decode cX3_listFeuds 56 = .ok (.iload_n 2, 1) := by decide +kernel
theorem dX3_listFeuds_57 : decode cX3_listFeuds 57 = .ok (.imul, 1) := by decide +kernel
theorem dX3_listFeuds_58 : decode cX3_listFeuds 58 = .ok (.iload_n 3, 1) := by decide +kernel
theorem dX3_listFeuds_59 : decode cX3_listFeuds 59 = .ok (.iadd, 1) := by decide +kernel
theorem dX3_listFeuds_60 : decode cX3_listFeuds 60 = .ok (.iastore, 1) := by decide +kernel
theorem dX3_listFeuds_61 : decode cX3_listFeuds 61 = .ok (.aload_n 0, 1) := by decide +kernel
theorem dX3_listFeuds_62 : decode cX3_listFeuds 62 = .ok (.dup, 1) := by decide +kernel
theorem dX3_listFeuds_63 : decode cX3_listFeuds 63 = .ok (.getfield 46, 3) := by decide +kernel
theorem dX3_listFeuds_66 : decode cX3_listFeuds 66 = .ok (.iconst 1, 1) := by decide +kernel
theorem dX3_listFeuds_67 : decode cX3_listFeuds 67 = .ok (.iadd, 1) := by decide +kernel
theorem dX3_listFeuds_68 : decode cX3_listFeuds 68 = .ok (.putfield 46, 3) := by decide +kernel
theorem dX3_listFeuds_71 : decode cX3_listFeuds 71 = .ok (.iinc 3 1, 3) := by decide +kernel
theorem dX3_listFeuds_74 : decode cX3_listFeuds 74 = .ok (.goto (-57), 3) := by decide +kernel
theorem dX3_listFeuds_77 : decode cX3_listFeuds 77 = .ok (.iinc 2 1, 3) := by decide +kernel
theorem dX3_listFeuds_80 : decode cX3_listFeuds 80 = .ok (.goto (-73), 3) := by decide +kernel
theorem dX3_listFeuds_83 : decode cX3_listFeuds 83 = .ok (.return_, 1) := by decide +kernel
theorem dX3_endFeuds_0 : decode cX3_endFeuds 0 = .ok (.iconst 0, 1) := by decide +kernel
theorem dX3_endFeuds_1 : decode cX3_endFeuds 1 = .ok (.istore_n 3, 1) := by decide +kernel
theorem dX3_endFeuds_2 : decode cX3_endFeuds 2 = .ok (.iload_n 3, 1) := by decide +kernel
theorem dX3_endFeuds_3 : decode cX3_endFeuds 3 = .ok (.aload_n 0, 1) := by decide +kernel
theorem dX3_endFeuds_4 : decode cX3_endFeuds 4 = .ok (.getfield 46, 3) := by decide +kernel
theorem dX3_endFeuds_7 : decode cX3_endFeuds 7 = .ok (.if_icmp .ge 46, 3) := by decide +kernel
theorem dX3_endFeuds_10 : decode cX3_endFeuds 10 = .ok (.iload_n 3, 1) := by decide +kernel
theorem dX3_endFeuds_11 : decode cX3_endFeuds 11 = .ok (.bipush 10, 2) := by decide +kernel
theorem dX3_endFeuds_13 : decode cX3_endFeuds 13 = .ok (.if_icmp .ge 40, 3) := by decide +kernel
theorem dX3_endFeuds_16 : decode cX3_endFeuds 16 = .ok (.iload_n 2, 1) := by decide +kernel
theorem dX3_endFeuds_17 : decode cX3_endFeuds 17 = .ok (.iload_n 3, 1) := by decide +kernel
theorem dX3_endFeuds_18 : decode cX3_endFeuds 18 = .ok (.ishr, 1) := by decide +kernel
theorem dX3_endFeuds_19 : decode cX3_endFeuds 19 = .ok (.iconst 1, 1) := by decide +kernel
theorem dX3_endFeuds_20 : decode cX3_endFeuds 20 = .ok (.iand, 1) := by decide +kernel
theorem dX3_endFeuds_21 : decode cX3_endFeuds 21 = .ok (.ifCond .eq 26, 3) := by decide +kernel
theorem dX3_endFeuds_24 : decode cX3_endFeuds 24 = .ok (.aload_n 1, 1) := by decide +kernel
theorem dX3_endFeuds_25 : decode cX3_endFeuds 25 = .ok (.aload_n 0, 1) := by decide +kernel
theorem dX3_endFeuds_26 : decode cX3_endFeuds 26 = .ok (.getfield 11, 3) := by decide +kernel
theorem dX3_endFeuds_29 : decode cX3_endFeuds 29 = .ok (.iload_n 3, 1) := by decide +kernel
theorem dX3_endFeuds_30 : decode cX3_endFeuds 30 = .ok (.iaload, 1) := by decide +kernel
theorem dX3_endFeuds_31 : decode cX3_endFeuds 31 = .ok (.bipush 8, 2) := by decide +kernel
theorem dX3_endFeuds_33 : decode cX3_endFeuds 33 = .ok (.idiv, 1) := by decide +kernel
theorem dX3_endFeuds_34 : decode cX3_endFeuds 34 = .ok (.aload_n 0, 1) := by decide +kernel
theorem dX3_endFeuds_35 : decode cX3_endFeuds 35 = .ok (.getfield 11, 3) := by decide +kernel
theorem dX3_endFeuds_38 : decode cX3_endFeuds 38 = .ok (.iload_n 3, 1) := by decide +kernel
theorem dX3_endFeuds_39 : decode cX3_endFeuds 39 = .ok (.iaload, 1) := by decide +kernel
theorem dX3_endFeuds_40 : decode cX3_endFeuds 40 = .ok (.bipush 8, 2) := by decide +kernel
theorem dX3_endFeuds_42 : decode cX3_endFeuds 42 = .ok (.irem, 1) := by decide +kernel
theorem dX3_endFeuds_43 : decode cX3_endFeuds 43 = .ok (.iconst 0, 1) := by decide +kernel
theorem dX3_endFeuds_44 : decode cX3_endFeuds 44 = .ok (.invokevirtual 66, 3) := by decide +kernel
theorem dX3_endFeuds_47 : decode cX3_endFeuds 47 = .ok (.iinc 3 1, 3) := by decide +kernel
theorem dX3_endFeuds_50 : decode cX3_endFeuds 50 = .ok (.goto (-48), 3) := by decide +kernel
theorem dX3_endFeuds_53 : decode cX3_endFeuds 53 = .ok (.return_, 1) := by decide +kernel
theorem dX3_live_0 : decode cX3_live 0 = .ok (.iconst 0, 1) := by decide +kernel
theorem dX3_live_1 : decode cX3_live 1 = .ok (.istore 4, 2) := by decide +kernel
theorem dX3_live_3 : decode cX3_live 3 = .ok (.iload 4, 2) := by decide +kernel
theorem dX3_live_5 : decode cX3_live 5 = .ok (.iload_n 2, 1) := by decide +kernel
theorem dX3_live_6 : decode cX3_live 6 = .ok (.if_icmp .ge 29, 3) := by decide +kernel
theorem dX3_live_9 : decode cX3_live 9 = .ok (.aload_n 0, 1) := by decide +kernel
theorem dX3_live_10 : decode cX3_live 10 = .ok (.aload_n 1, 1) := by decide +kernel
theorem dX3_live_11 : decode cX3_live 11 = .ok (.iconst 0, 1) := by decide +kernel
theorem dX3_live_12 : decode cX3_live 12 = .ok (.iconst 0, 1) := by decide +kernel
theorem dX3_live_13 : decode cX3_live 13 = .ok (.invokevirtual 37, 3) := by decide +kernel
theorem dX3_live_16 : decode cX3_live 16 = .ok (.iload_n 3, 1) := by decide +kernel
theorem dX3_live_17 : decode cX3_live 17 = .ok (.aload_n 1, 1) := by decide +kernel
theorem dX3_live_18 : decode cX3_live 18 = .ok (.getfield 43, 3) := by decide +kernel
theorem dX3_live_21 : decode cX3_live 21 = .ok (.iconst (-1), 1) := by decide +kernel
theorem dX3_live_22 : decode cX3_live 22 = .ok (.ixor, 1) := by decide +kernel
theorem dX3_live_23 : decode cX3_live 23 = .ok (.iand, 1) := by decide +kernel
theorem dX3_live_24 : decode cX3_live 24 = .ok (.ifCond .eq 5, 3) := by decide +kernel
theorem dX3_live_27 : decode cX3_live 27 = .ok (.iconst 0, 1) := by decide +kernel
theorem dX3_live_28 : decode cX3_live 28 = .ok (.ireturn, 1) := by decide +kernel
theorem dX3_live_29 : decode cX3_live 29 = .ok (.iinc 4 1, 3) := by decide +kernel
theorem dX3_live_32 : decode cX3_live 32 = .ok (.goto (-29), 3) := by decide +kernel
theorem dX3_live_35 : decode cX3_live 35 = .ok (.iconst 1, 1) := by decide +kernel
theorem dX3_live_36 : decode cX3_live 36 = .ok (.ireturn, 1) := by decide +kernel
theorem dX3_restingSet_0 : decode cX3_restingSet 0 = .ok (.aload_n 0, 1) := by decide +kernel
theorem dX3_restingSet_1 : decode cX3_restingSet 1 = .ok (.aload_n 1, 1) := by decide +kernel
theorem dX3_restingSet_2 : decode cX3_restingSet 2 = .ok (.aload_n 2, 1) := by decide +kernel
theorem dX3_restingSet_3 : decode cX3_restingSet 3 = .ok (.aload_n 3, 1) := by decide +kernel
theorem dX3_restingSet_4 : decode cX3_restingSet 4 = .ok (.iload 4, 2) := by decide +kernel
theorem dX3_restingSet_6 : decode cX3_restingSet 6 = .ok (.iconst 0, 1) := by decide +kernel
theorem dX3_restingSet_7 : decode cX3_restingSet 7 = .ok (.invokevirtual 70, 3) := by decide +kernel
theorem dX3_restingSet_10 : decode cX3_restingSet 10 = .ok (.iconst 0, 1) := by decide +kernel
theorem dX3_restingSet_11 : decode cX3_restingSet 11 = .ok (.istore 5, 2) := by decide +kernel
theorem dX3_restingSet_13 : decode cX3_restingSet 13 = .ok (.iload 5, 2) := by decide +kernel
theorem dX3_restingSet_15 : decode cX3_restingSet 15 = .ok (.bipush 7, 2) := by decide +kernel
theorem dX3_restingSet_17 : decode cX3_restingSet 17 = .ok (.if_icmp .gt 113, 3) := by decide +kernel
theorem dX3_restingSet_20 : decode cX3_restingSet 20 = .ok (.iconst 0, 1) := by decide +kernel
theorem dX3_restingSet_21 : decode cX3_restingSet 21 = .ok (.istore 6, 2) := by decide +kernel
theorem dX3_restingSet_23 : decode cX3_restingSet 23 = .ok (.iload 6, 2) := by decide +kernel
theorem dX3_restingSet_25 : decode cX3_restingSet 25 = .ok (.sipush 128, 3) := by decide +kernel
theorem dX3_restingSet_28 : decode cX3_restingSet 28 = .ok (.if_icmp .ge 44, 3) := by decide +kernel
theorem dX3_restingSet_31 : decode cX3_restingSet 31 = .ok (.iload 6, 2) := by decide +kernel
theorem dX3_restingSet_33 : decode cX3_restingSet 33 = .ok (.aload_n 2, 1) := by decide +kernel
theorem dX3_restingSet_34 : decode cX3_restingSet 34 = .ok (.getfield 43, 3) := by decide +kernel
theorem dX3_restingSet_37 : decode cX3_restingSet 37 = .ok (.iconst (-1), 1) := by decide +kernel
theorem dX3_restingSet_38 : decode cX3_restingSet 38 = .ok (.ixor, 1) := by decide +kernel
theorem dX3_restingSet_39 : decode cX3_restingSet 39 = .ok (.iand, 1) := by decide +kernel
theorem dX3_restingSet_40 : decode cX3_restingSet 40 = .ok (.ifCond .ne 26, 3) := by decide +kernel
theorem dX3_restingSet_43 : decode cX3_restingSet 43 = .ok (.iload 6, 2) := by decide +kernel
theorem dX3_restingSet_45 : decode cX3_restingSet 45 = .ok (.invokestatic 49, 3) := by decide +kernel
theorem dX3_restingSet_48 : decode cX3_restingSet 48 = .ok (.iload 5, 2) := by decide +kernel
theorem dX3_restingSet_50 : decode cX3_restingSet 50 = .ok (.iconst 1, 1) := by decide +kernel
theorem dX3_restingSet_51 : decode cX3_restingSet 51 = .ok (.iadd, 1) := by decide +kernel
theorem dX3_restingSet_52 : decode cX3_restingSet 52 = .ok (.if_icmp .ne 14, 3) := by decide +kernel
theorem dX3_restingSet_55 : decode cX3_restingSet 55 = .ok (.aload_n 0, 1) := by decide +kernel
theorem dX3_restingSet_56 : decode cX3_restingSet 56 = .ok (.aload_n 1, 1) := by decide +kernel
theorem dX3_restingSet_57 : decode cX3_restingSet 57 = .ok (.aload_n 2, 1) := by decide +kernel
theorem dX3_restingSet_58 : decode cX3_restingSet 58 = .ok (.aload_n 3, 1) := by decide +kernel
theorem dX3_restingSet_59 : decode cX3_restingSet 59 = .ok (.iload 4, 2) := by decide +kernel
theorem dX3_restingSet_61 : decode cX3_restingSet 61 = .ok (.iload 6, 2) := by decide +kernel
theorem dX3_restingSet_63 : decode cX3_restingSet 63 = .ok (.invokevirtual 70, 3) := by decide +kernel
theorem dX3_restingSet_66 : decode cX3_restingSet 66 = .ok (.iinc 6 1, 3) := by decide +kernel
theorem dX3_restingSet_69 : decode cX3_restingSet 69 = .ok (.goto (-46), 3) := by decide +kernel
theorem dX3_restingSet_72 : decode cX3_restingSet 72 = .ok (.iconst 0, 1) := by decide +kernel
theorem dX3_restingSet_73 : decode cX3_restingSet 73 = .ok (.istore 6, 2) := by decide +kernel
theorem dX3_restingSet_75 : decode cX3_restingSet 75 = .ok (.iload 6, 2) := by decide +kernel
theorem dX3_restingSet_77 : decode cX3_restingSet 77 = .ok (.sipush 128, 3) := by decide +kernel
theorem dX3_restingSet_80 : decode cX3_restingSet 80 = .ok (.if_icmp .ge 44, 3) := by decide +kernel
theorem dX3_restingSet_83 : decode cX3_restingSet 83 = .ok (.iload 6, 2) := by decide +kernel
theorem dX3_restingSet_85 : decode cX3_restingSet 85 = .ok (.aload_n 2, 1) := by decide +kernel
theorem dX3_restingSet_86 : decode cX3_restingSet 86 = .ok (.getfield 43, 3) := by decide +kernel
theorem dX3_restingSet_89 : decode cX3_restingSet 89 = .ok (.iconst (-1), 1) := by decide +kernel
theorem dX3_restingSet_90 : decode cX3_restingSet 90 = .ok (.ixor, 1) := by decide +kernel
theorem dX3_restingSet_91 : decode cX3_restingSet 91 = .ok (.iand, 1) := by decide +kernel
theorem dX3_restingSet_92 : decode cX3_restingSet 92 = .ok (.ifCond .ne 26, 3) := by decide +kernel
theorem dX3_restingSet_95 : decode cX3_restingSet 95 = .ok (.iload 6, 2) := by decide +kernel
theorem dX3_restingSet_97 : decode cX3_restingSet 97 = .ok (.invokestatic 49, 3) := by decide +kernel
theorem dX3_restingSet_100 : decode cX3_restingSet 100 = .ok (.iload 5, 2) := by decide +kernel
theorem dX3_restingSet_102 : decode cX3_restingSet 102 = .ok (.if_icmp .ne 16, 3) := by decide +kernel
theorem dX3_restingSet_105 : decode cX3_restingSet 105 = .ok (.aload_n 0, 1) := by decide +kernel
theorem dX3_restingSet_106 : decode cX3_restingSet 106 = .ok (.aload_n 2, 1) := by decide +kernel
theorem dX3_restingSet_107 : decode cX3_restingSet 107 = .ok (.iload 6, 2) := by decide +kernel
theorem dX3_restingSet_109 : decode cX3_restingSet 109 = .ok (.invokevirtual 74, 3) := by decide +kernel
theorem dX3_restingSet_112 : decode cX3_restingSet 112 = .ok (.ifCond .eq 6, 3) := by decide +kernel
theorem dX3_restingSet_115 : decode cX3_restingSet 115 = .ok (.iload 6, 2) := by decide +kernel
theorem dX3_restingSet_117 : decode cX3_restingSet 117 = .ok (.ireturn, 1) := by decide +kernel
theorem dX3_restingSet_118 : decode cX3_restingSet 118 = .ok (.iinc 6 1, 3) := by decide +kernel
theorem dX3_restingSet_121 : decode cX3_restingSet 121 = .ok (.goto (-46), 3) := by decide +kernel
theorem dX3_restingSet_124 : decode cX3_restingSet 124 = .ok (.iinc 5 1, 3) := by decide +kernel
theorem dX3_restingSet_127 : decode cX3_restingSet 127 = .ok (.goto (-114), 3) := by decide +kernel
theorem dX3_restingSet_130 : decode cX3_restingSet 130 = .ok (.iconst (-1), 1) := by decide +kernel
theorem dX3_restingSet_131 : decode cX3_restingSet 131 = .ok (.ireturn, 1) := by decide +kernel
theorem dX3_goHungry_0 : decode cX3_goHungry 0 = .ok (.aload_n 3, 1) := by decide +kernel
theorem dX3_goHungry_1 : decode cX3_goHungry 1 = .ok (.aload_n 2, 1) := by decide +kernel
theorem dX3_goHungry_2 : decode cX3_goHungry 2 = .ok (.invokevirtual 32, 3) := by decide +kernel
theorem dX3_goHungry_5 : decode cX3_goHungry 5 = .ok (.iconst 0, 1) := by decide +kernel
theorem dX3_goHungry_6 : decode cX3_goHungry 6 = .ok (.istore 6, 2) := by decide +kernel
theorem dX3_goHungry_8 : decode cX3_goHungry 8 = .ok (.iload 6, 2) := by decide +kernel
theorem dX3_goHungry_10 : decode cX3_goHungry 10 = .ok (.iload 4, 2) := by decide +kernel
theorem dX3_goHungry_12 : decode cX3_goHungry 12 = .ok (.if_icmp .ge 17, 3) := by decide +kernel
theorem dX3_goHungry_15 : decode cX3_goHungry 15 = .ok (.aload_n 1, 1) := by decide +kernel
theorem dX3_goHungry_16 : decode cX3_goHungry 16 = .ok (.aload_n 3, 1) := by decide +kernel
theorem dX3_goHungry_17 : decode cX3_goHungry 17 = .ok (.iload 5, 2) := by decide +kernel
theorem dX3_goHungry_19 : decode cX3_goHungry 19 = .ok (.iconst 0, 1) := by decide +kernel
theorem dX3_goHungry_20 : decode cX3_goHungry 20 = .ok (.invokevirtual 37, 3) := by decide +kernel
theorem dX3_goHungry_23 : decode cX3_goHungry 23 = .ok (.iinc 6 1, 3) := by decide +kernel
theorem dX3_goHungry_26 : decode cX3_goHungry 26 = .ok (.goto (-18), 3) := by decide +kernel
theorem dX3_goHungry_29 : decode cX3_goHungry 29 = .ok (.iconst 0, 1) := by decide +kernel
theorem dX3_goHungry_30 : decode cX3_goHungry 30 = .ok (.istore 6, 2) := by decide +kernel
theorem dX3_goHungry_32 : decode cX3_goHungry 32 = .ok (.iload 6, 2) := by decide +kernel
theorem dX3_goHungry_34 : decode cX3_goHungry 34 = .ok (.bipush 7, 2) := by decide +kernel
theorem dX3_goHungry_36 : decode cX3_goHungry 36 = .ok (.if_icmp .ge 56, 3) := by decide +kernel
theorem dX3_goHungry_39 : decode cX3_goHungry 39 = .ok (.iload 5, 2) := by decide +kernel
theorem dX3_goHungry_41 : decode cX3_goHungry 41 = .ok (.ifCond .lt 51, 3) := by decide +kernel
theorem dX3_goHungry_44 : decode cX3_goHungry 44 = .ok (.iload 5, 2) := by decide +kernel
theorem dX3_goHungry_46 : decode cX3_goHungry 46 = .ok (.sipush 128, 3) := by decide +kernel
theorem dX3_goHungry_49 : decode cX3_goHungry 49 = .ok (.if_icmp .ge 43, 3) := by decide +kernel
theorem dX3_goHungry_52 : decode cX3_goHungry 52 = .ok (.aload_n 0, 1) := by decide +kernel
theorem dX3_goHungry_53 : decode cX3_goHungry 53 = .ok (.getfield 19, 3) := by decide +kernel
theorem dX3_goHungry_56 : decode cX3_goHungry 56 = .ok (.iload 5, 2) := by decide +kernel
theorem dX3_goHungry_58 : decode cX3_goHungry 58 = .ok (.bipush 7, 2) := by decide +kernel
theorem dX3_goHungry_60 : decode cX3_goHungry 60 = .ok (.imul, 1) := by decide +kernel
theorem dX3_goHungry_61 : decode cX3_goHungry 61 = .ok (.iload 6, 2) := by decide +kernel
theorem dX3_goHungry_63 : decode cX3_goHungry 63 = .ok (.iadd, 1) := by decide +kernel
theorem dX3_goHungry_64 : decode cX3_goHungry 64 = .ok (.aload_n 3, 1) := by decide +kernel
theorem dX3_goHungry_65 : decode cX3_goHungry 65 = .ok (.iload 6, 2) := by decide +kernel
theorem dX3_goHungry_67 : decode cX3_goHungry 67 = .ok (.invokevirtual 78, 3) := by decide +kernel
theorem dX3_goHungry_70 : decode cX3_goHungry 70 = .ok (.ifCond .eq 13, 3) := by decide +kernel
theorem dX3_goHungry_73 : decode cX3_goHungry 73 = .ok (.aload_n 3, 1) := by decide +kernel
theorem dX3_goHungry_74 : decode cX3_goHungry 74 = .ok (.getfield 82, 3) := by decide +kernel
theorem dX3_goHungry_77 : decode cX3_goHungry 77 = .ok (.iload 6, 2) := by decide +kernel
theorem dX3_goHungry_79 : decode cX3_goHungry 79 = .ok (.iaload, 1) := by decide +kernel
theorem dX3_goHungry_80 : decode cX3_goHungry 80 = .ok (.goto 5, 3) := by decide +kernel
theorem dX3_goHungry_83 : decode cX3_goHungry 83 = .ok (.bipush 10, 2) := by decide +kernel
theorem dX3_goHungry_85 : decode cX3_goHungry 85 = .ok (.iastore, 1) := by decide +kernel
theorem dX3_goHungry_86 : decode cX3_goHungry 86 = .ok (.iinc 6 1, 3) := by decide +kernel
theorem dX3_goHungry_89 : decode cX3_goHungry 89 = .ok (.goto (-57), 3) := by decide +kernel
theorem dX3_goHungry_92 : decode cX3_goHungry 92 = .ok (.return_, 1) := by decide +kernel
theorem dX3_isAtRest_0 : decode cX3_isAtRest 0 = .ok (.iconst 0, 1) := by decide +kernel
theorem dX3_isAtRest_1 : decode cX3_isAtRest 1 = .ok (.istore_n 3, 1) := by decide +kernel
theorem dX3_isAtRest_2 : decode cX3_isAtRest 2 = .ok (.iload_n 3, 1) := by decide +kernel
theorem dX3_isAtRest_3 : decode cX3_isAtRest 3 = .ok (.bipush 7, 2) := by decide +kernel
theorem dX3_isAtRest_5 : decode cX3_isAtRest 5 = .ok (.if_icmp .ge 63, 3) := by decide +kernel
theorem dX3_isAtRest_8 : decode cX3_isAtRest 8 = .ok (.iload_n 2, 1) := by decide +kernel
theorem dX3_isAtRest_9 : decode cX3_isAtRest 9 = .ok (.iconst 1, 1) := by decide +kernel
theorem dX3_isAtRest_10 : decode cX3_isAtRest 10 = .ok (.iload_n 3, 1) := by decide +kernel
theorem dX3_isAtRest_11 : decode cX3_isAtRest 11 = .ok (.ishl, 1) := by decide +kernel
theorem dX3_isAtRest_12 : decode cX3_isAtRest 12 = .ok (.ixor, 1) := by decide +kernel
theorem dX3_isAtRest_13 : decode cX3_isAtRest 13 = .ok (.istore 4, 2) := by decide +kernel
theorem dX3_isAtRest_15 : decode cX3_isAtRest 15 = .ok (.aload_n 1, 1) := by decide +kernel
theorem dX3_isAtRest_16 : decode cX3_isAtRest 16 = .ok (.iload_n 3, 1) := by decide +kernel
theorem dX3_isAtRest_17 : decode cX3_isAtRest 17 = .ok (.invokevirtual 78, 3) := by decide +kernel
theorem dX3_isAtRest_20 : decode cX3_isAtRest 20 = .ok (.ifCond .eq 42, 3) := by decide +kernel
theorem dX3_isAtRest_23 : decode cX3_isAtRest 23 = .ok (.iload_n 2, 1) := by decide +kernel
theorem dX3_isAtRest_24 : decode cX3_isAtRest 24 = .ok (.ifCond .lt 38, 3) := by decide +kernel
theorem dX3_isAtRest_27 : decode cX3_isAtRest 27 = .ok (.iload_n 2, 1) := by decide +kernel
theorem dX3_isAtRest_28 : decode cX3_isAtRest 28 = .ok (.sipush 128, 3) := by decide +kernel
theorem dX3_isAtRest_31 : decode cX3_isAtRest 31 = .ok (.if_icmp .ge 31, 3) := by decide +kernel
theorem dX3_isAtRest_34 : decode cX3_isAtRest 34 = .ok (.aload_n 0, 1) := by decide +kernel
theorem dX3_isAtRest_35 : decode cX3_isAtRest 35 = .ok (.getfield 19, 3) := by decide +kernel
theorem dX3_isAtRest_38 : decode cX3_isAtRest 38 = .ok (.iload 4, 2) := by decide +kernel
theorem dX3_isAtRest_40 : decode cX3_isAtRest 40 = .ok (.bipush 7, 2) := by decide +kernel
theorem dX3_isAtRest_42 : decode cX3_isAtRest 42 = .ok (.imul, 1) := by decide +kernel
theorem dX3_isAtRest_43 : decode cX3_isAtRest 43 = .ok (.iload_n 3, 1) := by decide +kernel
theorem dX3_isAtRest_44 : decode cX3_isAtRest 44 = .ok (.iadd, 1) := by decide +kernel
theorem dX3_isAtRest_45 : decode cX3_isAtRest 45 = .ok (.iaload, 1) := by decide +kernel
theorem dX3_isAtRest_46 : decode cX3_isAtRest 46 = .ok (.aload_n 0, 1) := by decide +kernel
theorem dX3_isAtRest_47 : decode cX3_isAtRest 47 = .ok (.getfield 19, 3) := by decide +kernel
theorem dX3_isAtRest_50 : decode cX3_isAtRest 50 = .ok (.iload_n 2, 1) := by decide +kernel
theorem dX3_isAtRest_51 : decode cX3_isAtRest 51 = .ok (.bipush 7, 2) := by decide +kernel
theorem dX3_isAtRest_53 : decode cX3_isAtRest 53 = .ok (.imul, 1) := by decide +kernel
theorem dX3_isAtRest_54 : decode cX3_isAtRest 54 = .ok (.iload_n 3, 1) := by decide +kernel
theorem dX3_isAtRest_55 : decode cX3_isAtRest 55 = .ok (.iadd, 1) := by decide +kernel
theorem dX3_isAtRest_56 : decode cX3_isAtRest 56 = .ok (.iaload, 1) := by decide +kernel
theorem dX3_isAtRest_57 : decode cX3_isAtRest 57 = .ok (.if_icmp .ge 5, 3) := by decide +kernel
theorem dX3_isAtRest_60 : decode cX3_isAtRest 60 = .ok (.iconst 0, 1) := by decide +kernel
theorem dX3_isAtRest_61 : decode cX3_isAtRest 61 = .ok (.ireturn, 1) := by decide +kernel
theorem dX3_isAtRest_62 : decode cX3_isAtRest 62 = .ok (.iinc 3 1, 3) := by decide +kernel
theorem dX3_isAtRest_65 : decode cX3_isAtRest 65 = .ok (.goto (-63), 3) := by decide +kernel
theorem dX3_isAtRest_68 : decode cX3_isAtRest 68 = .ok (.iconst 1, 1) := by decide +kernel
theorem dX3_isAtRest_69 : decode cX3_isAtRest 69 = .ok (.ireturn, 1) := by decide +kernel
theorem dX4_init_0 : decode cX4_init 0 = .ok (.aload_n 0, 1) := by decide +kernel
theorem dX4_init_1 : decode cX4_init 1 = .ok (.invokespecial 1, 3) := by decide +kernel
theorem dX4_init_4 : decode cX4_init 4 = .ok (.aload_n 0, 1) := by decide +kernel
theorem dX4_init_5 : decode cX4_init 5 = .ok (.bipush 20, 2) := by decide +kernel
theorem dX4_init_7 : decode cX4_init 7 = .ok (.anewarray 9, 3) := by decide +kernel
theorem dX4_init_10 : decode cX4_init 10 = .ok (.putfield 11, 3) := by decide +kernel
theorem dX4_init_13 : decode cX4_init 13 = .ok (.iconst 0, 1) := by decide +kernel
theorem dX4_init_14 : decode cX4_init 14 = .ok (.istore_n 1, 1) := by decide +kernel
theorem dX4_init_15 : decode cX4_init 15 = .ok (.iload_n 1, 1) := by decide +kernel
theorem dX4_init_16 : decode cX4_init 16 = .ok (.bipush 20, 2) := by decide +kernel
theorem dX4_init_18 : decode cX4_init 18 = .ok (.if_icmp .ge 22, 3) := by decide +kernel
theorem dX4_init_21 : decode cX4_init 21 = .ok (.aload_n 0, 1) := by decide +kernel
theorem dX4_init_22 : decode cX4_init 22 = .ok (.getfield 11, 3) := by decide +kernel
theorem dX4_init_25 : decode cX4_init 25 = .ok (.iload_n 1, 1) := by decide +kernel
theorem dX4_init_26 : decode cX4_init 26 = .ok (.new 9, 3) := by decide +kernel
theorem dX4_init_29 : decode cX4_init 29 = .ok (.dup, 1) := by decide +kernel
theorem dX4_init_30 : decode cX4_init 30 = .ok (.invokespecial 15, 3) := by decide +kernel
theorem dX4_init_33 : decode cX4_init 33 = .ok (.aastore, 1) := by decide +kernel
theorem dX4_init_34 : decode cX4_init 34 = .ok (.iinc 1 1, 3) := by decide +kernel
theorem dX4_init_37 : decode cX4_init 37 = .ok (.goto (-22), 3) := by decide +kernel
theorem dX4_init_40 : decode cX4_init 40 = .ok (.return_, 1) := by decide +kernel
theorem dX4_remember_0 : decode cX4_remember 0 = .ok (.aload_n 0, 1) := by decide +kernel
theorem dX4_remember_1 : decode cX4_remember 1 = .ok (.getfield 11, 3) := by decide +kernel
theorem dX4_remember_4 : decode cX4_remember 4 = .ok (.aload_n 0, 1) := by decide +kernel
theorem dX4_remember_5 : decode cX4_remember 5 = .ok (.getfield 16, 3) := by decide +kernel
theorem dX4_remember_8 : decode cX4_remember 8 = .ok (.aaload, 1) := by decide +kernel
theorem dX4_remember_9 : decode cX4_remember 9 = .ok (.astore_n 2, 1) := by decide +kernel
theorem dX4_remember_10 : decode cX4_remember 10 = .ok (.aload_n 2, 1) := by decide +kernel
theorem dX4_remember_11 : decode cX4_remember 11 = .ok (.ifnull 8, 3) := by decide +kernel
theorem dX4_remember_14 : decode cX4_remember 14 = .ok (.aload_n 2, 1) := by decide +kernel
theorem dX4_remember_15 : decode cX4_remember 15 = .ok (.aload_n 1, 1) := by decide +kernel
theorem dX4_remember_16 : decode cX4_remember 16 = .ok (.invokevirtual 20, 3) := by decide +kernel
theorem dX4_remember_19 : decode cX4_remember 19 = .ok (.aload_n 0, 1) := by decide +kernel
theorem dX4_remember_20 : decode cX4_remember 20 = .ok (.aload_n 0, 1) := by decide +kernel
theorem dX4_remember_21 : decode cX4_remember 21 = .ok (.getfield 16, 3) := by decide +kernel
theorem dX4_remember_24 : decode cX4_remember 24 = .ok (.iconst 1, 1) := by decide +kernel
theorem dX4_remember_25 : decode cX4_remember 25 = .ok (.iadd, 1) := by decide +kernel
theorem dX4_remember_26 : decode cX4_remember 26 = .ok (.bipush 20, 2) := by decide +kernel
theorem dX4_remember_28 : decode cX4_remember 28 = .ok (.irem, 1) := by decide +kernel
theorem dX4_remember_29 : decode cX4_remember 29 = .ok (.putfield 16, 3) := by decide +kernel
theorem dX4_remember_32 : decode cX4_remember 32 = .ok (.aload_n 0, 1) := by decide +kernel
theorem dX4_remember_33 : decode cX4_remember 33 = .ok (.aload_n 0, 1) := by decide +kernel
theorem dX4_remember_34 : decode cX4_remember 34 = .ok (.getfield 24, 3) := by decide +kernel
theorem dX4_remember_37 : decode cX4_remember 37 = .ok (.iconst 1, 1) := by decide +kernel
theorem dX4_remember_38 : decode cX4_remember 38 = .ok (.iadd, 1) := by decide +kernel
theorem dX4_remember_39 : decode cX4_remember 39 = .ok (.bipush 20, 2) := by decide +kernel
theorem dX4_remember_41 : decode cX4_remember 41 = .ok (.invokestatic 27, 3) := by decide +kernel
theorem dX4_remember_44 : decode cX4_remember 44 = .ok (.putfield 24, 3) := by decide +kernel
theorem dX4_remember_47 : decode cX4_remember 47 = .ok (.return_, 1) := by decide +kernel
theorem dX4_goBack_0 : decode cX4_goBack 0 = .ok (.aload_n 0, 1) := by decide +kernel
theorem dX4_goBack_1 : decode cX4_goBack 1 = .ok (.getfield 16, 3) := by decide +kernel
theorem dX4_goBack_4 : decode cX4_goBack 4 = .ok (.bipush 20, 2) := by decide +kernel
theorem dX4_goBack_6 : decode cX4_goBack 6 = .ok (.iadd, 1) := by decide +kernel
theorem dX4_goBack_7 : decode cX4_goBack 7 = .ok (.iconst 1, 1) := by decide +kernel
theorem dX4_goBack_8 : decode cX4_goBack 8 = .ok (.isub, 1) := by decide +kernel
theorem dX4_goBack_9 : decode cX4_goBack 9 = .ok (.bipush 20, 2) := by decide +kernel
theorem dX4_goBack_11 : decode cX4_goBack 11 = .ok (.irem, 1) := by decide +kernel
theorem dX4_goBack_12 : decode cX4_goBack 12 = .ok (.istore_n 2, 1) := by decide +kernel
theorem dX4_goBack_13 : decode cX4_goBack 13 = .ok (.aload_n 0, 1) := by decide +kernel
theorem dX4_goBack_14 : decode cX4_goBack 14 = .ok (.getfield 11, 3) := by decide +kernel
theorem dX4_goBack_17 : decode cX4_goBack 17 = .ok (.iload_n 2, 1) := by decide +kernel
theorem dX4_goBack_18 : decode cX4_goBack 18 = .ok (.aaload, 1) := by decide +kernel
theorem dX4_goBack_19 : decode cX4_goBack 19 = .ok (.astore_n 3, 1) := by decide +kernel
theorem dX4_goBack_20 : decode cX4_goBack 20 = .ok (.aload_n 0, 1) := by decide +kernel
theorem dX4_goBack_21 : decode cX4_goBack 21 = .ok (.getfield 24, 3) := by decide +kernel
theorem dX4_goBack_24 : decode cX4_goBack 24 = .ok (.ifCond .eq 7, 3) := by decide +kernel
theorem dX4_goBack_27 : decode cX4_goBack 27 = .ok (.aload_n 3, 1) := by decide +kernel
theorem dX4_goBack_28 : decode cX4_goBack 28 = .ok (.ifnonnull 5, 3) := by decide +kernel
theorem dX4_goBack_31 : decode cX4_goBack 31 = .ok (.iconst 0, 1) := by decide +kernel
theorem dX4_goBack_32 : decode cX4_goBack 32 = .ok (.ireturn, 1) := by decide +kernel
theorem dX4_goBack_33 : decode cX4_goBack 33 = .ok (.aload_n 1, 1) := by decide +kernel
theorem dX4_goBack_34 : decode cX4_goBack 34 = .ok (.aload_n 3, 1) := by decide +kernel
theorem dX4_goBack_35 : decode cX4_goBack 35 = .ok (.invokevirtual 20, 3) := by decide +kernel
theorem dX4_goBack_38 : decode cX4_goBack 38 = .ok (.aload_n 0, 1) := by decide +kernel
theorem dX4_goBack_39 : decode cX4_goBack 39 = .ok (.iload_n 2, 1) := by decide +kernel
theorem dX4_goBack_40 : decode cX4_goBack 40 = .ok (.putfield 16, 3) := by decide +kernel
theorem dX4_goBack_43 : decode cX4_goBack 43 = .ok (.aload_n 0, 1) := by decide +kernel
theorem dX4_goBack_44 : decode cX4_goBack 44 = .ok (.dup, 1) := by decide +kernel
theorem dX4_goBack_45 : decode cX4_goBack 45 = .ok (.getfield 24, 3) := by decide +kernel
theorem dX4_goBack_48 : decode cX4_goBack 48 = .ok (.iconst 1, 1) := by decide +kernel
theorem dX4_goBack_49 : decode cX4_goBack 49 = .ok (.isub, 1) := by decide +kernel
theorem dX4_goBack_50 : decode cX4_goBack 50 = .ok (.putfield 24, 3) := by decide +kernel
theorem dX4_goBack_53 : decode cX4_goBack 53 = .ok (.iconst 1, 1) := by decide +kernel
theorem dX4_goBack_54 : decode cX4_goBack 54 = .ok (.ireturn, 1) := by decide +kernel
theorem dX5_init_0 : decode cX5_init 0 = .ok (.aload_n 0, 1) := by decide +kernel
theorem dX5_init_1 : decode cX5_init 1 = .ok (.invokespecial 3, 3) := by decide +kernel
theorem dX5_init_4 : decode cX5_init 4 = .ok (.aload_n 0, 1) := by decide +kernel
theorem dX5_init_5 : decode cX5_init 5 = .ok (.bipush 24, 2) := by decide +kernel
theorem dX5_init_7 : decode cX5_init 7 = .ok (.newarray .int, 2) := by decide +kernel
theorem dX5_init_9 : decode cX5_init 9 = .ok (.putfield 11, 3) := by decide +kernel
theorem dX5_init_12 : decode cX5_init 12 = .ok (.aload_n 0, 1) := by decide +kernel
theorem dX5_init_13 : decode cX5_init 13 = .ok (.bipush 7, 2) := by decide +kernel
theorem dX5_init_15 : decode cX5_init 15 = .ok (.newarray .int, 2) := by decide +kernel
theorem dX5_init_17 : decode cX5_init 17 = .ok (.putfield 17, 3) := by decide +kernel
theorem dX5_init_20 : decode cX5_init 20 = .ok (.aload_n 0, 1) := by decide +kernel
theorem dX5_init_21 : decode cX5_init 21 = .ok (.bipush 7, 2) := by decide +kernel
theorem dX5_init_23 : decode cX5_init 23 = .ok (.newarray .int, 2) := by decide +kernel
theorem dX5_init_25 : decode cX5_init 25 = .ok (.putfield 20, 3) := by decide +kernel
theorem dX5_init_28 : decode cX5_init 28 = .ok (.aload_n 0, 1) := by decide +kernel
theorem dX5_init_29 : decode cX5_init 29 = .ok (.bipush 64, 2) := by decide +kernel
theorem dX5_init_31 : decode cX5_init 31 = .ok (.newarray .int, 2) := by decide +kernel
theorem dX5_init_33 : decode cX5_init 33 = .ok (.putfield 23, 3) := by decide +kernel
theorem dX5_init_36 : decode cX5_init 36 = .ok (.return_, 1) := by decide +kernel
theorem dX5_value_0 : decode cX5_value 0 = .ok (.iconst 0, 1) := by decide +kernel
theorem dX5_value_1 : decode cX5_value 1 = .ok (.istore 4, 2) := by decide +kernel
theorem dX5_value_3 : decode cX5_value 3 = .ok (.iload_n 3, 1) := by decide +kernel
theorem dX5_value_4 : decode cX5_value 4 = .ok (.aload_n 1, 1) := by decide +kernel
theorem dX5_value_5 : decode cX5_value 5 = .ok (.arraylength, 1) := by decide +kernel
theorem dX5_value_6 : decode cX5_value 6 = .ok (.if_icmp .ge 7, 3) := by decide +kernel
theorem dX5_value_9 : decode cX5_value 9 = .ok (.iload_n 3, 1) := by decide +kernel
theorem dX5_value_10 : decode cX5_value 10 = .ok (.goto 5, 3) := by decide +kernel
theorem dX5_value_13 : decode cX5_value 13 = .ok (.aload_n 1, 1) := by decide +kernel
theorem dX5_value_14 : decode cX5_value 14 = .ok (.arraylength, 1) := by decide +kernel
theorem dX5_value_15 : decode cX5_value 15 = .ok (.istore 5, 2) := by decide +kernel
theorem dX5_value_17 : decode cX5_value 17 = .ok (.iload_n 2, 1) := by decide +kernel
theorem dX5_value_18 : decode cX5_value 18 = .ok (.ifCond .ge 7, 3) := by decide +kernel
theorem dX5_value_21 : decode cX5_value 21 = .ok (.iconst 0, 1) := by decide +kernel
theorem dX5_value_22 : decode cX5_value 22 = .ok (.goto 4, 3) := by decide +kernel
theorem dX5_value_25 : decode cX5_value 25 = .ok (.iload_n 2, 1) := by decide +kernel
theorem dX5_value_26 : decode cX5_value 26 = .ok (.istore 6, 2) := by decide +kernel
theorem dX5_value_28 : decode cX5_value 28 = .ok (.iload 6, 2) := by decide +kernel
theorem dX5_value_30 : decode cX5_value 30 = .ok (.iload 5, 2) := by decide +kernel
theorem dX5_value_32 : decode cX5_value 32 = .ok (.if_icmp .ge 173, 3) := by decide +kernel
theorem dX5_value_35 : decode cX5_value 35 = .ok (.aload_n 1, 1) := by decide +kernel
theorem dX5_value_36 : decode cX5_value 36 = .ok (.iload 6, 2) := by decide +kernel
theorem dX5_value_38 : decode cX5_value 38 = .ok (.iaload, 1) := by decide +kernel
theorem dX5_value_39 : decode cX5_value 39 = .ok (.istore 7, 2) := by decide +kernel
theorem dX5_value_41 : decode cX5_value 41 = .ok (.iload 7, 2) := by decide +kernel
theorem dX5_value_43 : decode cX5_value 43 = .ok (.sipush 10000, 3) := by decide +kernel
theorem dX5_value_46 : decode cX5_value 46 = .ok (.if_icmp .lt 48, 3) := by decide +kernel
theorem dX5_value_49 : decode cX5_value 49 = .ok (.iload 7, 2) := by decide +kernel
theorem dX5_value_51 : decode cX5_value 51 = .ok (.sipush 10000, 3) := by decide +kernel
theorem dX5_value_54 : decode cX5_value 54 = .ok (.isub, 1) := by decide +kernel
theorem dX5_value_55 : decode cX5_value 55 = .ok (.istore 8, 2) := by decide +kernel
theorem dX5_value_57 : decode cX5_value 57 = .ok (.iload 4, 2) := by decide +kernel
theorem dX5_value_59 : decode cX5_value 59 = .ok (.bipush 64, 2) := by decide +kernel
theorem dX5_value_61 : decode cX5_value 61 = .ok (.if_icmp .ge 30, 3) := by decide +kernel
theorem dX5_value_64 : decode cX5_value 64 = .ok (.iload 8, 2) := by decide +kernel
theorem dX5_value_66 : decode cX5_value 66 = .ok (.aload_n 0, 1) := by decide +kernel
theorem dX5_value_67 : decode cX5_value 67 = .ok (.getfield 11, 3) := by decide +kernel
theorem dX5_value_70 : decode cX5_value 70 = .ok (.arraylength, 1) := by decide +kernel
theorem dX5_value_71 : decode cX5_value 71 = .ok (.if_icmp .ge 20, 3) := by decide +kernel
theorem dX5_value_74 : decode cX5_value 74 = .ok (.aload_n 0, 1) := by decide +kernel
theorem dX5_value_75 : decode cX5_value 75 = .ok (.getfield 23, 3) := by decide +kernel
theorem dX5_value_78 : decode cX5_value 78 = .ok (.iload 4, 2) := by decide +kernel
theorem dX5_value_80 : decode cX5_value 80 = .ok (.aload_n 0, 1) := by decide +kernel
theorem dX5_value_81 : decode cX5_value 81 = .ok (.getfield 11, 3) := by decide +kernel
theorem dX5_value_84 : decode cX5_value 84 = .ok (.iload 8, 2) := by decide +kernel
theorem dX5_value_86 : decode cX5_value 86 = .ok (.iaload, 1) := by decide +kernel
theorem dX5_value_87 : decode cX5_value 87 = .ok (.iastore, 1) := by decide +kernel
theorem dX5_value_88 : decode cX5_value 88 = .ok (.iinc 4 1, 3) := by decide +kernel
theorem dX5_value_91 : decode cX5_value 91 = .ok (.goto 108, 3) := by decide +kernel
theorem dX5_value_94 : decode cX5_value 94 = .ok (.iload 7, 2) := by decide +kernel
theorem dX5_value_96 : decode cX5_value 96 = .ok (.ifCond .lt 25, 3) := by decide +kernel
theorem dX5_value_99 : decode cX5_value 99 = .ok (.iload 4, 2) := by decide +kernel
theorem dX5_value_101 : decode cX5_value 101 = .ok (.bipush 64, 2) := by decide +kernel
theorem dX5_value_103 : decode cX5_value 103 = .ok (.if_icmp .ge 96, 3) := by decide +kernel
theorem dX5_value_106 : decode cX5_value 106 = .ok (.aload_n 0, 1) := by decide +kernel
theorem dX5_value_107 : decode cX5_value 107 = .ok (.getfield 23, 3) := by decide +kernel
theorem dX5_value_110 : decode cX5_value 110 = .ok (.iload 4, 2) := by decide +kernel
theorem dX5_value_112 : decode cX5_value 112 = .ok (.iload 7, 2) := by decide +kernel
theorem dX5_value_114 : decode cX5_value 114 = .ok (.iastore, 1) := by decide +kernel
theorem dX5_value_115 : decode cX5_value 115 = .ok (.iinc 4 1, 3) := by decide +kernel
theorem dX5_value_118 : decode cX5_value 118 = .ok (.goto 81, 3) := by decide +kernel
theorem dX5_value_121 : decode cX5_value 121 = .ok (.iload 7, 2) := by decide +kernel
theorem dX5_value_123 : decode cX5_value 123 = .ok (.bipush (-12), 2) := by decide +kernel
theorem dX5_value_125 : decode cX5_value 125 = .ok (.if_icmp .gt 35, 3) := by decide +kernel
theorem dX5_value_128 : decode cX5_value 128 = .ok (.iload 4, 2) := by decide +kernel
theorem dX5_value_130 : decode cX5_value 130 = .ok (.ifCond .le 69, 3) := by decide +kernel
theorem dX5_value_133 : decode cX5_value 133 = .ok (.aload_n 0, 1) := by decide +kernel
theorem dX5_value_134 : decode cX5_value 134 = .ok (.getfield 23, 3) := by decide +kernel
theorem dX5_value_137 : decode cX5_value 137 = .ok (.iload 4, 2) := by decide +kernel
theorem dX5_value_139 : decode cX5_value 139 = .ok (.iconst 1, 1) := by decide +kernel
theorem dX5_value_140 : decode cX5_value 140 = .ok (.isub, 1) := by decide +kernel
theorem dX5_value_141 : decode cX5_value 141 = .ok (.aload_n 0, 1) := by decide +kernel
theorem dX5_value_142 : decode cX5_value 142 = .ok (.iload 7, 2) := by decide +kernel
theorem dX5_value_144 : decode cX5_value 144 = .ok (.aload_n 0, 1) := by decide +kernel
theorem dX5_value_145 : decode cX5_value 145 = .ok (.getfield 23, 3) := by decide +kernel
theorem dX5_value_148 : decode cX5_value 148 = .ok (.iload 4, 2) := by decide +kernel
theorem dX5_value_150 : decode cX5_value 150 = .ok (.iconst 1, 1) := by decide +kernel
theorem dX5_value_151 : decode cX5_value 151 = .ok (.isub, 1) := by decide +kernel
theorem dX5_value_152 : decode cX5_value 152 = .ok (.iaload, 1) := by decide +kernel
theorem dX5_value_153 : decode cX5_value 153 = .ok (.invokevirtual 26, 3) := by decide +kernel
theorem dX5_value_156 : decode cX5_value 156 = .ok (.iastore, 1) := by decide +kernel
theorem dX5_value_157 : decode cX5_value 157 = .ok (.goto 42, 3) := by decide +kernel
theorem dX5_value_160 : decode cX5_value 160 = .ok (.iload 4, 2) := by decide +kernel
theorem dX5_value_162 : decode cX5_value 162 = .ok (.iconst 1, 1) := by decide +kernel
theorem dX5_value_163 : decode cX5_value 163 = .ok (.if_icmp .le 36, 3) := by decide +kernel
theorem dX5_value_166 : decode cX5_value 166 = .ok (.iinc 4 (-1), 3) := by decide +kernel
theorem dX5_value_169 : decode cX5_value 169 = .ok (.aload_n 0, 1) := by decide +kernel
theorem dX5_value_170 : decode cX5_value 170 = .ok (.getfield 23, 3) := by decide +kernel
theorem dX5_value_173 : decode cX5_value 173 = .ok (.iload 4, 2) := by decide +kernel
theorem dX5_value_175 : decode cX5_value 175 = .ok (.iconst 1, 1) := by decide +kernel
theorem dX5_value_176 : decode cX5_value 176 = .ok (.isub, 1) := by decide +kernel
theorem dX5_value_177 : decode cX5_value 177 = .ok (.iload 7, 2) := by decide +kernel
theorem dX5_value_179 : decode cX5_value 179 = .ok (.aload_n 0, 1) := by decide +kernel
theorem dX5_value_180 : decode cX5_value 180 = .ok (.getfield 23, 3) := by decide +kernel
theorem dX5_value_183 : decode cX5_value 183 = .ok (.iload 4, 2) := by decide +kernel
theorem dX5_value_185 : decode cX5_value 185 = .ok (.iconst 1, 1) := by decide +kernel
theorem dX5_value_186 : decode cX5_value 186 = .ok (.isub, 1) := by decide +kernel
theorem dX5_value_187 : decode cX5_value 187 = .ok (.iaload, 1) := by decide +kernel
theorem dX5_value_188 : decode cX5_value 188 = .ok (.aload_n 0, 1) := by decide +kernel
theorem dX5_value_189 : decode cX5_value 189 = .ok (.getfield 23, 3) := by decide +kernel
theorem dX5_value_192 : decode cX5_value 192 = .ok (.iload 4, 2) := by decide +kernel
theorem dX5_value_194 : decode cX5_value 194 = .ok (.iaload, 1) := by decide +kernel
theorem dX5_value_195 : decode cX5_value 195 = .ok (.invokestatic 30, 3) := by decide +kernel
theorem dX5_value_198 : decode cX5_value 198 = .ok (.iastore, 1) := by decide +kernel
theorem dX5_value_199 : decode cX5_value 199 = .ok (.iinc 6 1, 3) := by decide +kernel
theorem dX5_value_202 : decode cX5_value 202 = .ok (.goto (-174), 3) := by decide +kernel
theorem dX5_value_205 : decode cX5_value 205 = .ok (.iload 4, 2) := by decide +kernel
theorem dX5_value_207 : decode cX5_value 207 = .ok (.ifCond .le 15, 3) := by decide +kernel
theorem dX5_value_210 : decode cX5_value 210 = .ok (.aload_n 0, 1) := by decide +kernel
theorem dX5_value_211 : decode cX5_value 211 = .ok (.getfield 23, 3) := by decide +kernel
theorem dX5_value_214 : decode cX5_value 214 = .ok (.iload 4, 2) := by decide +kernel
theorem dX5_value_216 : decode cX5_value 216 = .ok (.iconst 1, 1) := by decide +kernel
theorem dX5_value_217 : decode cX5_value 217 = .ok (.isub, 1) := by decide +kernel
theorem dX5_value_218 : decode cX5_value 218 = .ok (.iaload, 1) := by decide +kernel
theorem dX5_value_219 : decode cX5_value 219 = .ok (.goto 4, 3) := by decide +kernel
theorem dX5_value_222 : decode cX5_value 222 = .ok (.iconst 0, 1) := by decide +kernel
theorem dX5_value_223 : decode cX5_value 223 = .ok (.ireturn, 1) := by decide +kernel
theorem dX5_single_0 : decode cX5_single 0 = .ok (.iload_n 2, 1) := by decide +kernel
theorem dX5_single_1 : decode cX5_single 1 = .ok (.ifCond .lt 13, 3) := by decide +kernel
theorem dX5_single_4 : decode cX5_single 4 = .ok (.iload_n 2, 1) := by decide +kernel
theorem dX5_single_5 : decode cX5_single 5 = .ok (.bipush 7, 2) := by decide +kernel
theorem dX5_single_7 : decode cX5_single 7 = .ok (.if_icmp .ge 7, 3) := by decide +kernel
theorem dX5_single_10 : decode cX5_single 10 = .ok (.iconst 1, 1) := by decide +kernel
theorem dX5_single_11 : decode cX5_single 11 = .ok (.goto 4, 3) := by decide +kernel
theorem dX5_single_14 : decode cX5_single 14 = .ok (.iconst 0, 1) := by decide +kernel
theorem dX5_single_15 : decode cX5_single 15 = .ok (.istore_n 3, 1) := by decide +kernel
theorem dX5_single_16 : decode cX5_single 16 = .ok (.iload_n 1, 1) := by decide +kernel
theorem dX5_single_17 : decode cX5_single 17 = .ok (.lookupswitch 52 #[(-13, 37), (-12, 27)], 27) := by decide +kernel
theorem dX5_single_44 : decode cX5_single 44 = .ok (.iload_n 2, 1) := by decide +kernel
theorem dX5_single_45 : decode cX5_single 45 = .ok (.ifCond .ne 7, 3) := by decide +kernel
theorem dX5_single_48 : decode cX5_single 48 = .ok (.iconst 1, 1) := by decide +kernel
theorem dX5_single_49 : decode cX5_single 49 = .ok (.goto 4, 3) := by decide +kernel
theorem dX5_single_52 : decode cX5_single 52 = .ok (.iconst 0, 1) := by decide +kernel
theorem dX5_single_53 : decode cX5_single 53 = .ok (.ireturn, 1) := by decide +kernel
theorem dX5_single_54 : decode cX5_single 54 = .ok (.iload_n 3, 1) := by decide +kernel
theorem dX5_single_55 : decode cX5_single 55 = .ok (.ifCond .eq 12, 3) := by decide +kernel
theorem dX5_single_58 : decode cX5_single 58 = .ok (.aload_n 0, 1) := by decide +kernel
theorem dX5_single_59 : decode cX5_single 59 = .ok (.getfield 17, 3) := by decide +kernel
theorem dX5_single_62 : decode cX5_single 62 = .ok (.iload_n 2, 1) := by decide +kernel
theorem dX5_single_63 : decode cX5_single 63 = .ok (.iaload, 1) := by decide +kernel
theorem dX5_single_64 : decode cX5_single 64 = .ok (.goto 4, 3) := by decide +kernel
theorem dX5_single_67 : decode cX5_single 67 = .ok (.iconst 0, 1) := by decide +kernel
theorem dX5_single_68 : decode cX5_single 68 = .ok (.ireturn, 1) := by decide +kernel
theorem dX5_single_69 : decode cX5_single 69 = .ok (.iload_n 3, 1) := by decide +kernel
theorem dX5_single_70 : decode cX5_single 70 = .ok (.ifCond .eq 12, 3) := by decide +kernel
theorem dX5_single_73 : decode cX5_single 73 = .ok (.aload_n 0, 1) := by decide +kernel
theorem dX5_single_74 : decode cX5_single 74 = .ok (.getfield 20, 3) := by decide +kernel
theorem dX5_single_77 : decode cX5_single 77 = .ok (.iload_n 2, 1) := by decide +kernel
theorem dX5_single_78 : decode cX5_single 78 = .ok (.iaload, 1) := by decide +kernel
theorem dX5_single_79 : decode cX5_single 79 = .ok (.goto 4, 3) := by decide +kernel
theorem dX5_single_82 : decode cX5_single 82 = .ok (.iconst (-1), 1) := by decide +kernel
theorem dX5_single_83 : decode cX5_single 83 = .ok (.ireturn, 1) := by decide +kernel
theorem dX5_joined_0 : decode cX5_joined 0 = .ok (.iload_n 0, 1) := by decide +kernel
theorem dX5_joined_1 : decode cX5_joined 1 = .ok (.tableswitch 179 (-10) (-1) #[168, 164, 160, 149, 138, 127, 82, 73, 64, 55], 55) := by decide +kernel
theorem dX5_joined_56 : decode cX5_joined 56 = .ok (.iload_n 1, 1) := by decide +kernel
theorem dX5_joined_57 : decode cX5_joined 57 = .ok (.i2l, 1) := by decide +kernel
theorem dX5_joined_58 : decode cX5_joined 58 = .ok (.iload_n 2, 1) := by decide +kernel
theorem dX5_joined_59 : decode cX5_joined 59 = .ok (.i2l, 1) := by decide +kernel
theorem dX5_joined_60 : decode cX5_joined 60 = .ok (.ladd, 1) := by decide +kernel
theorem dX5_joined_61 : decode cX5_joined 61 = .ok (.lstore_n 3, 1) := by decide +kernel
theorem dX5_joined_62 : decode cX5_joined 62 = .ok (.goto 129, 3) := by decide +kernel
theorem dX5_joined_65 : decode cX5_joined 65 = .ok (.iload_n 1, 1) := by decide +kernel
theorem dX5_joined_66 : decode cX5_joined 66 = .ok (.i2l, 1) := by decide +kernel
theorem dX5_joined_67 : decode cX5_joined 67 = .ok (.iload_n 2, 1) := by decide +kernel
theorem dX5_joined_68 : decode cX5_joined 68 = .ok (.i2l, 1) := by decide +kernel
theorem dX5_joined_69 : decode cX5_joined 69 = .ok (.lsub, 1) := by decide +kernel
theorem dX5_joined_70 : decode cX5_joined 70 = .ok (.lstore_n 3, 1) := by decide +kernel
theorem dX5_joined_71 : decode cX5_joined 71 = .ok (.goto 120, 3) := by decide +kernel
theorem dX5_joined_74 : decode cX5_joined 74 = .ok (.iload_n 1, 1) := by decide +kernel
theorem dX5_joined_75 : decode cX5_joined 75 = .ok (.i2l, 1) := by decide +kernel
theorem dX5_joined_76 : decode cX5_joined 76 = .ok (.iload_n 2, 1) := by decide +kernel
theorem dX5_joined_77 : decode cX5_joined 77 = .ok (.i2l, 1) := by decide +kernel
theorem dX5_joined_78 : decode cX5_joined 78 = .ok (.lmul, 1) := by decide +kernel
theorem dX5_joined_79 : decode cX5_joined 79 = .ok (.lstore_n 3, 1) := by decide +kernel
theorem dX5_joined_80 : decode cX5_joined 80 = .ok (.goto 111, 3) := by decide +kernel
theorem dX5_joined_83 : decode cX5_joined 83 = .ok (.iload_n 2, 1) := by decide +kernel
theorem dX5_joined_84 : decode cX5_joined 84 = .ok (.ifCond .ne 7, 3) := by decide +kernel
theorem dX5_joined_87 : decode cX5_joined 87 = .ok (.iconst 0, 1) := by decide +kernel
theorem dX5_joined_88 : decode cX5_joined 88 = .ok (.goto 39, 3) := by decide +kernel
theorem dX5_joined_91 : decode cX5_joined 91 = .ok (.iload_n 1, 1) := by decide +kernel
theorem dX5_joined_92 : decode cX5_joined 92 = .ok (.iload_n 2, 1) := by decide +kernel
theorem dX5_joined_93 : decode cX5_joined 93 = .ok (.idiv, 1) := by decide +kernel
theorem dX5_joined_94 : decode cX5_joined 94 = .ok (.iload_n 1, 1) := by decide +kernel
theorem dX5_joined_95 : decode cX5_joined 95 = .ok (.iload_n 2, 1) := by decide +kernel
theorem dX5_joined_96 : decode cX5_joined 96 = .ok (.irem, 1) := by decide +kernel
theorem dX5_joined_97 : decode cX5_joined 97 = .ok (.ifCond .eq 28, 3) := by decide +kernel
theorem dX5_joined_100 : decode cX5_joined 100 = .ok (.iload_n 1, 1) := by decide +kernel
theorem dX5_joined_101 : decode cX5_joined 101 = .ok (.ifCond .ge 7, 3) := by decide +kernel
theorem dX5_joined_104 : decode cX5_joined 104 = .ok (.iconst 1, 1) := by decide +kernel
theorem dX5_joined_105 : decode cX5_joined 105 = .ok (.goto 4, 3) := by decide +kernel
theorem dX5_joined_108 : decode cX5_joined 108 = .ok (.iconst 0, 1) := by decide +kernel
theorem dX5_joined_109 : decode cX5_joined 109 = .ok (.iload_n 2, 1) := by decide +kernel
theorem dX5_joined_110 : decode cX5_joined 110 = .ok (.ifCond .ge 7, 3) := by decide +kernel
theorem dX5_joined_113 : decode cX5_joined 113 = .ok (.iconst 1, 1) := by decide +kernel
theorem dX5_joined_114 : decode cX5_joined 114 = .ok (.goto 4, 3) := by decide +kernel
theorem dX5_joined_117 : decode cX5_joined 117 = .ok (.iconst 0, 1) := by decide +kernel
theorem dX5_joined_118 : decode cX5_joined 118 = .ok (.if_icmp .eq 7, 3) := by decide +kernel
theorem dX5_joined_121 : decode cX5_joined 121 = .ok (.iconst 1, 1) := by decide +kernel
theorem dX5_joined_122 : decode cX5_joined 122 = .ok (.goto 4, 3) := by decide +kernel
theorem dX5_joined_125 : decode cX5_joined 125 = .ok (.iconst 0, 1) := by decide +kernel
theorem dX5_joined_126 : decode cX5_joined 126 = .ok (.isub, 1) := by decide +kernel
theorem dX5_joined_127 : decode cX5_joined 127 = .ok (.ireturn, 1) := by decide +kernel
theorem dX5_joined_128 : decode cX5_joined 128 = .ok (.iload_n 1, 1) := by decide +kernel
theorem dX5_joined_129 : decode cX5_joined 129 = .ok (.iload_n 2, 1) := by decide +kernel
theorem dX5_joined_130 : decode cX5_joined 130 = .ok (.if_icmp .ge 7, 3) := by decide +kernel
theorem dX5_joined_133 : decode cX5_joined 133 = .ok (.iconst 1, 1) := by decide +kernel
theorem dX5_joined_134 : decode cX5_joined 134 = .ok (.goto 4, 3) := by decide +kernel
theorem dX5_joined_137 : decode cX5_joined 137 = .ok (.iconst 0, 1) := by decide +kernel
theorem dX5_joined_138 : decode cX5_joined 138 = .ok (.ireturn, 1) := by decide +kernel
theorem dX5_joined_139 : decode cX5_joined 139 = .ok (.iload_n 1, 1) := by decide +kernel
theorem dX5_joined_140 : decode cX5_joined 140 = .ok (.iload_n 2, 1) := by decide +kernel
theorem dX5_joined_141 : decode cX5_joined 141 = .ok (.if_icmp .le 7, 3) := by decide +kernel
theorem dX5_joined_144 : decode cX5_joined 144 = .ok (.iconst 1, 1) := by decide +kernel
theorem dX5_joined_145 : decode cX5_joined 145 = .ok (.goto 4, 3) := by decide +kernel
theorem dX5_joined_148 : decode cX5_joined 148 = .ok (.iconst 0, 1) := by decide +kernel
theorem dX5_joined_149 : decode cX5_joined 149 = .ok (.ireturn, 1) := by decide +kernel
theorem dX5_joined_150 : decode cX5_joined 150 = .ok (.iload_n 1, 1) := by decide +kernel
theorem dX5_joined_151 : decode cX5_joined 151 = .ok (.iload_n 2, 1) := by decide +kernel
theorem dX5_joined_152 : decode cX5_joined 152 = .ok (.if_icmp .ne 7, 3) := by decide +kernel
theorem dX5_joined_155 : decode cX5_joined 155 = .ok (.iconst 1, 1) := by decide +kernel
theorem dX5_joined_156 : decode cX5_joined 156 = .ok (.goto 4, 3) := by decide +kernel
theorem dX5_joined_159 : decode cX5_joined 159 = .ok (.iconst 0, 1) := by decide +kernel
theorem dX5_joined_160 : decode cX5_joined 160 = .ok (.ireturn, 1) := by decide +kernel
theorem dX5_joined_161 : decode cX5_joined 161 = .ok (.iload_n 1, 1) := by decide +kernel
theorem dX5_joined_162 : decode cX5_joined 162 = .ok (.iload_n 2, 1) := by decide +kernel
theorem dX5_joined_163 : decode cX5_joined 163 = .ok (.iand, 1) := by decide +kernel
theorem dX5_joined_164 : decode cX5_joined 164 = .ok (.ireturn, 1) := by decide +kernel
theorem dX5_joined_165 : decode cX5_joined 165 = .ok (.iload_n 1, 1) := by decide +kernel
theorem dX5_joined_166 : decode cX5_joined 166 = .ok (.iload_n 2, 1) := by decide +kernel
theorem dX5_joined_167 : decode cX5_joined 167 = .ok (.ior, 1) := by decide +kernel
theorem dX5_joined_168 : decode cX5_joined 168 = .ok (.ireturn, 1) := by decide +kernel
theorem dX5_joined_169 : decode cX5_joined 169 = .ok (.iload_n 1, 1) := by decide +kernel
theorem dX5_joined_170 : decode cX5_joined 170 = .ok (.iload_n 2, 1) := by decide +kernel
theorem dX5_joined_171 : decode cX5_joined 171 = .ok (.if_icmp .ge 7, 3) := by decide +kernel
theorem dX5_joined_174 : decode cX5_joined 174 = .ok (.iload_n 1, 1) := by decide +kernel
theorem dX5_joined_175 : decode cX5_joined 175 = .ok (.goto 4, 3) := by decide +kernel
theorem dX5_joined_178 : decode cX5_joined 178 = .ok (.iload_n 2, 1) := by decide +kernel
theorem dX5_joined_179 : decode cX5_joined 179 = .ok (.ireturn, 1) := by decide +kernel
theorem dX5_joined_180 : decode cX5_joined 180 = .ok (.iload_n 1, 1) := by decide +kernel
theorem dX5_joined_181 : decode cX5_joined 181 = .ok (.iload_n 2, 1) := by decide +kernel
theorem dX5_joined_182 : decode cX5_joined 182 = .ok (.if_icmp .le 7, 3) := by decide +kernel
theorem dX5_joined_185 : decode cX5_joined 185 = .ok (.iload_n 1, 1) := by decide +kernel
theorem dX5_joined_186 : decode cX5_joined 186 = .ok (.goto 4, 3) := by decide +kernel
theorem dX5_joined_189 : decode cX5_joined 189 = .ok (.iload_n 2, 1) := by decide +kernel
theorem dX5_joined_190 : decode cX5_joined 190 = .ok (.ireturn, 1) := by decide +kernel
theorem dX5_joined_191 : decode cX5_joined 191 = .ok (.lload_n 3, 1) := by decide +kernel
theorem dX5_joined_192 : decode cX5_joined 192 = .ok (.ldc2_w 34, 3) := by decide +kernel
theorem dX5_joined_195 : decode cX5_joined 195 = .ok (.lcmp, 1) := by decide +kernel
theorem dX5_joined_196 : decode cX5_joined 196 = .ok (.ifCond .le 8, 3) := by decide +kernel
theorem dX5_joined_199 : decode cX5_joined 199 = .ok (.ldc 36, 2) := by decide +kernel
theorem dX5_joined_201 : decode cX5_joined 201 = .ok (.goto 18, 3) := by decide +kernel
theorem dX5_joined_204 : decode cX5_joined 204 = .ok (.lload_n 3, 1) := by decide +kernel
theorem dX5_joined_205 : decode cX5_joined 205 = .ok (.ldc2_w 37, 3) := by decide +kernel
theorem dX5_joined_208 : decode cX5_joined 208 = .ok (.lcmp, 1) := by decide +kernel
theorem dX5_joined_209 : decode cX5_joined 209 = .ok (.ifCond .ge 8, 3) := by decide +kernel
theorem dX5_joined_212 : decode cX5_joined 212 = .ok (.ldc 39, 2) := by decide +kernel
theorem dX5_joined_214 : decode cX5_joined 214 = .ok (.goto 5, 3) := by decide +kernel
theorem dX5_joined_217 : decode cX5_joined 217 = .ok (.lload_n 3, 1) := by decide +kernel
theorem dX5_joined_218 : decode cX5_joined 218 = .ok (.l2i, 1) := by decide +kernel
theorem dX5_joined_219 : decode cX5_joined 219 = .ok (.ireturn, 1) := by decide +kernel
theorem dX6_init_0 : decode cX6_init 0 = .ok (.aload_n 0, 1) := by decide +kernel
theorem dX6_init_1 : decode cX6_init 1 = .ok (.invokespecial 3, 3) := by decide +kernel
theorem dX6_init_4 : decode cX6_init 4 = .ok (.aload_n 0, 1) := by decide +kernel
theorem dX6_init_5 : decode cX6_init 5 = .ok (.iconst 0, 1) := by decide +kernel
theorem dX6_init_6 : decode cX6_init 6 = .ok (.newarray .int, 2) := by decide +kernel
theorem dX6_init_8 : decode cX6_init 8 = .ok (.putfield 9, 3) := by decide +kernel
theorem dX6_init_11 : decode cX6_init 11 = .ok (.aload_n 0, 1) := by decide +kernel
theorem dX6_init_12 : decode cX6_init 12 = .ok (.iconst 0, 1) := by decide +kernel
theorem dX6_init_13 : decode cX6_init 13 = .ok (.newarray .int, 2) := by decide +kernel
theorem dX6_init_15 : decode cX6_init 15 = .ok (.putfield 15, 3) := by decide +kernel
theorem dX6_init_18 : decode cX6_init 18 = .ok (.return_, 1) := by decide +kernel
theorem dX6_begin_0 : decode cX6_begin 0 = .ok (.aload_n 0, 1) := by decide +kernel
theorem dX6_begin_1 : decode cX6_begin 1 = .ok (.aload_n 1, 1) := by decide +kernel
theorem dX6_begin_2 : decode cX6_begin 2 = .ok (.putfield 9, 3) := by decide +kernel
theorem dX6_begin_5 : decode cX6_begin 5 = .ok (.aload_n 0, 1) := by decide +kernel
theorem dX6_begin_6 : decode cX6_begin 6 = .ok (.iload_n 2, 1) := by decide +kernel
theorem dX6_begin_7 : decode cX6_begin 7 = .ok (.aload_n 1, 1) := by decide +kernel
theorem dX6_begin_8 : decode cX6_begin 8 = .ok (.arraylength, 1) := by decide +kernel
theorem dX6_begin_9 : decode cX6_begin 9 = .ok (.invokestatic 18, 3) := by decide +kernel
theorem dX6_begin_12 : decode cX6_begin 12 = .ok (.putfield 24, 3) := by decide +kernel
theorem dX6_begin_15 : decode cX6_begin 15 = .ok (.aload_n 0, 1) := by decide +kernel
theorem dX6_begin_16 : decode cX6_begin 16 = .ok (.aload_n 3, 1) := by decide +kernel
theorem dX6_begin_17 : decode cX6_begin 17 = .ok (.putfield 15, 3) := by decide +kernel
theorem dX6_begin_20 : decode cX6_begin 20 = .ok (.aload_n 0, 1) := by decide +kernel
theorem dX6_begin_21 : decode cX6_begin 21 = .ok (.iload 4, 2) := by decide +kernel
theorem dX6_begin_23 : decode cX6_begin 23 = .ok (.putfield 28, 3) := by decide +kernel
theorem dX6_begin_26 : decode cX6_begin 26 = .ok (.aload_n 0, 1) := by decide +kernel
theorem dX6_begin_27 : decode cX6_begin 27 = .ok (.iconst 0, 1) := by decide +kernel
theorem dX6_begin_28 : decode cX6_begin 28 = .ok (.putfield 31, 3) := by decide +kernel
theorem dX6_begin_31 : decode cX6_begin 31 = .ok (.aload_n 0, 1) := by decide +kernel
theorem dX6_begin_32 : decode cX6_begin 32 = .ok (.iconst 0, 1) := by decide +kernel
theorem dX6_begin_33 : decode cX6_begin 33 = .ok (.putfield 34, 3) := by decide +kernel
theorem dX6_begin_36 : decode cX6_begin 36 = .ok (.aload_n 0, 1) := by decide +kernel
theorem dX6_begin_37 : decode cX6_begin 37 = .ok (.iconst (-1), 1) := by decide +kernel
theorem dX6_begin_38 : decode cX6_begin 38 = .ok (.putfield 37, 3) := by decide +kernel
theorem dX6_begin_41 : decode cX6_begin 41 = .ok (.aload_n 0, 1) := by decide +kernel
theorem dX6_begin_42 : decode cX6_begin 42 = .ok (.iconst 0, 1) := by decide +kernel
theorem dX6_begin_43 : decode cX6_begin 43 = .ok (.putfield 40, 3) := by decide +kernel
theorem dX6_begin_46 : decode cX6_begin 46 = .ok (.aload_n 0, 1) := by decide +kernel
theorem dX6_begin_47 : decode cX6_begin 47 = .ok (.invokevirtual 43, 3) := by decide +kernel
theorem dX6_begin_50 : decode cX6_begin 50 = .ok (.return_, 1) := by decide +kernel
theorem dX6_refuse_0 : decode cX6_refuse 0 = .ok (.aload_n 0, 1) := by decide +kernel
theorem dX6_refuse_1 : decode cX6_refuse 1 = .ok (.getfield 34, 3) := by decide +kernel
theorem dX6_refuse_4 : decode cX6_refuse 4 = .ok (.ifCond .ne 13, 3) := by decide +kernel
theorem dX6_refuse_7 : decode cX6_refuse 7 = .ok (.aload_n 0, 1) := by decide +kernel
theorem dX6_refuse_8 : decode cX6_refuse 8 = .ok (.iload_n 1, 1) := by decide +kernel
theorem dX6_refuse_9 : decode cX6_refuse 9 = .ok (.putfield 34, 3) := by decide +kernel
theorem dX6_refuse_12 : decode cX6_refuse 12 = .ok (.aload_n 0, 1) := by decide +kernel
theorem dX6_refuse_13 : decode cX6_refuse 13 = .ok (.iload_n 2, 1) := by decide +kernel
theorem dX6_refuse_14 : decode cX6_refuse 14 = .ok (.putfield 37, 3) := by decide +kernel
theorem dX6_refuse_17 : decode cX6_refuse 17 = .ok (.return_, 1) := by decide +kernel
theorem dX6_next_0 : decode cX6_next 0 = .ok (.aload_n 0, 1) := by decide +kernel
theorem dX6_next_1 : decode cX6_next 1 = .ok (.getfield 31, 3) := by decide +kernel
theorem dX6_next_4 : decode cX6_next 4 = .ok (.istore_n 1, 1) := by decide +kernel
theorem dX6_next_5 : decode cX6_next 5 = .ok (.aload_n 0, 1) := by decide +kernel
theorem dX6_next_6 : decode cX6_next 6 = .ok (.invokevirtual 46, 3) := by decide +kernel
theorem dX6_next_9 : decode cX6_next 9 = .ok (.aload_n 0, 1) := by decide +kernel
theorem dX6_next_10 : decode cX6_next 10 = .ok (.aload_n 0, 1) := by decide +kernel
theorem dX6_next_11 : decode cX6_next 11 = .ok (.getfield 31, 3) := by decide +kernel
theorem dX6_next_14 : decode cX6_next 14 = .ok (.putfield 49, 3) := by decide +kernel
theorem dX6_next_17 : decode cX6_next 17 = .ok (.aload_n 0, 1) := by decide +kernel
theorem dX6_next_18 : decode cX6_next 18 = .ok (.iconst (-1), 1) := by decide +kernel
theorem dX6_next_19 : decode cX6_next 19 = .ok (.putfield 52, 3) := by decide +kernel
theorem dX6_next_22 : decode cX6_next 22 = .ok (.aload_n 0, 1) := by decide +kernel
theorem dX6_next_23 : decode cX6_next 23 = .ok (.getfield 31, 3) := by decide +kernel
theorem dX6_next_26 : decode cX6_next 26 = .ok (.ifCond .lt 14, 3) := by decide +kernel
theorem dX6_next_29 : decode cX6_next 29 = .ok (.aload_n 0, 1) := by decide +kernel
theorem dX6_next_30 : decode cX6_next 30 = .ok (.getfield 31, 3) := by decide +kernel
theorem dX6_next_33 : decode cX6_next 33 = .ok (.aload_n 0, 1) := by decide +kernel
theorem dX6_next_34 : decode cX6_next 34 = .ok (.getfield 24, 3) := by decide +kernel
theorem dX6_next_37 : decode cX6_next 37 = .ok (.if_icmp .lt 9, 3) := by decide +kernel
theorem dX6_next_40 : decode cX6_next 40 = .ok (.aload_n 0, 1) := by decide +kernel
theorem dX6_next_41 : decode cX6_next 41 = .ok (.iconst 0, 1) := by decide +kernel
theorem dX6_next_42 : decode cX6_next 42 = .ok (.putfield 55, 3) := by decide +kernel
theorem dX6_next_45 : decode cX6_next 45 = .ok (.return_, 1) := by decide +kernel
theorem dX6_next_46 : decode cX6_next 46 = .ok (.aload_n 0, 1) := by decide +kernel
theorem dX6_next_47 : decode cX6_next 47 = .ok (.getfield 31, 3) := by decide +kernel
theorem dX6_next_50 : decode cX6_next 50 = .ok (.iload_n 1, 1) := by decide +kernel
theorem dX6_next_51 : decode cX6_next 51 = .ok (.if_icmp .ne 32, 3) := by decide +kernel
theorem dX6_next_54 : decode cX6_next 54 = .ok (.aload_n 0, 1) := by decide +kernel
theorem dX6_next_55 : decode cX6_next 55 = .ok (.getfield 31, 3) := by decide +kernel
theorem dX6_next_58 : decode cX6_next 58 = .ok (.ifCond .le 25, 3) := by decide +kernel
theorem dX6_next_61 : decode cX6_next 61 = .ok (.aload_n 0, 1) := by decide +kernel
theorem dX6_next_62 : decode cX6_next 62 = .ok (.getfield 9, 3) := by decide +kernel
theorem dX6_next_65 : decode cX6_next 65 = .ok (.aload_n 0, 1) := by decide +kernel
theorem dX6_next_66 : decode cX6_next 66 = .ok (.getfield 31, 3) := by decide +kernel
theorem dX6_next_69 : decode cX6_next 69 = .ok (.iconst 1, 1) := by decide +kernel
theorem dX6_next_70 : decode cX6_next 70 = .ok (.isub, 1) := by decide +kernel
theorem dX6_next_71 : decode cX6_next 71 = .ok (.iaload, 1) := by decide +kernel
theorem dX6_next_72 : decode cX6_next 72 = .ok (.invokestatic 58, 3) := by decide +kernel
theorem dX6_next_75 : decode cX6_next 75 = .ok (.iconst 3, 1) := by decide +kernel
theorem dX6_next_76 : decode cX6_next 76 = .ok (.if_icmp .eq 7, 3) := by decide +kernel
theorem dX6_next_79 : decode cX6_next 79 = .ok (.iconst 1, 1) := by decide +kernel
theorem dX6_next_80 : decode cX6_next 80 = .ok (.goto 4, 3) := by decide +kernel
theorem dX6_next_83 : decode cX6_next 83 = .ok (.iconst 0, 1) := by decide +kernel
theorem dX6_next_84 : decode cX6_next 84 = .ok (.istore_n 2, 1) := by decide +kernel
theorem dX6_next_85 : decode cX6_next 85 = .ok (.aload_n 0, 1) := by decide +kernel
theorem dX6_next_86 : decode cX6_next 86 = .ok (.aload_n 0, 1) := by decide +kernel
theorem dX6_next_87 : decode cX6_next 87 = .ok (.getfield 9, 3) := by decide +kernel
theorem dX6_next_90 : decode cX6_next 90 = .ok (.aload_n 0, 1) := by decide +kernel
theorem dX6_next_91 : decode cX6_next 91 = .ok (.getfield 31, 3) := by decide +kernel
theorem dX6_next_94 : decode cX6_next 94 = .ok (.iaload, 1) := by decide +kernel
theorem dX6_next_95 : decode cX6_next 95 = .ok (.putfield 62, 3) := by decide +kernel
theorem dX6_next_98 : decode cX6_next 98 = .ok (.aload_n 0, 1) := by decide +kernel
theorem dX6_next_99 : decode cX6_next 99 = .ok (.iload_n 2, 1) := by decide +kernel
theorem dX6_next_100 : decode cX6_next 100 = .ok (.ifCond .eq 7, 3) := by decide +kernel
theorem dX6_next_103 : decode cX6_next 103 = .ok (.iconst 3, 1) := by decide +kernel
theorem dX6_next_104 : decode cX6_next 104 = .ok (.goto 10, 3) := by decide +kernel
theorem dX6_next_107 : decode cX6_next 107 = .ok (.aload_n 0, 1) := by decide +kernel
theorem dX6_next_108 : decode cX6_next 108 = .ok (.getfield 62, 3) := by decide +kernel
theorem dX6_next_111 : decode cX6_next 111 = .ok (.invokestatic 58, 3) := by decide +kernel
theorem dX6_next_114 : decode cX6_next 114 = .ok (.putfield 55, 3) := by decide +kernel
theorem dX6_next_117 : decode cX6_next 117 = .ok (.aload_n 0, 1) := by decide +kernel
theorem dX6_next_118 : decode cX6_next 118 = .ok (.dup, 1) := by decide +kernel
theorem dX6_next_119 : decode cX6_next 119 = .ok (.getfield 31, 3) := by decide +kernel
theorem dX6_next_122 : decode cX6_next 122 = .ok (.iconst 1, 1) := by decide +kernel
theorem dX6_next_123 : decode cX6_next 123 = .ok (.iadd, 1) := by decide +kernel
theorem dX6_next_124 : decode cX6_next 124 = .ok (.putfield 31, 3) := by decide +kernel
theorem dX6_next_127 : decode cX6_next 127 = .ok (.aload_n 0, 1) := by decide +kernel
theorem dX6_next_128 : decode cX6_next 128 = .ok (.getfield 31, 3) := by decide +kernel
theorem dX6_next_131 : decode cX6_next 131 = .ok (.istore_n 3, 1) := by decide +kernel
theorem dX6_next_132 : decode cX6_next 132 = .ok (.aload_n 0, 1) := by decide +kernel
theorem dX6_next_133 : decode cX6_next 133 = .ok (.getfield 55, 3) := by decide +kernel
theorem dX6_next_136 : decode cX6_next 136 = .ok (.iconst 3, 1) := by decide +kernel
theorem dX6_next_137 : decode cX6_next 137 = .ok (.if_icmp .eq 40, 3) := by decide +kernel
theorem dX6_next_140 : decode cX6_next 140 = .ok (.iload_n 3, 1) := by decide +kernel
theorem dX6_next_141 : decode cX6_next 141 = .ok (.aload_n 0, 1) := by decide +kernel
theorem dX6_next_142 : decode cX6_next 142 = .ok (.getfield 24, 3) := by decide +kernel
theorem dX6_next_145 : decode cX6_next 145 = .ok (.if_icmp .ge 32, 3) := by decide +kernel
theorem dX6_next_148 : decode cX6_next 148 = .ok (.aload_n 0, 1) := by decide +kernel
theorem dX6_next_149 : decode cX6_next 149 = .ok (.getfield 9, 3) := by decide +kernel
theorem dX6_next_152 : decode cX6_next 152 = .ok (.iload_n 3, 1) := by decide +kernel
theorem dX6_next_153 : decode cX6_next 153 = .ok (.iaload, 1) := by decide +kernel
theorem dX6_next_154 : decode cX6_next 154 = .ok (.invokestatic 58, 3) := by decide +kernel
theorem dX6_next_157 : decode cX6_next 157 = .ok (.aload_n 0, 1) := by decide +kernel
theorem dX6_next_158 : decode cX6_next 158 = .ok (.getfield 55, 3) := by decide +kernel
theorem dX6_next_161 : decode cX6_next 161 = .ok (.if_icmp .ne 16, 3) := by decide +kernel
theorem dX6_next_164 : decode cX6_next 164 = .ok (.aload_n 0, 1) := by decide +kernel
theorem dX6_next_165 : decode cX6_next 165 = .ok (.iload_n 3, 1) := by decide +kernel
theorem dX6_next_166 : decode cX6_next 166 = .ok (.iconst 1, 1) := by decide +kernel
theorem dX6_next_167 : decode cX6_next 167 = .ok (.iadd, 1) := by decide +kernel
theorem dX6_next_168 : decode cX6_next 168 = .ok (.putfield 31, 3) := by decide +kernel
theorem dX6_next_171 : decode cX6_next 171 = .ok (.iinc 3 1, 3) := by decide +kernel
theorem dX6_next_174 : decode cX6_next 174 = .ok (.goto (-42), 3) := by decide +kernel
theorem dX6_next_177 : decode cX6_next 177 = .ok (.aload_n 0, 1) := by decide +kernel
theorem dX6_next_178 : decode cX6_next 178 = .ok (.getfield 55, 3) := by decide +kernel
theorem dX6_next_181 : decode cX6_next 181 = .ok (.iconst 1, 1) := by decide +kernel
theorem dX6_next_182 : decode cX6_next 182 = .ok (.if_icmp .ne 14, 3) := by decide +kernel
theorem dX6_next_185 : decode cX6_next 185 = .ok (.aload_n 0, 1) := by decide +kernel
theorem dX6_next_186 : decode cX6_next 186 = .ok (.aload_n 0, 1) := by decide +kernel
theorem dX6_next_187 : decode cX6_next 187 = .ok (.invokevirtual 65, 3) := by decide +kernel
theorem dX6_next_190 : decode cX6_next 190 = .ok (.putfield 52, 3) := by decide +kernel
theorem dX6_next_193 : decode cX6_next 193 = .ok (.goto 19, 3) := by decide +kernel
theorem dX6_next_196 : decode cX6_next 196 = .ok (.aload_n 0, 1) := by decide +kernel
theorem dX6_next_197 : decode cX6_next 197 = .ok (.getfield 55, 3) := by decide +kernel
theorem dX6_next_200 : decode cX6_next 200 = .ok (.iconst 2, 1) := by decide +kernel
theorem dX6_next_201 : decode cX6_next 201 = .ok (.if_icmp .ne 11, 3) := by decide +kernel
theorem dX6_next_204 : decode cX6_next 204 = .ok (.aload_n 0, 1) := by decide +kernel
theorem dX6_next_205 : decode cX6_next 205 = .ok (.aload_n 0, 1) := by decide +kernel
theorem dX6_next_206 : decode cX6_next 206 = .ok (.invokevirtual 69, 3) := by decide +kernel
theorem dX6_next_209 : decode cX6_next 209 = .ok (.putfield 72, 3) := by decide +kernel
theorem dX6_next_212 : decode cX6_next 212 = .ok (.return_, 1) := by decide +kernel
theorem dX6_isSign_0 : decode cX6_isSign 0 = .ok (.aload_n 0, 1) := by decide +kernel
theorem dX6_isSign_1 : decode cX6_isSign 1 = .ok (.getfield 55, 3) := by decide +kernel
theorem dX6_isSign_4 : decode cX6_isSign 4 = .ok (.iconst 3, 1) := by decide +kernel
theorem dX6_isSign_5 : decode cX6_isSign 5 = .ok (.if_icmp .ne 15, 3) := by decide +kernel
theorem dX6_isSign_8 : decode cX6_isSign 8 = .ok (.aload_n 0, 1) := by decide +kernel
theorem dX6_isSign_9 : decode cX6_isSign 9 = .ok (.getfield 62, 3) := by decide +kernel
theorem dX6_isSign_12 : decode cX6_isSign 12 = .ok (.iload_n 1, 1) := by decide +kernel
theorem dX6_isSign_13 : decode cX6_isSign 13 = .ok (.if_icmp .ne 7, 3) := by decide +kernel
theorem dX6_isSign_16 : decode cX6_isSign 16 = .ok (.iconst 1, 1) := by decide +kernel
theorem dX6_isSign_17 : decode cX6_isSign 17 = .ok (.goto 4, 3) := by decide +kernel
theorem dX6_isSign_20 : decode cX6_isSign 20 = .ok (.iconst 0, 1) := by decide +kernel
theorem dX6_isSign_21 : decode cX6_isSign 21 = .ok (.ireturn, 1) := by decide +kernel
theorem dX6_takeWord_0 : decode cX6_takeWord 0 = .ok (.aload_n 0, 1) := by decide +kernel
theorem dX6_takeWord_1 : decode cX6_takeWord 1 = .ok (.getfield 34, 3) := by decide +kernel
theorem dX6_takeWord_4 : decode cX6_takeWord 4 = .ok (.ifCond .ne 11, 3) := by decide +kernel
theorem dX6_takeWord_7 : decode cX6_takeWord 7 = .ok (.aload_n 0, 1) := by decide +kernel
theorem dX6_takeWord_8 : decode cX6_takeWord 8 = .ok (.getfield 52, 3) := by decide +kernel
theorem dX6_takeWord_11 : decode cX6_takeWord 11 = .ok (.iload_n 1, 1) := by decide +kernel
theorem dX6_takeWord_12 : decode cX6_takeWord 12 = .ok (.if_icmp .eq 5, 3) := by decide +kernel
theorem dX6_takeWord_15 : decode cX6_takeWord 15 = .ok (.iconst 0, 1) := by decide +kernel
theorem dX6_takeWord_16 : decode cX6_takeWord 16 = .ok (.ireturn, 1) := by decide +kernel
theorem dX6_takeWord_17 : decode cX6_takeWord 17 = .ok (.aload_n 0, 1) := by decide +kernel
theorem dX6_takeWord_18 : decode cX6_takeWord 18 = .ok (.invokevirtual 43, 3) := by decide +kernel
theorem dX6_takeWord_21 : decode cX6_takeWord 21 = .ok (.iconst 1, 1) := by decide +kernel
theorem dX6_takeWord_22 : decode cX6_takeWord 22 = .ok (.ireturn, 1) := by decide +kernel
theorem dX6_expectWord_0 : decode cX6_expectWord 0 = .ok (.aload_n 0, 1) := by decide +kernel
theorem dX6_expectWord_1 : decode cX6_expectWord 1 = .ok (.iload_n 1, 1) := by decide +kernel
theorem dX6_expectWord_2 : decode cX6_expectWord 2 = .ok (.invokevirtual 75, 3) := by decide +kernel
theorem dX6_expectWord_5 : decode cX6_expectWord 5 = .ok (.ifCond .ne 12, 3) := by decide +kernel
theorem dX6_expectWord_8 : decode cX6_expectWord 8 = .ok (.aload_n 0, 1) := by decide +kernel
theorem dX6_expectWord_9 : decode cX6_expectWord 9 = .ok (.iconst 1, 1) := by decide +kernel
theorem dX6_expectWord_10 : decode cX6_expectWord 10 = .ok (.aload_n 0, 1) := by decide +kernel
theorem dX6_expectWord_11 : decode cX6_expectWord 11 = .ok (.getfield 49, 3) := by decide +kernel
theorem dX6_expectWord_14 : decode cX6_expectWord 14 = .ok (.invokevirtual 79, 3) := by decide +kernel
theorem dX6_expectWord_17 : decode cX6_expectWord 17 = .ok (.return_, 1) := by decide +kernel
theorem dX6_expectSign_0 : decode cX6_expectSign 0 = .ok (.aload_n 0, 1) := by decide +kernel
theorem dX6_expectSign_1 : decode cX6_expectSign 1 = .ok (.getfield 34, 3) := by decide +kernel
theorem dX6_expectSign_4 : decode cX6_expectSign 4 = .ok (.ifCond .ne 18, 3) := by decide +kernel
theorem dX6_expectSign_7 : decode cX6_expectSign 7 = .ok (.aload_n 0, 1) := by decide +kernel
theorem dX6_expectSign_8 : decode cX6_expectSign 8 = .ok (.iload_n 1, 1) := by decide +kernel
theorem dX6_expectSign_9 : decode cX6_expectSign 9 = .ok (.invokevirtual 83, 3) := by decide +kernel
theorem dX6_expectSign_12 : decode cX6_expectSign 12 = .ok (.ifCond .eq 10, 3) := by decide +kernel
theorem dX6_expectSign_15 : decode cX6_expectSign 15 = .ok (.aload_n 0, 1) := by decide +kernel
theorem dX6_expectSign_16 : decode cX6_expectSign 16 = .ok (.invokevirtual 43, 3) := by decide +kernel
theorem dX6_expectSign_19 : decode cX6_expectSign 19 = .ok (.goto 12, 3) := by decide +kernel
theorem dX6_expectSign_22 : decode cX6_expectSign 22 = .ok (.aload_n 0, 1) := by decide +kernel
theorem dX6_expectSign_23 : decode cX6_expectSign 23 = .ok (.iconst 1, 1) := by decide +kernel
theorem dX6_expectSign_24 : decode cX6_expectSign 24 = .ok (.aload_n 0, 1) := by decide +kernel
theorem dX6_expectSign_25 : decode cX6_expectSign 25 = .ok (.getfield 49, 3) := by decide +kernel
theorem dX6_expectSign_28 : decode cX6_expectSign 28 = .ok (.invokevirtual 79, 3) := by decide +kernel
theorem dX6_expectSign_31 : decode cX6_expectSign 31 = .ok (.return_, 1) := by decide +kernel
theorem dX6_takeNumber_0 : decode cX6_takeNumber 0 = .ok (.aload_n 0, 1) := by decide +kernel
theorem dX6_takeNumber_1 : decode cX6_takeNumber 1 = .ok (.getfield 55, 3) := by decide +kernel
theorem dX6_takeNumber_4 : decode cX6_takeNumber 4 = .ok (.iconst 2, 1) := by decide +kernel
theorem dX6_takeNumber_5 : decode cX6_takeNumber 5 = .ok (.if_icmp .eq 15, 3) := by decide +kernel
theorem dX6_takeNumber_8 : decode cX6_takeNumber 8 = .ok (.aload_n 0, 1) := by decide +kernel
theorem dX6_takeNumber_9 : decode cX6_takeNumber 9 = .ok (.iconst 1, 1) := by decide +kernel
theorem dX6_takeNumber_10 : decode cX6_takeNumber 10 = .ok (.aload_n 0, 1) := by decide +kernel
theorem dX6_takeNumber_11 : decode cX6_takeNumber 11 = .ok (.getfield 49, 3) := by decide +kernel
theorem dX6_takeNumber_14 : decode cX6_takeNumber 14 = .ok (.invokevirtual 79, 3) := by decide +kernel
theorem dX6_takeNumber_17 : decode cX6_takeNumber 17 = .ok (.goto 55, 3) := by decide +kernel
theorem dX6_takeNumber_20 : decode cX6_takeNumber 20 = .ok (.aload_n 0, 1) := by decide +kernel
theorem dX6_takeNumber_21 : decode cX6_takeNumber 21 = .ok (.getfield 31, 3) := by decide +kernel
theorem dX6_takeNumber_24 : decode cX6_takeNumber 24 = .ok (.aload_n 0, 1) := by decide +kernel
theorem dX6_takeNumber_25 : decode cX6_takeNumber 25 = .ok (.getfield 49, 3) := by decide +kernel
theorem dX6_takeNumber_28 : decode cX6_takeNumber 28 = .ok (.isub, 1) := by decide +kernel
theorem dX6_takeNumber_29 : decode cX6_takeNumber 29 = .ok (.iconst 4, 1) := by decide +kernel
theorem dX6_takeNumber_30 : decode cX6_takeNumber 30 = .ok (.if_icmp .le 17, 3) := by decide +kernel
theorem dX6_takeNumber_33 : decode cX6_takeNumber 33 = .ok (.aload_n 0, 1) := by decide +kernel
theorem dX6_takeNumber_34 : decode cX6_takeNumber 34 = .ok (.iconst 1, 1) := by decide +kernel
theorem dX6_takeNumber_35 : decode cX6_takeNumber 35 = .ok (.aload_n 0, 1) := by decide +kernel
theorem dX6_takeNumber_36 : decode cX6_takeNumber 36 = .ok (.getfield 49, 3) := by decide +kernel
theorem dX6_takeNumber_39 : decode cX6_takeNumber 39 = .ok (.iconst 4, 1) := by decide +kernel
theorem dX6_takeNumber_40 : decode cX6_takeNumber 40 = .ok (.iadd, 1) := by decide +kernel
theorem dX6_takeNumber_41 : decode cX6_takeNumber 41 = .ok (.invokevirtual 79, 3) := by decide +kernel
theorem dX6_takeNumber_44 : decode cX6_takeNumber 44 = .ok (.goto 28, 3) := by decide +kernel
theorem dX6_takeNumber_47 : decode cX6_takeNumber 47 = .ok (.aload_n 0, 1) := by decide +kernel
theorem dX6_takeNumber_48 : decode cX6_takeNumber 48 = .ok (.getfield 72, 3) := by decide +kernel
theorem dX6_takeNumber_51 : decode cX6_takeNumber 51 = .ok (.iload_n 1, 1) := by decide +kernel
theorem dX6_takeNumber_52 : decode cX6_takeNumber 52 = .ok (.if_icmp .lt 11, 3) := by decide +kernel
theorem dX6_takeNumber_55 : decode cX6_takeNumber 55 = .ok (.aload_n 0, 1) := by decide +kernel
theorem dX6_takeNumber_56 : decode cX6_takeNumber 56 = .ok (.getfield 72, 3) := by decide +kernel
theorem dX6_takeNumber_59 : decode cX6_takeNumber 59 = .ok (.iload_n 2, 1) := by decide +kernel
theorem dX6_takeNumber_60 : decode cX6_takeNumber 60 = .ok (.if_icmp .le 12, 3) := by decide +kernel
theorem dX6_takeNumber_63 : decode cX6_takeNumber 63 = .ok (.aload_n 0, 1) := by decide +kernel
theorem dX6_takeNumber_64 : decode cX6_takeNumber 64 = .ok (.iconst 2, 1) := by decide +kernel
theorem dX6_takeNumber_65 : decode cX6_takeNumber 65 = .ok (.aload_n 0, 1) := by decide +kernel
theorem dX6_takeNumber_66 : decode cX6_takeNumber 66 = .ok (.getfield 49, 3) := by decide +kernel
theorem dX6_takeNumber_69 : decode cX6_takeNumber 69 = .ok (.invokevirtual 79, 3) := by decide +kernel
theorem dX6_takeNumber_72 : decode cX6_takeNumber 72 = .ok (.aload_n 0, 1) := by decide +kernel
theorem dX6_takeNumber_73 : decode cX6_takeNumber 73 = .ok (.getfield 34, 3) := by decide +kernel
theorem dX6_takeNumber_76 : decode cX6_takeNumber 76 = .ok (.ifCond .eq 5, 3) := by decide +kernel
theorem dX6_takeNumber_79 : decode cX6_takeNumber 79 = .ok (.iconst 0, 1) := by decide +kernel
theorem dX6_takeNumber_80 : decode cX6_takeNumber 80 = .ok (.ireturn, 1) := by decide +kernel
theorem dX6_takeNumber_81 : decode cX6_takeNumber 81 = .ok (.aload_n 0, 1) := by decide +kernel
theorem dX6_takeNumber_82 : decode cX6_takeNumber 82 = .ok (.getfield 72, 3) := by decide +kernel
theorem dX6_takeNumber_85 : decode cX6_takeNumber 85 = .ok (.istore_n 3, 1) := by decide +kernel
theorem dX6_takeNumber_86 : decode cX6_takeNumber 86 = .ok (.aload_n 0, 1) := by decide +kernel
theorem dX6_takeNumber_87 : decode cX6_takeNumber 87 = .ok (.invokevirtual 43, 3) := by decide +kernel
theorem dX6_takeNumber_90 : decode cX6_takeNumber 90 = .ok (.iload_n 3, 1) := by decide +kernel
theorem dX6_takeNumber_91 : decode cX6_takeNumber 91 = .ok (.ireturn, 1) := by decide +kernel
theorem dX6_isAtName_0 : decode cX6_isAtName 0 = .ok (.aload_n 0, 1) := by decide +kernel
theorem dX6_isAtName_1 : decode cX6_isAtName 1 = .ok (.getfield 55, 3) := by decide +kernel
theorem dX6_isAtName_4 : decode cX6_isAtName 4 = .ok (.iconst 1, 1) := by decide +kernel
theorem dX6_isAtName_5 : decode cX6_isAtName 5 = .ok (.if_icmp .ne 19, 3) := by decide +kernel
theorem dX6_isAtName_8 : decode cX6_isAtName 8 = .ok (.aload_n 0, 1) := by decide +kernel
theorem dX6_isAtName_9 : decode cX6_isAtName 9 = .ok (.getfield 52, 3) := by decide +kernel
theorem dX6_isAtName_12 : decode cX6_isAtName 12 = .ok (.ifCond .lt 24, 3) := by decide +kernel
theorem dX6_isAtName_15 : decode cX6_isAtName 15 = .ok (.aload_n 0, 1) := by decide +kernel
theorem dX6_isAtName_16 : decode cX6_isAtName 16 = .ok (.getfield 52, 3) := by decide +kernel
theorem dX6_isAtName_19 : decode cX6_isAtName 19 = .ok (.bipush 24, 2) := by decide +kernel
theorem dX6_isAtName_21 : decode cX6_isAtName 21 = .ok (.if_icmp .ge 15, 3) := by decide +kernel
theorem dX6_isAtName_24 : decode cX6_isAtName 24 = .ok (.aload_n 0, 1) := by decide +kernel
theorem dX6_isAtName_25 : decode cX6_isAtName 25 = .ok (.iconst 1, 1) := by decide +kernel
theorem dX6_isAtName_26 : decode cX6_isAtName 26 = .ok (.aload_n 0, 1) := by decide +kernel
theorem dX6_isAtName_27 : decode cX6_isAtName 27 = .ok (.getfield 49, 3) := by decide +kernel
theorem dX6_isAtName_30 : decode cX6_isAtName 30 = .ok (.invokevirtual 79, 3) := by decide +kernel
theorem dX6_isAtName_33 : decode cX6_isAtName 33 = .ok (.goto 29, 3) := by decide +kernel
theorem dX6_isAtName_36 : decode cX6_isAtName 36 = .ok (.aload_n 0, 1) := by decide +kernel
theorem dX6_isAtName_37 : decode cX6_isAtName 37 = .ok (.getfield 31, 3) := by decide +kernel
theorem dX6_isAtName_40 : decode cX6_isAtName 40 = .ok (.aload_n 0, 1) := by decide +kernel
theorem dX6_isAtName_41 : decode cX6_isAtName 41 = .ok (.getfield 49, 3) := by decide +kernel
theorem dX6_isAtName_44 : decode cX6_isAtName 44 = .ok (.isub, 1) := by decide +kernel
theorem dX6_isAtName_45 : decode cX6_isAtName 45 = .ok (.bipush 6, 2) := by decide +kernel
theorem dX6_isAtName_47 : decode cX6_isAtName 47 = .ok (.if_icmp .le 15, 3) := by decide +kernel
theorem dX6_isAtName_50 : decode cX6_isAtName 50 = .ok (.aload_n 0, 1) := by decide +kernel
theorem dX6_isAtName_51 : decode cX6_isAtName 51 = .ok (.iconst 1, 1) := by decide +kernel
theorem dX6_isAtName_52 : decode cX6_isAtName 52 = .ok (.aload_n 0, 1) := by decide +kernel
theorem dX6_isAtName_53 : decode cX6_isAtName 53 = .ok (.getfield 49, 3) := by decide +kernel
theorem dX6_isAtName_56 : decode cX6_isAtName 56 = .ok (.bipush 6, 2) := by decide +kernel
theorem dX6_isAtName_58 : decode cX6_isAtName 58 = .ok (.iadd, 1) := by decide +kernel
theorem dX6_isAtName_59 : decode cX6_isAtName 59 = .ok (.invokevirtual 79, 3) := by decide +kernel
theorem dX6_isAtName_62 : decode cX6_isAtName 62 = .ok (.aload_n 0, 1) := by decide +kernel
theorem dX6_isAtName_63 : decode cX6_isAtName 63 = .ok (.getfield 34, 3) := by decide +kernel
theorem dX6_isAtName_66 : decode cX6_isAtName 66 = .ok (.ifCond .ne 7, 3) := by decide +kernel
theorem dX6_isAtName_69 : decode cX6_isAtName 69 = .ok (.iconst 1, 1) := by decide +kernel
theorem dX6_isAtName_70 : decode cX6_isAtName 70 = .ok (.goto 4, 3) := by decide +kernel
theorem dX6_isAtName_73 : decode cX6_isAtName 73 = .ok (.iconst 0, 1) := by decide +kernel
theorem dX6_isAtName_74 : decode cX6_isAtName 74 = .ok (.ireturn, 1) := by decide +kernel
theorem dX6_test_0 : decode cX6_test 0 = .ok (.aload_n 0, 1) := by decide +kernel
theorem dX6_test_1 : decode cX6_test 1 = .ok (.invokevirtual 87, 3) := by decide +kernel
theorem dX6_test_4 : decode cX6_test 4 = .ok (.iconst 0, 1) := by decide +kernel
theorem dX6_test_5 : decode cX6_test 5 = .ok (.istore_n 1, 1) := by decide +kernel
theorem dX6_test_6 : decode cX6_test 6 = .ok (.iload_n 1, 1) := by decide +kernel
theorem dX6_test_7 : decode cX6_test 7 = .ok (.sipush 1600, 3) := by decide +kernel
theorem dX6_test_10 : decode cX6_test 10 = .ok (.if_icmp .ge 28, 3) := by decide +kernel
theorem dX6_test_13 : decode cX6_test 13 = .ok (.aload_n 0, 1) := by decide +kernel
theorem dX6_test_14 : decode cX6_test 14 = .ok (.bipush 18, 2) := by decide +kernel
theorem dX6_test_16 : decode cX6_test 16 = .ok (.invokevirtual 75, 3) := by decide +kernel
theorem dX6_test_19 : decode cX6_test 19 = .ok (.ifCond .eq 19, 3) := by decide +kernel
theorem dX6_test_22 : decode cX6_test 22 = .ok (.aload_n 0, 1) := by decide +kernel
theorem dX6_test_23 : decode cX6_test 23 = .ok (.invokevirtual 87, 3) := by decide +kernel
theorem dX6_test_26 : decode cX6_test 26 = .ok (.aload_n 0, 1) := by decide +kernel
theorem dX6_test_27 : decode cX6_test 27 = .ok (.bipush (-9), 2) := by decide +kernel
theorem dX6_test_29 : decode cX6_test 29 = .ok (.invokevirtual 92, 3) := by decide +kernel
theorem dX6_test_32 : decode cX6_test 32 = .ok (.iinc 1 1, 3) := by decide +kernel
theorem dX6_test_35 : decode cX6_test 35 = .ok (.goto (-29), 3) := by decide +kernel
theorem dX6_test_38 : decode cX6_test 38 = .ok (.return_, 1) := by decide +kernel
theorem dX6_sum_0 : decode cX6_sum 0 = .ok (.aload_n 0, 1) := by decide +kernel
theorem dX6_sum_1 : decode cX6_sum 1 = .ok (.invokevirtual 96, 3) := by decide +kernel
theorem dX6_sum_4 : decode cX6_sum 4 = .ok (.iconst 0, 1) := by decide +kernel
theorem dX6_sum_5 : decode cX6_sum 5 = .ok (.istore_n 1, 1) := by decide +kernel
theorem dX6_sum_6 : decode cX6_sum 6 = .ok (.iload_n 1, 1) := by decide +kernel
theorem dX6_sum_7 : decode cX6_sum 7 = .ok (.sipush 1600, 3) := by decide +kernel
theorem dX6_sum_10 : decode cX6_sum 10 = .ok (.if_icmp .ge 63, 3) := by decide +kernel
theorem dX6_sum_13 : decode cX6_sum 13 = .ok (.aload_n 0, 1) := by decide +kernel
theorem dX6_sum_14 : decode cX6_sum 14 = .ok (.getfield 34, 3) := by decide +kernel
theorem dX6_sum_17 : decode cX6_sum 17 = .ok (.ifCond .ne 56, 3) := by decide +kernel
theorem dX6_sum_20 : decode cX6_sum 20 = .ok (.aload_n 0, 1) := by decide +kernel
theorem dX6_sum_21 : decode cX6_sum 21 = .ok (.bipush 43, 2) := by decide +kernel
theorem dX6_sum_23 : decode cX6_sum 23 = .ok (.invokevirtual 83, 3) := by decide +kernel
theorem dX6_sum_26 : decode cX6_sum 26 = .ok (.ifCond .ne 12, 3) := by decide +kernel
theorem dX6_sum_29 : decode cX6_sum 29 = .ok (.aload_n 0, 1) := by decide +kernel
theorem dX6_sum_30 : decode cX6_sum 30 = .ok (.bipush 45, 2) := by decide +kernel
theorem dX6_sum_32 : decode cX6_sum 32 = .ok (.invokevirtual 83, 3) := by decide +kernel
theorem dX6_sum_35 : decode cX6_sum 35 = .ok (.ifCond .eq 38, 3) := by decide +kernel
theorem dX6_sum_38 : decode cX6_sum 38 = .ok (.aload_n 0, 1) := by decide +kernel
theorem dX6_sum_39 : decode cX6_sum 39 = .ok (.bipush 43, 2) := by decide +kernel
theorem dX6_sum_41 : decode cX6_sum 41 = .ok (.invokevirtual 83, 3) := by decide +kernel
theorem dX6_sum_44 : decode cX6_sum 44 = .ok (.ifCond .eq 7, 3) := by decide +kernel
theorem dX6_sum_47 : decode cX6_sum 47 = .ok (.iconst (-1), 1) := by decide +kernel
theorem dX6_sum_48 : decode cX6_sum 48 = .ok (.goto 5, 3) := by decide +kernel
theorem dX6_sum_51 : decode cX6_sum 51 = .ok (.bipush (-2), 2) := by decide +kernel
theorem dX6_sum_53 : decode cX6_sum 53 = .ok (.istore_n 2, 1) := by decide +kernel
theorem dX6_sum_54 : decode cX6_sum 54 = .ok (.aload_n 0, 1) := by decide +kernel
theorem dX6_sum_55 : decode cX6_sum 55 = .ok (.invokevirtual 43, 3) := by decide +kernel
theorem dX6_sum_58 : decode cX6_sum 58 = .ok (.aload_n 0, 1) := by decide +kernel
theorem dX6_sum_59 : decode cX6_sum 59 = .ok (.invokevirtual 96, 3) := by decide +kernel
theorem dX6_sum_62 : decode cX6_sum 62 = .ok (.aload_n 0, 1) := by decide +kernel
theorem dX6_sum_63 : decode cX6_sum 63 = .ok (.iload_n 2, 1) := by decide +kernel
theorem dX6_sum_64 : decode cX6_sum 64 = .ok (.invokevirtual 92, 3) := by decide +kernel
theorem dX6_sum_67 : decode cX6_sum 67 = .ok (.iinc 1 1, 3) := by decide +kernel
theorem dX6_sum_70 : decode cX6_sum 70 = .ok (.goto (-64), 3) := by decide +kernel
theorem dX6_sum_73 : decode cX6_sum 73 = .ok (.return_, 1) := by decide +kernel
theorem dX6_both_0 : decode cX6_both 0 = .ok (.aload_n 0, 1) := by decide +kernel
theorem dX6_both_1 : decode cX6_both 1 = .ok (.invokevirtual 99, 3) := by decide +kernel
theorem dX6_both_4 : decode cX6_both 4 = .ok (.iconst 0, 1) := by decide +kernel
theorem dX6_both_5 : decode cX6_both 5 = .ok (.istore_n 1, 1) := by decide +kernel
theorem dX6_both_6 : decode cX6_both 6 = .ok (.iload_n 1, 1) := by decide +kernel
theorem dX6_both_7 : decode cX6_both 7 = .ok (.sipush 1600, 3) := by decide +kernel
theorem dX6_both_10 : decode cX6_both 10 = .ok (.if_icmp .ge 28, 3) := by decide +kernel
theorem dX6_both_13 : decode cX6_both 13 = .ok (.aload_n 0, 1) := by decide +kernel
theorem dX6_both_14 : decode cX6_both 14 = .ok (.bipush 19, 2) := by decide +kernel
theorem dX6_both_16 : decode cX6_both 16 = .ok (.invokevirtual 75, 3) := by decide +kernel
theorem dX6_both_19 : decode cX6_both 19 = .ok (.ifCond .eq 19, 3) := by decide +kernel
theorem dX6_both_22 : decode cX6_both 22 = .ok (.aload_n 0, 1) := by decide +kernel
theorem dX6_both_23 : decode cX6_both 23 = .ok (.invokevirtual 99, 3) := by decide +kernel
theorem dX6_both_26 : decode cX6_both 26 = .ok (.aload_n 0, 1) := by decide +kernel
theorem dX6_both_27 : decode cX6_both 27 = .ok (.bipush (-8), 2) := by decide +kernel
theorem dX6_both_29 : decode cX6_both 29 = .ok (.invokevirtual 92, 3) := by decide +kernel
theorem dX6_both_32 : decode cX6_both 32 = .ok (.iinc 1 1, 3) := by decide +kernel
theorem dX6_both_35 : decode cX6_both 35 = .ok (.goto (-29), 3) := by decide +kernel
theorem dX6_both_38 : decode cX6_both 38 = .ok (.return_, 1) := by decide +kernel
theorem dX6_fact_0 : decode cX6_fact 0 = .ok (.aload_n 0, 1) := by decide +kernel
theorem dX6_fact_1 : decode cX6_fact 1 = .ok (.getfield 34, 3) := by decide +kernel
theorem dX6_fact_4 : decode cX6_fact 4 = .ok (.ifCond .eq 4, 3) := by decide +kernel
theorem dX6_fact_7 : decode cX6_fact 7 = .ok (.return_, 1) := by decide +kernel
theorem dX6_fact_8 : decode cX6_fact 8 = .ok (.aload_n 0, 1) := by decide +kernel
theorem dX6_fact_9 : decode cX6_fact 9 = .ok (.getfield 52, 3) := by decide +kernel
theorem dX6_fact_12 : decode cX6_fact 12 = .ok (.bipush 20, 2) := by decide +kernel
theorem dX6_fact_14 : decode cX6_fact 14 = .ok (.if_icmp .ne 30, 3) := by decide +kernel
theorem dX6_fact_17 : decode cX6_fact 17 = .ok (.aload_n 0, 1) := by decide +kernel
theorem dX6_fact_18 : decode cX6_fact 18 = .ok (.invokevirtual 102, 3) := by decide +kernel
theorem dX6_fact_21 : decode cX6_fact 21 = .ok (.aload_n 0, 1) := by decide +kernel
theorem dX6_fact_22 : decode cX6_fact 22 = .ok (.invokevirtual 99, 3) := by decide +kernel
theorem dX6_fact_25 : decode cX6_fact 25 = .ok (.aload_n 0, 1) := by decide +kernel
theorem dX6_fact_26 : decode cX6_fact 26 = .ok (.bipush (-12), 2) := by decide +kernel
theorem dX6_fact_28 : decode cX6_fact 28 = .ok (.invokevirtual 92, 3) := by decide +kernel
theorem dX6_fact_31 : decode cX6_fact 31 = .ok (.aload_n 0, 1) := by decide +kernel
theorem dX6_fact_32 : decode cX6_fact 32 = .ok (.dup, 1) := by decide +kernel
theorem dX6_fact_33 : decode cX6_fact 33 = .ok (.getfield 40, 3) := by decide +kernel
theorem dX6_fact_36 : decode cX6_fact 36 = .ok (.iconst 1, 1) := by decide +kernel
theorem dX6_fact_37 : decode cX6_fact 37 = .ok (.isub, 1) := by decide +kernel
theorem dX6_fact_38 : decode cX6_fact 38 = .ok (.putfield 40, 3) := by decide +kernel
theorem dX6_fact_41 : decode cX6_fact 41 = .ok (.goto 81, 3) := by decide +kernel
theorem dX6_fact_44 : decode cX6_fact 44 = .ok (.aload_n 0, 1) := by decide +kernel
theorem dX6_fact_45 : decode cX6_fact 45 = .ok (.bipush 91, 2) := by decide +kernel
theorem dX6_fact_47 : decode cX6_fact 47 = .ok (.invokevirtual 83, 3) := by decide +kernel
theorem dX6_fact_50 : decode cX6_fact 50 = .ok (.ifCond .eq 37, 3) := by decide +kernel
theorem dX6_fact_53 : decode cX6_fact 53 = .ok (.aload_n 0, 1) := by decide +kernel
theorem dX6_fact_54 : decode cX6_fact 54 = .ok (.invokevirtual 102, 3) := by decide +kernel
theorem dX6_fact_57 : decode cX6_fact 57 = .ok (.aload_n 0, 1) := by decide +kernel
theorem dX6_fact_58 : decode cX6_fact 58 = .ok (.getfield 34, 3) := by decide +kernel
theorem dX6_fact_61 : decode cX6_fact 61 = .ok (.ifCond .ne 7, 3) := by decide +kernel
theorem dX6_fact_64 : decode cX6_fact 64 = .ok (.aload_n 0, 1) := by decide +kernel
theorem dX6_fact_65 : decode cX6_fact 65 = .ok (.invokevirtual 105, 3) := by decide +kernel
theorem dX6_fact_68 : decode cX6_fact 68 = .ok (.aload_n 0, 1) := by decide +kernel
theorem dX6_fact_69 : decode cX6_fact 69 = .ok (.bipush 93, 2) := by decide +kernel
theorem dX6_fact_71 : decode cX6_fact 71 = .ok (.invokevirtual 108, 3) := by decide +kernel
theorem dX6_fact_74 : decode cX6_fact 74 = .ok (.aload_n 0, 1) := by decide +kernel
theorem dX6_fact_75 : decode cX6_fact 75 = .ok (.dup, 1) := by decide +kernel
theorem dX6_fact_76 : decode cX6_fact 76 = .ok (.getfield 40, 3) := by decide +kernel
theorem dX6_fact_79 : decode cX6_fact 79 = .ok (.iconst 1, 1) := by decide +kernel
theorem dX6_fact_80 : decode cX6_fact 80 = .ok (.isub, 1) := by decide +kernel
theorem dX6_fact_81 : decode cX6_fact 81 = .ok (.putfield 40, 3) := by decide +kernel
theorem dX6_fact_84 : decode cX6_fact 84 = .ok (.goto 38, 3) := by decide +kernel
theorem dX6_fact_87 : decode cX6_fact 87 = .ok (.aload_n 0, 1) := by decide +kernel
theorem dX6_fact_88 : decode cX6_fact 88 = .ok (.bipush 21, 2) := by decide +kernel
theorem dX6_fact_90 : decode cX6_fact 90 = .ok (.invokevirtual 75, 3) := by decide +kernel
theorem dX6_fact_93 : decode cX6_fact 93 = .ok (.ifCond .eq 11, 3) := by decide +kernel
theorem dX6_fact_96 : decode cX6_fact 96 = .ok (.aload_n 0, 1) := by decide +kernel
theorem dX6_fact_97 : decode cX6_fact 97 = .ok (.iconst 1, 1) := by decide +kernel
theorem dX6_fact_98 : decode cX6_fact 98 = .ok (.invokevirtual 92, 3) := by decide +kernel
theorem dX6_fact_101 : decode cX6_fact 101 = .ok (.goto 21, 3) := by decide +kernel
theorem dX6_fact_104 : decode cX6_fact 104 = .ok (.aload_n 0, 1) := by decide +kernel
theorem dX6_fact_105 : decode cX6_fact 105 = .ok (.invokevirtual 112, 3) := by decide +kernel
theorem dX6_fact_108 : decode cX6_fact 108 = .ok (.aload_n 0, 1) := by decide +kernel
theorem dX6_fact_109 : decode cX6_fact 109 = .ok (.invokevirtual 115, 3) := by decide +kernel
theorem dX6_fact_112 : decode cX6_fact 112 = .ok (.istore_n 1, 1) := by decide +kernel
theorem dX6_fact_113 : decode cX6_fact 113 = .ok (.aload_n 0, 1) := by decide +kernel
theorem dX6_fact_114 : decode cX6_fact 114 = .ok (.invokevirtual 118, 3) := by decide +kernel
theorem dX6_fact_117 : decode cX6_fact 117 = .ok (.aload_n 0, 1) := by decide +kernel
theorem dX6_fact_118 : decode cX6_fact 118 = .ok (.iload_n 1, 1) := by decide +kernel
theorem dX6_fact_119 : decode cX6_fact 119 = .ok (.invokevirtual 92, 3) := by decide +kernel
theorem dX6_fact_122 : decode cX6_fact 122 = .ok (.return_, 1) := by decide +kernel
theorem dX6_comparing_0 : decode cX6_comparing 0 = .ok (.aload_n 0, 1) := by decide +kernel
theorem dX6_comparing_1 : decode cX6_comparing 1 = .ok (.bipush 60, 2) := by decide +kernel
theorem dX6_comparing_3 : decode cX6_comparing 3 = .ok (.invokevirtual 83, 3) := by decide +kernel
theorem dX6_comparing_6 : decode cX6_comparing 6 = .ok (.ifCond .eq 8, 3) := by decide +kernel
theorem dX6_comparing_9 : decode cX6_comparing 9 = .ok (.bipush (-5), 2) := by decide +kernel
theorem dX6_comparing_11 : decode cX6_comparing 11 = .ok (.goto 19, 3) := by decide +kernel
theorem dX6_comparing_14 : decode cX6_comparing 14 = .ok (.aload_n 0, 1) := by decide +kernel
theorem dX6_comparing_15 : decode cX6_comparing 15 = .ok (.bipush 62, 2) := by decide +kernel
theorem dX6_comparing_17 : decode cX6_comparing 17 = .ok (.invokevirtual 83, 3) := by decide +kernel
theorem dX6_comparing_20 : decode cX6_comparing 20 = .ok (.ifCond .eq 8, 3) := by decide +kernel
theorem dX6_comparing_23 : decode cX6_comparing 23 = .ok (.bipush (-6), 2) := by decide +kernel
theorem dX6_comparing_25 : decode cX6_comparing 25 = .ok (.goto 5, 3) := by decide +kernel
theorem dX6_comparing_28 : decode cX6_comparing 28 = .ok (.bipush (-7), 2) := by decide +kernel
theorem dX6_comparing_30 : decode cX6_comparing 30 = .ok (.istore_n 1, 1) := by decide +kernel
theorem dX6_comparing_31 : decode cX6_comparing 31 = .ok (.iload_n 1, 1) := by decide +kernel
theorem dX6_comparing_32 : decode cX6_comparing 32 = .ok (.bipush (-7), 2) := by decide +kernel
theorem dX6_comparing_34 : decode cX6_comparing 34 = .ok (.if_icmp .ne 12, 3) := by decide +kernel
theorem dX6_comparing_37 : decode cX6_comparing 37 = .ok (.aload_n 0, 1) := by decide +kernel
theorem dX6_comparing_38 : decode cX6_comparing 38 = .ok (.bipush 61, 2) := by decide +kernel
theorem dX6_comparing_40 : decode cX6_comparing 40 = .ok (.invokevirtual 108, 3) := by decide +kernel
theorem dX6_comparing_43 : decode cX6_comparing 43 = .ok (.goto 14, 3) := by decide +kernel
theorem dX6_comparing_46 : decode cX6_comparing 46 = .ok (.aload_n 0, 1) := by decide +kernel
theorem dX6_comparing_47 : decode cX6_comparing 47 = .ok (.getfield 34, 3) := by decide +kernel
theorem dX6_comparing_50 : decode cX6_comparing 50 = .ok (.ifCond .ne 7, 3) := by decide +kernel
theorem dX6_comparing_53 : decode cX6_comparing 53 = .ok (.aload_n 0, 1) := by decide +kernel
theorem dX6_comparing_54 : decode cX6_comparing 54 = .ok (.invokevirtual 43, 3) := by decide +kernel
theorem dX6_comparing_57 : decode cX6_comparing 57 = .ok (.iload_n 1, 1) := by decide +kernel
theorem dX6_comparing_58 : decode cX6_comparing 58 = .ok (.ireturn, 1) := by decide +kernel
theorem dX6_product_0 : decode cX6_product 0 = .ok (.aload_n 0, 1) := by decide +kernel
theorem dX6_product_1 : decode cX6_product 1 = .ok (.invokevirtual 121, 3) := by decide +kernel
theorem dX6_product_4 : decode cX6_product 4 = .ok (.iconst 0, 1) := by decide +kernel
theorem dX6_product_5 : decode cX6_product 5 = .ok (.istore_n 1, 1) := by decide +kernel
theorem dX6_product_6 : decode cX6_product 6 = .ok (.iload_n 1, 1) := by decide +kernel
theorem dX6_product_7 : decode cX6_product 7 = .ok (.sipush 1600, 3) := by decide +kernel
theorem dX6_product_10 : decode cX6_product 10 = .ok (.if_icmp .ge 64, 3) := by decide +kernel
theorem dX6_product_13 : decode cX6_product 13 = .ok (.aload_n 0, 1) := by decide +kernel
theorem dX6_product_14 : decode cX6_product 14 = .ok (.getfield 34, 3) := by decide +kernel
theorem dX6_product_17 : decode cX6_product 17 = .ok (.ifCond .ne 57, 3) := by decide +kernel
theorem dX6_product_20 : decode cX6_product 20 = .ok (.aload_n 0, 1) := by decide +kernel
theorem dX6_product_21 : decode cX6_product 21 = .ok (.bipush 42, 2) := by decide +kernel
theorem dX6_product_23 : decode cX6_product 23 = .ok (.invokevirtual 83, 3) := by decide +kernel
theorem dX6_product_26 : decode cX6_product 26 = .ok (.ifCond .ne 12, 3) := by decide +kernel
theorem dX6_product_29 : decode cX6_product 29 = .ok (.aload_n 0, 1) := by decide +kernel
theorem dX6_product_30 : decode cX6_product 30 = .ok (.bipush 47, 2) := by decide +kernel
theorem dX6_product_32 : decode cX6_product 32 = .ok (.invokevirtual 83, 3) := by decide +kernel
theorem dX6_product_35 : decode cX6_product 35 = .ok (.ifCond .eq 39, 3) := by decide +kernel
theorem dX6_product_38 : decode cX6_product 38 = .ok (.aload_n 0, 1) := by decide +kernel
theorem dX6_product_39 : decode cX6_product 39 = .ok (.bipush 42, 2) := by decide +kernel
theorem dX6_product_41 : decode cX6_product 41 = .ok (.invokevirtual 83, 3) := by decide +kernel
theorem dX6_product_44 : decode cX6_product 44 = .ok (.ifCond .eq 8, 3) := by decide +kernel
theorem dX6_product_47 : decode cX6_product 47 = .ok (.bipush (-3), 2) := by decide +kernel
theorem dX6_product_49 : decode cX6_product 49 = .ok (.goto 5, 3) := by decide +kernel
theorem dX6_product_52 : decode cX6_product 52 = .ok (.bipush (-4), 2) := by decide +kernel
theorem dX6_product_54 : decode cX6_product 54 = .ok (.istore_n 2, 1) := by decide +kernel
theorem dX6_product_55 : decode cX6_product 55 = .ok (.aload_n 0, 1) := by decide +kernel
theorem dX6_product_56 : decode cX6_product 56 = .ok (.invokevirtual 43, 3) := by decide +kernel
theorem dX6_product_59 : decode cX6_product 59 = .ok (.aload_n 0, 1) := by decide +kernel
theorem dX6_product_60 : decode cX6_product 60 = .ok (.invokevirtual 121, 3) := by decide +kernel
theorem dX6_product_63 : decode cX6_product 63 = .ok (.aload_n 0, 1) := by decide +kernel
theorem dX6_product_64 : decode cX6_product 64 = .ok (.iload_n 2, 1) := by decide +kernel
theorem dX6_product_65 : decode cX6_product 65 = .ok (.invokevirtual 92, 3) := by decide +kernel
theorem dX6_product_68 : decode cX6_product 68 = .ok (.iinc 1 1, 3) := by decide +kernel
theorem dX6_product_71 : decode cX6_product 71 = .ok (.goto (-65), 3) := by decide +kernel
theorem dX6_product_74 : decode cX6_product 74 = .ok (.return_, 1) := by decide +kernel
theorem dX6_part_0 : decode cX6_part 0 = .ok (.aload_n 0, 1) := by decide +kernel
theorem dX6_part_1 : decode cX6_part 1 = .ok (.getfield 34, 3) := by decide +kernel
theorem dX6_part_4 : decode cX6_part 4 = .ok (.ifCond .eq 4, 3) := by decide +kernel
theorem dX6_part_7 : decode cX6_part 7 = .ok (.return_, 1) := by decide +kernel
theorem dX6_part_8 : decode cX6_part 8 = .ok (.aload_n 0, 1) := by decide +kernel
theorem dX6_part_9 : decode cX6_part 9 = .ok (.getfield 55, 3) := by decide +kernel
theorem dX6_part_12 : decode cX6_part 12 = .ok (.iconst 2, 1) := by decide +kernel
theorem dX6_part_13 : decode cX6_part 13 = .ok (.if_icmp .ne 18, 3) := by decide +kernel
theorem dX6_part_16 : decode cX6_part 16 = .ok (.aload_n 0, 1) := by decide +kernel
theorem dX6_part_17 : decode cX6_part 17 = .ok (.aload_n 0, 1) := by decide +kernel
theorem dX6_part_18 : decode cX6_part 18 = .ok (.iconst 0, 1) := by decide +kernel
theorem dX6_part_19 : decode cX6_part 19 = .ok (.sipush 9999, 3) := by decide +kernel
theorem dX6_part_22 : decode cX6_part 22 = .ok (.invokevirtual 124, 3) := by decide +kernel
theorem dX6_part_25 : decode cX6_part 25 = .ok (.invokevirtual 92, 3) := by decide +kernel
theorem dX6_part_28 : decode cX6_part 28 = .ok (.goto 181, 3) := by decide +kernel
theorem dX6_part_31 : decode cX6_part 31 = .ok (.aload_n 0, 1) := by decide +kernel
theorem dX6_part_32 : decode cX6_part 32 = .ok (.bipush 40, 2) := by decide +kernel
theorem dX6_part_34 : decode cX6_part 34 = .ok (.invokevirtual 83, 3) := by decide +kernel
theorem dX6_part_37 : decode cX6_part 37 = .ok (.ifCond .eq 30, 3) := by decide +kernel
theorem dX6_part_40 : decode cX6_part 40 = .ok (.aload_n 0, 1) := by decide +kernel
theorem dX6_part_41 : decode cX6_part 41 = .ok (.invokevirtual 102, 3) := by decide +kernel
theorem dX6_part_44 : decode cX6_part 44 = .ok (.aload_n 0, 1) := by decide +kernel
theorem dX6_part_45 : decode cX6_part 45 = .ok (.invokevirtual 118, 3) := by decide +kernel
theorem dX6_part_48 : decode cX6_part 48 = .ok (.aload_n 0, 1) := by decide +kernel
theorem dX6_part_49 : decode cX6_part 49 = .ok (.bipush 41, 2) := by decide +kernel
theorem dX6_part_51 : decode cX6_part 51 = .ok (.invokevirtual 108, 3) := by decide +kernel
theorem dX6_part_54 : decode cX6_part 54 = .ok (.aload_n 0, 1) := by decide +kernel
theorem dX6_part_55 : decode cX6_part 55 = .ok (.dup, 1) := by decide +kernel
theorem dX6_part_56 : decode cX6_part 56 = .ok (.getfield 40, 3) := by decide +kernel
theorem dX6_part_59 : decode cX6_part 59 = .ok (.iconst 1, 1) := by decide +kernel
theorem dX6_part_60 : decode cX6_part 60 = .ok (.isub, 1) := by decide +kernel
theorem dX6_part_61 : decode cX6_part 61 = .ok (.putfield 40, 3) := by decide +kernel
theorem dX6_part_64 : decode cX6_part 64 = .ok (.goto 145, 3) := by decide +kernel
theorem dX6_part_67 : decode cX6_part 67 = .ok (.aload_n 0, 1) := by decide +kernel
theorem dX6_part_68 : decode cX6_part 68 = .ok (.getfield 52, 3) := by decide +kernel
theorem dX6_part_71 : decode cX6_part 71 = .ok (.bipush 22, 2) := by decide +kernel
theorem dX6_part_73 : decode cX6_part 73 = .ok (.if_icmp .eq 12, 3) := by decide +kernel
theorem dX6_part_76 : decode cX6_part 76 = .ok (.aload_n 0, 1) := by decide +kernel
theorem dX6_part_77 : decode cX6_part 77 = .ok (.getfield 52, 3) := by decide +kernel
theorem dX6_part_80 : decode cX6_part 80 = .ok (.bipush 23, 2) := by decide +kernel
theorem dX6_part_82 : decode cX6_part 82 = .ok (.if_icmp .ne 10, 3) := by decide +kernel
theorem dX6_part_85 : decode cX6_part 85 = .ok (.aload_n 0, 1) := by decide +kernel
theorem dX6_part_86 : decode cX6_part 86 = .ok (.invokevirtual 127, 3) := by decide +kernel
theorem dX6_part_89 : decode cX6_part 89 = .ok (.goto 120, 3) := by decide +kernel
theorem dX6_part_92 : decode cX6_part 92 = .ok (.aload_n 0, 1) := by decide +kernel
theorem dX6_part_93 : decode cX6_part 93 = .ok (.getfield 130, 3) := by decide +kernel
theorem dX6_part_96 : decode cX6_part 96 = .ok (.ifCond .eq 64, 3) := by decide +kernel
theorem dX6_part_99 : decode cX6_part 99 = .ok (.aload_n 0, 1) := by decide +kernel
theorem dX6_part_100 : decode cX6_part 100 = .ok (.getfield 52, 3) := by decide +kernel
theorem dX6_part_103 : decode cX6_part 103 = .ok (.bipush 6, 2) := by decide +kernel
theorem dX6_part_105 : decode cX6_part 105 = .ok (.if_icmp .eq 12, 3) := by decide +kernel
theorem dX6_part_108 : decode cX6_part 108 = .ok (.aload_n 0, 1) := by decide +kernel
theorem dX6_part_109 : decode cX6_part 109 = .ok (.getfield 52, 3) := by decide +kernel
theorem dX6_part_112 : decode cX6_part 112 = .ok (.bipush 8, 2) := by decide +kernel
theorem dX6_part_114 : decode cX6_part 114 = .ok (.if_icmp .ne 46, 3) := by decide +kernel
theorem dX6_part_117 : decode cX6_part 117 = .ok (.aload_n 0, 1) := by decide +kernel
theorem dX6_part_118 : decode cX6_part 118 = .ok (.getfield 52, 3) := by decide +kernel
theorem dX6_part_121 : decode cX6_part 121 = .ok (.bipush 6, 2) := by decide +kernel
theorem dX6_part_123 : decode cX6_part 123 = .ok (.if_icmp .ne 8, 3) := by decide +kernel
theorem dX6_part_126 : decode cX6_part 126 = .ok (.bipush (-13), 2) := by decide +kernel
theorem dX6_part_128 : decode cX6_part 128 = .ok (.goto 5, 3) := by decide +kernel
theorem dX6_part_131 : decode cX6_part 131 = .ok (.bipush (-14), 2) := by decide +kernel
theorem dX6_part_133 : decode cX6_part 133 = .ok (.istore_n 1, 1) := by decide +kernel
theorem dX6_part_134 : decode cX6_part 134 = .ok (.aload_n 0, 1) := by decide +kernel
theorem dX6_part_135 : decode cX6_part 135 = .ok (.invokevirtual 102, 3) := by decide +kernel
theorem dX6_part_138 : decode cX6_part 138 = .ok (.aload_n 0, 1) := by decide +kernel
theorem dX6_part_139 : decode cX6_part 139 = .ok (.invokevirtual 121, 3) := by decide +kernel
theorem dX6_part_142 : decode cX6_part 142 = .ok (.aload_n 0, 1) := by decide +kernel
theorem dX6_part_143 : decode cX6_part 143 = .ok (.iload_n 1, 1) := by decide +kernel
theorem dX6_part_144 : decode cX6_part 144 = .ok (.invokevirtual 92, 3) := by decide +kernel
theorem dX6_part_147 : decode cX6_part 147 = .ok (.aload_n 0, 1) := by decide +kernel
theorem dX6_part_148 : decode cX6_part 148 = .ok (.dup, 1) := by decide +kernel
theorem dX6_part_149 : decode cX6_part 149 = .ok (.getfield 40, 3) := by decide +kernel
theorem dX6_part_152 : decode cX6_part 152 = .ok (.iconst 1, 1) := by decide +kernel
theorem dX6_part_153 : decode cX6_part 153 = .ok (.isub, 1) := by decide +kernel
theorem dX6_part_154 : decode cX6_part 154 = .ok (.putfield 40, 3) := by decide +kernel
theorem dX6_part_157 : decode cX6_part 157 = .ok (.goto 52, 3) := by decide +kernel
theorem dX6_part_160 : decode cX6_part 160 = .ok (.aload_n 0, 1) := by decide +kernel
theorem dX6_part_161 : decode cX6_part 161 = .ok (.getfield 52, 3) := by decide +kernel
theorem dX6_part_164 : decode cX6_part 164 = .ok (.ifCond .lt 36, 3) := by decide +kernel
theorem dX6_part_167 : decode cX6_part 167 = .ok (.aload_n 0, 1) := by decide +kernel
theorem dX6_part_168 : decode cX6_part 168 = .ok (.getfield 134, 3) := by decide +kernel
theorem dX6_part_171 : decode cX6_part 171 = .ok (.aload_n 0, 1) := by decide +kernel
theorem dX6_part_172 : decode cX6_part 172 = .ok (.getfield 52, 3) := by decide +kernel
theorem dX6_part_175 : decode cX6_part 175 = .ok (.ishr, 1) := by decide +kernel
theorem dX6_part_176 : decode cX6_part 176 = .ok (.iconst 1, 1) := by decide +kernel
theorem dX6_part_177 : decode cX6_part 177 = .ok (.iand, 1) := by decide +kernel
theorem dX6_part_178 : decode cX6_part 178 = .ok (.ifCond .eq 22, 3) := by decide +kernel
theorem dX6_part_181 : decode cX6_part 181 = .ok (.aload_n 0, 1) := by decide +kernel
theorem dX6_part_182 : decode cX6_part 182 = .ok (.sipush 10000, 3) := by decide +kernel
theorem dX6_part_185 : decode cX6_part 185 = .ok (.aload_n 0, 1) := by decide +kernel
theorem dX6_part_186 : decode cX6_part 186 = .ok (.getfield 52, 3) := by decide +kernel
theorem dX6_part_189 : decode cX6_part 189 = .ok (.iadd, 1) := by decide +kernel
theorem dX6_part_190 : decode cX6_part 190 = .ok (.invokevirtual 92, 3) := by decide +kernel
theorem dX6_part_193 : decode cX6_part 193 = .ok (.aload_n 0, 1) := by decide +kernel
theorem dX6_part_194 : decode cX6_part 194 = .ok (.invokevirtual 43, 3) := by decide +kernel
theorem dX6_part_197 : decode cX6_part 197 = .ok (.goto 12, 3) := by decide +kernel
theorem dX6_part_200 : decode cX6_part 200 = .ok (.aload_n 0, 1) := by decide +kernel
theorem dX6_part_201 : decode cX6_part 201 = .ok (.iconst 1, 1) := by decide +kernel
theorem dX6_part_202 : decode cX6_part 202 = .ok (.aload_n 0, 1) := by decide +kernel
theorem dX6_part_203 : decode cX6_part 203 = .ok (.getfield 49, 3) := by decide +kernel
theorem dX6_part_206 : decode cX6_part 206 = .ok (.invokevirtual 79, 3) := by decide +kernel
theorem dX6_part_209 : decode cX6_part 209 = .ok (.return_, 1) := by decide +kernel
theorem dX6_lesserOrGreater_0 : decode cX6_lesserOrGreater 0 = .ok (.aload_n 0, 1) := by decide +kernel
theorem dX6_lesserOrGreater_1 : decode cX6_lesserOrGreater 1 = .ok (.getfield 52, 3) := by decide +kernel
theorem dX6_lesserOrGreater_4 : decode cX6_lesserOrGreater 4 = .ok (.bipush 22, 2) := by decide +kernel
theorem dX6_lesserOrGreater_6 : decode cX6_lesserOrGreater 6 = .ok (.if_icmp .ne 8, 3) := by decide +kernel
theorem dX6_lesserOrGreater_9 : decode cX6_lesserOrGreater 9 = .ok (.bipush (-10), 2) := by decide +kernel
theorem dX6_lesserOrGreater_11 : decode cX6_lesserOrGreater 11 = .ok (.goto 5, 3) := by decide +kernel
theorem dX6_lesserOrGreater_14 : decode cX6_lesserOrGreater 14 = .ok (.bipush (-11), 2) := by decide +kernel
theorem dX6_lesserOrGreater_16 : decode cX6_lesserOrGreater 16 = .ok (.istore_n 1, 1) := by decide +kernel
theorem dX6_lesserOrGreater_17 : decode cX6_lesserOrGreater 17 = .ok (.aload_n 0, 1) := by decide +kernel
theorem dX6_lesserOrGreater_18 : decode cX6_lesserOrGreater 18 = .ok (.invokevirtual 43, 3) := by decide +kernel
theorem dX6_lesserOrGreater_21 : decode cX6_lesserOrGreater 21 = .ok (.aload_n 0, 1) := by decide +kernel
theorem dX6_lesserOrGreater_22 : decode cX6_lesserOrGreater 22 = .ok (.bipush 40, 2) := by decide +kernel
theorem dX6_lesserOrGreater_24 : decode cX6_lesserOrGreater 24 = .ok (.invokevirtual 83, 3) := by decide +kernel
theorem dX6_lesserOrGreater_27 : decode cX6_lesserOrGreater 27 = .ok (.ifCond .ne 13, 3) := by decide +kernel
theorem dX6_lesserOrGreater_30 : decode cX6_lesserOrGreater 30 = .ok (.aload_n 0, 1) := by decide +kernel
theorem dX6_lesserOrGreater_31 : decode cX6_lesserOrGreater 31 = .ok (.iconst 1, 1) := by decide +kernel
theorem dX6_lesserOrGreater_32 : decode cX6_lesserOrGreater 32 = .ok (.aload_n 0, 1) := by decide +kernel
theorem dX6_lesserOrGreater_33 : decode cX6_lesserOrGreater 33 = .ok (.getfield 49, 3) := by decide +kernel
theorem dX6_lesserOrGreater_36 : decode cX6_lesserOrGreater 36 = .ok (.invokevirtual 79, 3) := by decide +kernel
theorem dX6_lesserOrGreater_39 : decode cX6_lesserOrGreater 39 = .ok (.return_, 1) := by decide +kernel
theorem dX6_lesserOrGreater_40 : decode cX6_lesserOrGreater 40 = .ok (.aload_n 0, 1) := by decide +kernel
theorem dX6_lesserOrGreater_41 : decode cX6_lesserOrGreater 41 = .ok (.invokevirtual 102, 3) := by decide +kernel
theorem dX6_lesserOrGreater_44 : decode cX6_lesserOrGreater 44 = .ok (.aload_n 0, 1) := by decide +kernel
theorem dX6_lesserOrGreater_45 : decode cX6_lesserOrGreater 45 = .ok (.invokevirtual 118, 3) := by decide +kernel
theorem dX6_lesserOrGreater_48 : decode cX6_lesserOrGreater 48 = .ok (.aload_n 0, 1) := by decide +kernel
theorem dX6_lesserOrGreater_49 : decode cX6_lesserOrGreater 49 = .ok (.bipush 44, 2) := by decide +kernel
theorem dX6_lesserOrGreater_51 : decode cX6_lesserOrGreater 51 = .ok (.invokevirtual 108, 3) := by decide +kernel
theorem dX6_lesserOrGreater_54 : decode cX6_lesserOrGreater 54 = .ok (.aload_n 0, 1) := by decide +kernel
theorem dX6_lesserOrGreater_55 : decode cX6_lesserOrGreater 55 = .ok (.invokevirtual 118, 3) := by decide +kernel
theorem dX6_lesserOrGreater_58 : decode cX6_lesserOrGreater 58 = .ok (.aload_n 0, 1) := by decide +kernel
theorem dX6_lesserOrGreater_59 : decode cX6_lesserOrGreater 59 = .ok (.bipush 41, 2) := by decide +kernel
theorem dX6_lesserOrGreater_61 : decode cX6_lesserOrGreater 61 = .ok (.invokevirtual 108, 3) := by decide +kernel
theorem dX6_lesserOrGreater_64 : decode cX6_lesserOrGreater 64 = .ok (.aload_n 0, 1) := by decide +kernel
theorem dX6_lesserOrGreater_65 : decode cX6_lesserOrGreater 65 = .ok (.iload_n 1, 1) := by decide +kernel
theorem dX6_lesserOrGreater_66 : decode cX6_lesserOrGreater 66 = .ok (.invokevirtual 92, 3) := by decide +kernel
theorem dX6_lesserOrGreater_69 : decode cX6_lesserOrGreater 69 = .ok (.aload_n 0, 1) := by decide +kernel
theorem dX6_lesserOrGreater_70 : decode cX6_lesserOrGreater 70 = .ok (.dup, 1) := by decide +kernel
theorem dX6_lesserOrGreater_71 : decode cX6_lesserOrGreater 71 = .ok (.getfield 40, 3) := by decide +kernel
theorem dX6_lesserOrGreater_74 : decode cX6_lesserOrGreater 74 = .ok (.iconst 1, 1) := by decide +kernel
theorem dX6_lesserOrGreater_75 : decode cX6_lesserOrGreater 75 = .ok (.isub, 1) := by decide +kernel
theorem dX6_lesserOrGreater_76 : decode cX6_lesserOrGreater 76 = .ok (.putfield 40, 3) := by decide +kernel
theorem dX6_lesserOrGreater_79 : decode cX6_lesserOrGreater 79 = .ok (.return_, 1) := by decide +kernel
theorem dX6_sumIfFine_0 : decode cX6_sumIfFine 0 = .ok (.aload_n 0, 1) := by decide +kernel
theorem dX6_sumIfFine_1 : decode cX6_sumIfFine 1 = .ok (.getfield 34, 3) := by decide +kernel
theorem dX6_sumIfFine_4 : decode cX6_sumIfFine 4 = .ok (.ifCond .ne 7, 3) := by decide +kernel
theorem dX6_sumIfFine_7 : decode cX6_sumIfFine 7 = .ok (.aload_n 0, 1) := by decide +kernel
theorem dX6_sumIfFine_8 : decode cX6_sumIfFine 8 = .ok (.invokevirtual 112, 3) := by decide +kernel
theorem dX6_sumIfFine_11 : decode cX6_sumIfFine 11 = .ok (.return_, 1) := by decide +kernel
theorem dX6_openNext_0 : decode cX6_openNext 0 = .ok (.aload_n 0, 1) := by decide +kernel
theorem dX6_openNext_1 : decode cX6_openNext 1 = .ok (.getfield 40, 3) := by decide +kernel
theorem dX6_openNext_4 : decode cX6_openNext 4 = .ok (.bipush 6, 2) := by decide +kernel
theorem dX6_openNext_6 : decode cX6_openNext 6 = .ok (.if_icmp .lt 15, 3) := by decide +kernel
theorem dX6_openNext_9 : decode cX6_openNext 9 = .ok (.aload_n 0, 1) := by decide +kernel
theorem dX6_openNext_10 : decode cX6_openNext 10 = .ok (.iconst 4, 1) := by decide +kernel
theorem dX6_openNext_11 : decode cX6_openNext 11 = .ok (.aload_n 0, 1) := by decide +kernel
theorem dX6_openNext_12 : decode cX6_openNext 12 = .ok (.getfield 49, 3) := by decide +kernel
theorem dX6_openNext_15 : decode cX6_openNext 15 = .ok (.invokevirtual 79, 3) := by decide +kernel
theorem dX6_openNext_18 : decode cX6_openNext 18 = .ok (.goto 7, 3) := by decide +kernel
theorem dX6_openNext_21 : decode cX6_openNext 21 = .ok (.aload_n 0, 1) := by decide +kernel
theorem dX6_openNext_22 : decode cX6_openNext 22 = .ok (.invokevirtual 43, 3) := by decide +kernel
theorem dX6_openNext_25 : decode cX6_openNext 25 = .ok (.aload_n 0, 1) := by decide +kernel
theorem dX6_openNext_26 : decode cX6_openNext 26 = .ok (.dup, 1) := by decide +kernel
theorem dX6_openNext_27 : decode cX6_openNext 27 = .ok (.getfield 40, 3) := by decide +kernel
theorem dX6_openNext_30 : decode cX6_openNext 30 = .ok (.iconst 1, 1) := by decide +kernel
theorem dX6_openNext_31 : decode cX6_openNext 31 = .ok (.iadd, 1) := by decide +kernel
theorem dX6_openNext_32 : decode cX6_openNext 32 = .ok (.putfield 40, 3) := by decide +kernel
theorem dX6_openNext_35 : decode cX6_openNext 35 = .ok (.return_, 1) := by decide +kernel
theorem dX6_emit_0 : decode cX6_emit 0 = .ok (.aload_n 0, 1) := by decide +kernel
theorem dX6_emit_1 : decode cX6_emit 1 = .ok (.getfield 28, 3) := by decide +kernel
theorem dX6_emit_4 : decode cX6_emit 4 = .ok (.ifCond .lt 35, 3) := by decide +kernel
theorem dX6_emit_7 : decode cX6_emit 7 = .ok (.aload_n 0, 1) := by decide +kernel
theorem dX6_emit_8 : decode cX6_emit 8 = .ok (.getfield 28, 3) := by decide +kernel
theorem dX6_emit_11 : decode cX6_emit 11 = .ok (.aload_n 0, 1) := by decide +kernel
theorem dX6_emit_12 : decode cX6_emit 12 = .ok (.getfield 15, 3) := by decide +kernel
theorem dX6_emit_15 : decode cX6_emit 15 = .ok (.arraylength, 1) := by decide +kernel
theorem dX6_emit_16 : decode cX6_emit 16 = .ok (.if_icmp .ge 23, 3) := by decide +kernel
theorem dX6_emit_19 : decode cX6_emit 19 = .ok (.aload_n 0, 1) := by decide +kernel
theorem dX6_emit_20 : decode cX6_emit 20 = .ok (.getfield 15, 3) := by decide +kernel
theorem dX6_emit_23 : decode cX6_emit 23 = .ok (.aload_n 0, 1) := by decide +kernel
theorem dX6_emit_24 : decode cX6_emit 24 = .ok (.getfield 28, 3) := by decide +kernel
theorem dX6_emit_27 : decode cX6_emit 27 = .ok (.iload_n 1, 1) := by decide +kernel
theorem dX6_emit_28 : decode cX6_emit 28 = .ok (.iastore, 1) := by decide +kernel
theorem dX6_emit_29 : decode cX6_emit 29 = .ok (.aload_n 0, 1) := by decide +kernel
theorem dX6_emit_30 : decode cX6_emit 30 = .ok (.dup, 1) := by decide +kernel
theorem dX6_emit_31 : decode cX6_emit 31 = .ok (.getfield 28, 3) := by decide +kernel
theorem dX6_emit_34 : decode cX6_emit 34 = .ok (.iconst 1, 1) := by decide +kernel
theorem dX6_emit_35 : decode cX6_emit 35 = .ok (.iadd, 1) := by decide +kernel
theorem dX6_emit_36 : decode cX6_emit 36 = .ok (.putfield 28, 3) := by decide +kernel
theorem dX6_emit_39 : decode cX6_emit 39 = .ok (.return_, 1) := by decide +kernel
theorem dX6_skipBlanks_0 : decode cX6_skipBlanks 0 = .ok (.aload_n 0, 1) := by decide +kernel
theorem dX6_skipBlanks_1 : decode cX6_skipBlanks 1 = .ok (.getfield 31, 3) := by decide +kernel
theorem dX6_skipBlanks_4 : decode cX6_skipBlanks 4 = .ok (.istore_n 1, 1) := by decide +kernel
theorem dX6_skipBlanks_5 : decode cX6_skipBlanks 5 = .ok (.iload_n 1, 1) := by decide +kernel
theorem dX6_skipBlanks_6 : decode cX6_skipBlanks 6 = .ok (.ifCond .lt 46, 3) := by decide +kernel
theorem dX6_skipBlanks_9 : decode cX6_skipBlanks 9 = .ok (.iload_n 1, 1) := by decide +kernel
theorem dX6_skipBlanks_10 : decode cX6_skipBlanks 10 = .ok (.aload_n 0, 1) := by decide +kernel
theorem dX6_skipBlanks_11 : decode cX6_skipBlanks 11 = .ok (.getfield 24, 3) := by decide +kernel
theorem dX6_skipBlanks_14 : decode cX6_skipBlanks 14 = .ok (.if_icmp .ge 38, 3) := by decide +kernel
theorem dX6_skipBlanks_17 : decode cX6_skipBlanks 17 = .ok (.aload_n 0, 1) := by decide +kernel
theorem dX6_skipBlanks_18 : decode cX6_skipBlanks 18 = .ok (.getfield 9, 3) := by decide +kernel
theorem dX6_skipBlanks_21 : decode cX6_skipBlanks 21 = .ok (.iload_n 1, 1) := by decide +kernel
theorem dX6_skipBlanks_22 : decode cX6_skipBlanks 22 = .ok (.iaload, 1) := by decide +kernel
theorem dX6_skipBlanks_23 : decode cX6_skipBlanks 23 = .ok (.bipush 10, 2) := by decide +kernel
theorem dX6_skipBlanks_25 : decode cX6_skipBlanks 25 = .ok (.if_icmp .eq 14, 3) := by decide +kernel
theorem dX6_skipBlanks_28 : decode cX6_skipBlanks 28 = .ok (.aload_n 0, 1) := by decide +kernel
theorem dX6_skipBlanks_29 : decode cX6_skipBlanks 29 = .ok (.getfield 9, 3) := by decide +kernel
theorem dX6_skipBlanks_32 : decode cX6_skipBlanks 32 = .ok (.iload_n 1, 1) := by decide +kernel
theorem dX6_skipBlanks_33 : decode cX6_skipBlanks 33 = .ok (.iaload, 1) := by decide +kernel
theorem dX6_skipBlanks_34 : decode cX6_skipBlanks 34 = .ok (.bipush 32, 2) := by decide +kernel
theorem dX6_skipBlanks_36 : decode cX6_skipBlanks 36 = .ok (.if_icmp .ne 16, 3) := by decide +kernel
theorem dX6_skipBlanks_39 : decode cX6_skipBlanks 39 = .ok (.aload_n 0, 1) := by decide +kernel
theorem dX6_skipBlanks_40 : decode cX6_skipBlanks 40 = .ok (.iload_n 1, 1) := by decide +kernel
theorem dX6_skipBlanks_41 : decode cX6_skipBlanks 41 = .ok (.iconst 1, 1) := by decide +kernel
theorem dX6_skipBlanks_42 : decode cX6_skipBlanks 42 = .ok (.iadd, 1) := by decide +kernel
theorem dX6_skipBlanks_43 : decode cX6_skipBlanks 43 = .ok (.putfield 31, 3) := by decide +kernel
theorem dX6_skipBlanks_46 : decode cX6_skipBlanks 46 = .ok (.iinc 1 1, 3) := by decide +kernel
theorem dX6_skipBlanks_49 : decode cX6_skipBlanks 49 = .ok (.goto (-44), 3) := by decide +kernel
theorem dX6_skipBlanks_52 : decode cX6_skipBlanks 52 = .ok (.return_, 1) := by decide +kernel
theorem dX6_firstDigits_0 : decode cX6_firstDigits 0 = .ok (.iconst 0, 1) := by decide +kernel
theorem dX6_firstDigits_1 : decode cX6_firstDigits 1 = .ok (.istore_n 1, 1) := by decide +kernel
theorem dX6_firstDigits_2 : decode cX6_firstDigits 2 = .ok (.aload_n 0, 1) := by decide +kernel
theorem dX6_firstDigits_3 : decode cX6_firstDigits 3 = .ok (.getfield 49, 3) := by decide +kernel
theorem dX6_firstDigits_6 : decode cX6_firstDigits 6 = .ok (.istore_n 2, 1) := by decide +kernel
theorem dX6_firstDigits_7 : decode cX6_firstDigits 7 = .ok (.iload_n 2, 1) := by decide +kernel
theorem dX6_firstDigits_8 : decode cX6_firstDigits 8 = .ok (.ifCond .lt 42, 3) := by decide +kernel
theorem dX6_firstDigits_11 : decode cX6_firstDigits 11 = .ok (.iload_n 2, 1) := by decide +kernel
theorem dX6_firstDigits_12 : decode cX6_firstDigits 12 = .ok (.aload_n 0, 1) := by decide +kernel
theorem dX6_firstDigits_13 : decode cX6_firstDigits 13 = .ok (.getfield 31, 3) := by decide +kernel
theorem dX6_firstDigits_16 : decode cX6_firstDigits 16 = .ok (.if_icmp .ge 34, 3) := by decide +kernel
theorem dX6_firstDigits_19 : decode cX6_firstDigits 19 = .ok (.iload_n 2, 1) := by decide +kernel
theorem dX6_firstDigits_20 : decode cX6_firstDigits 20 = .ok (.aload_n 0, 1) := by decide +kernel
theorem dX6_firstDigits_21 : decode cX6_firstDigits 21 = .ok (.getfield 49, 3) := by decide +kernel
theorem dX6_firstDigits_24 : decode cX6_firstDigits 24 = .ok (.iconst 4, 1) := by decide +kernel
theorem dX6_firstDigits_25 : decode cX6_firstDigits 25 = .ok (.iadd, 1) := by decide +kernel
theorem dX6_firstDigits_26 : decode cX6_firstDigits 26 = .ok (.if_icmp .ge 24, 3) := by decide +kernel
theorem dX6_firstDigits_29 : decode cX6_firstDigits 29 = .ok (.bipush 10, 2) := by decide +kernel
theorem dX6_firstDigits_31 : decode cX6_firstDigits 31 = .ok (.iload_n 1, 1) := by decide +kernel
theorem dX6_firstDigits_32 : decode cX6_firstDigits 32 = .ok (.imul, 1) := by decide +kernel
theorem dX6_firstDigits_33 : decode cX6_firstDigits 33 = .ok (.aload_n 0, 1) := by decide +kernel
theorem dX6_firstDigits_34 : decode cX6_firstDigits 34 = .ok (.getfield 9, 3) := by decide +kernel
theorem dX6_firstDigits_37 : decode cX6_firstDigits 37 = .ok (.iload_n 2, 1) := by decide +kernel
theorem dX6_firstDigits_38 : decode cX6_firstDigits 38 = .ok (.iaload, 1) := by decide +kernel
theorem dX6_firstDigits_39 : decode cX6_firstDigits 39 = .ok (.iadd, 1) := by decide +kernel
theorem dX6_firstDigits_40 : decode cX6_firstDigits 40 = .ok (.bipush 48, 2) := by decide +kernel
theorem dX6_firstDigits_42 : decode cX6_firstDigits 42 = .ok (.isub, 1) := by decide +kernel
theorem dX6_firstDigits_43 : decode cX6_firstDigits 43 = .ok (.istore_n 1, 1) := by decide +kernel
theorem dX6_firstDigits_44 : decode cX6_firstDigits 44 = .ok (.iinc 2 1, 3) := by decide +kernel
theorem dX6_firstDigits_47 : decode cX6_firstDigits 47 = .ok (.goto (-40), 3) := by decide +kernel
theorem dX6_firstDigits_50 : decode cX6_firstDigits 50 = .ok (.iload_n 1, 1) := by decide +kernel
theorem dX6_firstDigits_51 : decode cX6_firstDigits 51 = .ok (.ireturn, 1) := by decide +kernel
theorem dX6_wordNumber_0 : decode cX6_wordNumber 0 = .ok (.iconst 0, 1) := by decide +kernel
theorem dX6_wordNumber_1 : decode cX6_wordNumber 1 = .ok (.istore_n 1, 1) := by decide +kernel
theorem dX6_wordNumber_2 : decode cX6_wordNumber 2 = .ok (.iconst 0, 1) := by decide +kernel
theorem dX6_wordNumber_3 : decode cX6_wordNumber 3 = .ok (.istore_n 2, 1) := by decide +kernel
theorem dX6_wordNumber_4 : decode cX6_wordNumber 4 = .ok (.iconst 0, 1) := by decide +kernel
theorem dX6_wordNumber_5 : decode cX6_wordNumber 5 = .ok (.istore_n 3, 1) := by decide +kernel
theorem dX6_wordNumber_6 : decode cX6_wordNumber 6 = .ok (.iload_n 3, 1) := by decide +kernel
theorem dX6_wordNumber_7 : decode cX6_wordNumber 7 = .ok (.ldc 137, 2) := by decide +kernel
theorem dX6_wordNumber_9 : decode cX6_wordNumber 9 = .ok (.invokevirtual 139, 3) := by decide +kernel
theorem dX6_wordNumber_12 : decode cX6_wordNumber 12 = .ok (.if_icmp .ge 93, 3) := by decide +kernel
theorem dX6_wordNumber_15 : decode cX6_wordNumber 15 = .ok (.ldc 137, 2) := by decide +kernel
theorem dX6_wordNumber_17 : decode cX6_wordNumber 17 = .ok (.iload_n 3, 1) := by decide +kernel
theorem dX6_wordNumber_18 : decode cX6_wordNumber 18 = .ok (.invokevirtual 143, 3) := by decide +kernel
theorem dX6_wordNumber_21 : decode cX6_wordNumber 21 = .ok (.istore 4, 2) := by decide +kernel
theorem dX6_wordNumber_23 : decode cX6_wordNumber 23 = .ok (.aload_n 0, 1) := by decide +kernel
theorem dX6_wordNumber_24 : decode cX6_wordNumber 24 = .ok (.getfield 49, 3) := by decide +kernel
theorem dX6_wordNumber_27 : decode cX6_wordNumber 27 = .ok (.iload_n 2, 1) := by decide +kernel
theorem dX6_wordNumber_28 : decode cX6_wordNumber 28 = .ok (.iadd, 1) := by decide +kernel
theorem dX6_wordNumber_29 : decode cX6_wordNumber 29 = .ok (.istore 5, 2) := by decide +kernel
theorem dX6_wordNumber_31 : decode cX6_wordNumber 31 = .ok (.iload 4, 2) := by decide +kernel
theorem dX6_wordNumber_33 : decode cX6_wordNumber 33 = .ok (.bipush 32, 2) := by decide +kernel
theorem dX6_wordNumber_35 : decode cX6_wordNumber 35 = .ok (.if_icmp .ne 26, 3) := by decide +kernel
theorem dX6_wordNumber_38 : decode cX6_wordNumber 38 = .ok (.iload_n 2, 1) := by decide +kernel
theorem dX6_wordNumber_39 : decode cX6_wordNumber 39 = .ok (.aload_n 0, 1) := by decide +kernel
theorem dX6_wordNumber_40 : decode cX6_wordNumber 40 = .ok (.getfield 31, 3) := by decide +kernel
theorem dX6_wordNumber_43 : decode cX6_wordNumber 43 = .ok (.aload_n 0, 1) := by decide +kernel
theorem dX6_wordNumber_44 : decode cX6_wordNumber 44 = .ok (.getfield 49, 3) := by decide +kernel
theorem dX6_wordNumber_47 : decode cX6_wordNumber 47 = .ok (.isub, 1) := by decide +kernel
theorem dX6_wordNumber_48 : decode cX6_wordNumber 48 = .ok (.if_icmp .ne 5, 3) := by decide +kernel
theorem dX6_wordNumber_51 : decode cX6_wordNumber 51 = .ok (.iload_n 1, 1) := by decide +kernel
theorem dX6_wordNumber_52 : decode cX6_wordNumber 52 = .ok (.ireturn, 1) := by decide +kernel
theorem dX6_wordNumber_53 : decode cX6_wordNumber 53 = .ok (.iinc 1 1, 3) := by decide +kernel
theorem dX6_wordNumber_56 : decode cX6_wordNumber 56 = .ok (.iconst 0, 1) := by decide +kernel
theorem dX6_wordNumber_57 : decode cX6_wordNumber 57 = .ok (.istore_n 2, 1) := by decide +kernel
theorem dX6_wordNumber_58 : decode cX6_wordNumber 58 = .ok (.goto 41, 3) := by decide +kernel
theorem dX6_wordNumber_61 : decode cX6_wordNumber 61 = .ok (.iload_n 2, 1) := by decide +kernel
theorem dX6_wordNumber_62 : decode cX6_wordNumber 62 = .ok (.ifCond .lt 35, 3) := by decide +kernel
theorem dX6_wordNumber_65 : decode cX6_wordNumber 65 = .ok (.iload 5, 2) := by decide +kernel
theorem dX6_wordNumber_67 : decode cX6_wordNumber 67 = .ok (.ifCond .lt 30, 3) := by decide +kernel
theorem dX6_wordNumber_70 : decode cX6_wordNumber 70 = .ok (.iload 5, 2) := by decide +kernel
theorem dX6_wordNumber_72 : decode cX6_wordNumber 72 = .ok (.aload_n 0, 1) := by decide +kernel
theorem dX6_wordNumber_73 : decode cX6_wordNumber 73 = .ok (.getfield 31, 3) := by decide +kernel
theorem dX6_wordNumber_76 : decode cX6_wordNumber 76 = .ok (.if_icmp .ge 21, 3) := by decide +kernel
theorem dX6_wordNumber_79 : decode cX6_wordNumber 79 = .ok (.aload_n 0, 1) := by decide +kernel
theorem dX6_wordNumber_80 : decode cX6_wordNumber 80 = .ok (.getfield 9, 3) := by decide +kernel
theorem dX6_wordNumber_83 : decode cX6_wordNumber 83 = .ok (.iload 5, 2) := by decide +kernel
theorem dX6_wordNumber_85 : decode cX6_wordNumber 85 = .ok (.iaload, 1) := by decide +kernel
theorem dX6_wordNumber_86 : decode cX6_wordNumber 86 = .ok (.iload 4, 2) := by decide +kernel
theorem dX6_wordNumber_88 : decode cX6_wordNumber 88 = .ok (.if_icmp .ne 9, 3) := by decide +kernel
theorem dX6_wordNumber_91 : decode cX6_wordNumber 91 = .ok (.iinc 2 1, 3) := by decide +kernel
theorem dX6_wordNumber_94 : decode cX6_wordNumber 94 = .ok (.goto 5, 3) := by decide +kernel
theorem dX6_wordNumber_97 : decode cX6_wordNumber 97 = .ok (.iconst (-1), 1) := by decide +kernel
theorem dX6_wordNumber_98 : decode cX6_wordNumber 98 = .ok (.istore_n 2, 1) := by decide +kernel
theorem dX6_wordNumber_99 : decode cX6_wordNumber 99 = .ok (.iinc 3 1, 3) := by decide +kernel
theorem dX6_wordNumber_102 : decode cX6_wordNumber 102 = .ok (.goto (-96), 3) := by decide +kernel
theorem dX6_wordNumber_105 : decode cX6_wordNumber 105 = .ok (.iconst (-1), 1) := by decide +kernel
theorem dX6_wordNumber_106 : decode cX6_wordNumber 106 = .ok (.ireturn, 1) := by decide +kernel
theorem dX6_kindOf_0 : decode cX6_kindOf 0 = .ok (.iload_n 0, 1) := by decide +kernel
theorem dX6_kindOf_1 : decode cX6_kindOf 1 = .ok (.bipush 97, 2) := by decide +kernel
theorem dX6_kindOf_3 : decode cX6_kindOf 3 = .ok (.if_icmp .lt 11, 3) := by decide +kernel
theorem dX6_kindOf_6 : decode cX6_kindOf 6 = .ok (.iload_n 0, 1) := by decide +kernel
theorem dX6_kindOf_7 : decode cX6_kindOf 7 = .ok (.bipush 122, 2) := by decide +kernel
theorem dX6_kindOf_9 : decode cX6_kindOf 9 = .ok (.if_icmp .gt 5, 3) := by decide +kernel
theorem dX6_kindOf_12 : decode cX6_kindOf 12 = .ok (.iconst 1, 1) := by decide +kernel
theorem dX6_kindOf_13 : decode cX6_kindOf 13 = .ok (.ireturn, 1) := by decide +kernel
theorem dX6_kindOf_14 : decode cX6_kindOf 14 = .ok (.iload_n 0, 1) := by decide +kernel
theorem dX6_kindOf_15 : decode cX6_kindOf 15 = .ok (.bipush 48, 2) := by decide +kernel
theorem dX6_kindOf_17 : decode cX6_kindOf 17 = .ok (.if_icmp .lt 13, 3) := by decide +kernel
theorem dX6_kindOf_20 : decode cX6_kindOf 20 = .ok (.iload_n 0, 1) := by decide +kernel
theorem dX6_kindOf_21 : decode cX6_kindOf 21 = .ok (.bipush 57, 2) := by decide +kernel
theorem dX6_kindOf_23 : decode cX6_kindOf 23 = .ok (.if_icmp .gt 7, 3) := by decide +kernel
theorem dX6_kindOf_26 : decode cX6_kindOf 26 = .ok (.iconst 2, 1) := by decide +kernel
theorem dX6_kindOf_27 : decode cX6_kindOf 27 = .ok (.goto 4, 3) := by decide +kernel
theorem dX6_kindOf_30 : decode cX6_kindOf 30 = .ok (.iconst 3, 1) := by decide +kernel
theorem dX6_kindOf_31 : decode cX6_kindOf 31 = .ok (.ireturn, 1) := by decide +kernel
theorem dX7_init_0 : decode cX7_init 0 = .ok (.aload_n 0, 1) := by decide +kernel
theorem dX7_init_1 : decode cX7_init 1 = .ok (.invokespecial 3, 3) := by decide +kernel
theorem dX7_init_4 : decode cX7_init 4 = .ok (.aload_n 0, 1) := by decide +kernel
theorem dX7_init_5 : decode cX7_init 5 = .ok (.bipush 42, 2) := by decide +kernel
theorem dX7_init_7 : decode cX7_init 7 = .ok (.newarray .int, 2) := by decide +kernel
theorem dX7_init_9 : decode cX7_init 9 = .ok (.putfield 9, 3) := by decide +kernel
theorem dX7_init_12 : decode cX7_init 12 = .ok (.aload_n 0, 1) := by decide +kernel
theorem dX7_init_13 : decode cX7_init 13 = .ok (.bipush 7, 2) := by decide +kernel
theorem dX7_init_15 : decode cX7_init 15 = .ok (.newarray .int, 2) := by decide +kernel
theorem dX7_init_17 : decode cX7_init 17 = .ok (.putfield 15, 3) := by decide +kernel
theorem dX7_init_20 : decode cX7_init 20 = .ok (.aload_n 0, 1) := by decide +kernel
theorem dX7_init_21 : decode cX7_init 21 = .ok (.bipush 7, 2) := by decide +kernel
theorem dX7_init_23 : decode cX7_init 23 = .ok (.newarray .int, 2) := by decide +kernel
theorem dX7_init_25 : decode cX7_init 25 = .ok (.putfield 18, 3) := by decide +kernel
theorem dX7_init_28 : decode cX7_init 28 = .ok (.aload_n 0, 1) := by decide +kernel
theorem dX7_init_29 : decode cX7_init 29 = .ok (.bipush 64, 2) := by decide +kernel
theorem dX7_init_31 : decode cX7_init 31 = .ok (.newarray .int, 2) := by decide +kernel
theorem dX7_init_33 : decode cX7_init 33 = .ok (.putfield 21, 3) := by decide +kernel
theorem dX7_init_36 : decode cX7_init 36 = .ok (.aload_n 0, 1) := by decide +kernel
theorem dX7_init_37 : decode cX7_init 37 = .ok (.sipush 1608, 3) := by decide +kernel
theorem dX7_init_40 : decode cX7_init 40 = .ok (.newarray .int, 2) := by decide +kernel
theorem dX7_init_42 : decode cX7_init 42 = .ok (.putfield 24, 3) := by decide +kernel
theorem dX7_init_45 : decode cX7_init 45 = .ok (.aload_n 0, 1) := by decide +kernel
theorem dX7_init_46 : decode cX7_init 46 = .ok (.iconst 5, 1) := by decide +kernel
theorem dX7_init_47 : decode cX7_init 47 = .ok (.newarray .int, 2) := by decide +kernel
theorem dX7_init_49 : decode cX7_init 49 = .ok (.putfield 27, 3) := by decide +kernel
theorem dX7_init_52 : decode cX7_init 52 = .ok (.aload_n 0, 1) := by decide +kernel
theorem dX7_init_53 : decode cX7_init 53 = .ok (.iconst 5, 1) := by decide +kernel
theorem dX7_init_54 : decode cX7_init 54 = .ok (.newarray .int, 2) := by decide +kernel
theorem dX7_init_56 : decode cX7_init 56 = .ok (.putfield 30, 3) := by decide +kernel
theorem dX7_init_59 : decode cX7_init 59 = .ok (.return_, 1) := by decide +kernel
theorem dX7_clear_0 : decode cX7_clear 0 = .ok (.aload_n 0, 1) := by decide +kernel
theorem dX7_clear_1 : decode cX7_clear 1 = .ok (.iconst 0, 1) := by decide +kernel
theorem dX7_clear_2 : decode cX7_clear 2 = .ok (.putfield 33, 3) := by decide +kernel
theorem dX7_clear_5 : decode cX7_clear 5 = .ok (.aload_n 0, 1) := by decide +kernel
theorem dX7_clear_6 : decode cX7_clear 6 = .ok (.iconst 0, 1) := by decide +kernel
theorem dX7_clear_7 : decode cX7_clear 7 = .ok (.putfield 37, 3) := by decide +kernel
theorem dX7_clear_10 : decode cX7_clear 10 = .ok (.aload_n 0, 1) := by decide +kernel
theorem dX7_clear_11 : decode cX7_clear 11 = .ok (.iconst 0, 1) := by decide +kernel
theorem dX7_clear_12 : decode cX7_clear 12 = .ok (.putfield 40, 3) := by decide +kernel
theorem dX7_clear_15 : decode cX7_clear 15 = .ok (.aload_n 0, 1) := by decide +kernel
theorem dX7_clear_16 : decode cX7_clear 16 = .ok (.iconst 0, 1) := by decide +kernel
theorem dX7_clear_17 : decode cX7_clear 17 = .ok (.putfield 43, 3) := by decide +kernel
theorem dX7_clear_20 : decode cX7_clear 20 = .ok (.aload_n 0, 1) := by decide +kernel
theorem dX7_clear_21 : decode cX7_clear 21 = .ok (.getfield 9, 3) := by decide +kernel
theorem dX7_clear_24 : decode cX7_clear 24 = .ok (.iconst 0, 1) := by decide +kernel
theorem dX7_clear_25 : decode cX7_clear 25 = .ok (.invokestatic 46, 3) := by decide +kernel
theorem dX7_clear_28 : decode cX7_clear 28 = .ok (.aload_n 0, 1) := by decide +kernel
theorem dX7_clear_29 : decode cX7_clear 29 = .ok (.getfield 15, 3) := by decide +kernel
theorem dX7_clear_32 : decode cX7_clear 32 = .ok (.iconst 0, 1) := by decide +kernel
theorem dX7_clear_33 : decode cX7_clear 33 = .ok (.invokestatic 46, 3) := by decide +kernel
theorem dX7_clear_36 : decode cX7_clear 36 = .ok (.aload_n 0, 1) := by decide +kernel
theorem dX7_clear_37 : decode cX7_clear 37 = .ok (.getfield 18, 3) := by decide +kernel
theorem dX7_clear_40 : decode cX7_clear 40 = .ok (.iconst 0, 1) := by decide +kernel
theorem dX7_clear_41 : decode cX7_clear 41 = .ok (.invokestatic 46, 3) := by decide +kernel
theorem dX7_clear_44 : decode cX7_clear 44 = .ok (.aload_n 0, 1) := by decide +kernel
theorem dX7_clear_45 : decode cX7_clear 45 = .ok (.getfield 21, 3) := by decide +kernel
theorem dX7_clear_48 : decode cX7_clear 48 = .ok (.iconst 0, 1) := by decide +kernel
theorem dX7_clear_49 : decode cX7_clear 49 = .ok (.invokestatic 46, 3) := by decide +kernel
theorem dX7_clear_52 : decode cX7_clear 52 = .ok (.aload_n 0, 1) := by decide +kernel
theorem dX7_clear_53 : decode cX7_clear 53 = .ok (.getfield 24, 3) := by decide +kernel
theorem dX7_clear_56 : decode cX7_clear 56 = .ok (.iconst 0, 1) := by decide +kernel
theorem dX7_clear_57 : decode cX7_clear 57 = .ok (.sipush 10006, 3) := by decide +kernel
theorem dX7_clear_60 : decode cX7_clear 60 = .ok (.iastore, 1) := by decide +kernel
theorem dX7_clear_61 : decode cX7_clear 61 = .ok (.aload_n 0, 1) := by decide +kernel
theorem dX7_clear_62 : decode cX7_clear 62 = .ok (.getfield 24, 3) := by decide +kernel
theorem dX7_clear_65 : decode cX7_clear 65 = .ok (.iconst 1, 1) := by decide +kernel
theorem dX7_clear_66 : decode cX7_clear 66 = .ok (.sipush 10003, 3) := by decide +kernel
theorem dX7_clear_69 : decode cX7_clear 69 = .ok (.iastore, 1) := by decide +kernel
theorem dX7_clear_70 : decode cX7_clear 70 = .ok (.aload_n 0, 1) := by decide +kernel
theorem dX7_clear_71 : decode cX7_clear 71 = .ok (.getfield 24, 3) := by decide +kernel
theorem dX7_clear_74 : decode cX7_clear 74 = .ok (.iconst 2, 1) := by decide +kernel
theorem dX7_clear_75 : decode cX7_clear 75 = .ok (.sipush 10014, 3) := by decide +kernel
theorem dX7_clear_78 : decode cX7_clear 78 = .ok (.iastore, 1) := by decide +kernel
theorem dX7_clear_79 : decode cX7_clear 79 = .ok (.aload_n 0, 1) := by decide +kernel
theorem dX7_clear_80 : decode cX7_clear 80 = .ok (.getfield 24, 3) := by decide +kernel
theorem dX7_clear_83 : decode cX7_clear 83 = .ok (.iconst 3, 1) := by decide +kernel
theorem dX7_clear_84 : decode cX7_clear 84 = .ok (.iconst 5, 1) := by decide +kernel
theorem dX7_clear_85 : decode cX7_clear 85 = .ok (.iastore, 1) := by decide +kernel
theorem dX7_clear_86 : decode cX7_clear 86 = .ok (.aload_n 0, 1) := by decide +kernel
theorem dX7_clear_87 : decode cX7_clear 87 = .ok (.getfield 24, 3) := by decide +kernel
theorem dX7_clear_90 : decode cX7_clear 90 = .ok (.iconst 4, 1) := by decide +kernel
theorem dX7_clear_91 : decode cX7_clear 91 = .ok (.bipush (-6), 2) := by decide +kernel
theorem dX7_clear_93 : decode cX7_clear 93 = .ok (.iastore, 1) := by decide +kernel
theorem dX7_clear_94 : decode cX7_clear 94 = .ok (.aload_n 0, 1) := by decide +kernel
theorem dX7_clear_95 : decode cX7_clear 95 = .ok (.getfield 24, 3) := by decide +kernel
theorem dX7_clear_98 : decode cX7_clear 98 = .ok (.iconst 5, 1) := by decide +kernel
theorem dX7_clear_99 : decode cX7_clear 99 = .ok (.iconst 1, 1) := by decide +kernel
theorem dX7_clear_100 : decode cX7_clear 100 = .ok (.iastore, 1) := by decide +kernel
theorem dX7_clear_101 : decode cX7_clear 101 = .ok (.aload_n 0, 1) := by decide +kernel
theorem dX7_clear_102 : decode cX7_clear 102 = .ok (.iconst 0, 1) := by decide +kernel
theorem dX7_clear_103 : decode cX7_clear 103 = .ok (.iconst 0, 1) := by decide +kernel
theorem dX7_clear_104 : decode cX7_clear 104 = .ok (.iconst 1, 1) := by decide +kernel
theorem dX7_clear_105 : decode cX7_clear 105 = .ok (.invokevirtual 56, 3) := by decide +kernel
theorem dX7_clear_108 : decode cX7_clear 108 = .ok (.aload_n 0, 1) := by decide +kernel
theorem dX7_clear_109 : decode cX7_clear 109 = .ok (.iconst 1, 1) := by decide +kernel
theorem dX7_clear_110 : decode cX7_clear 110 = .ok (.iconst 1, 1) := by decide +kernel
theorem dX7_clear_111 : decode cX7_clear 111 = .ok (.iconst 2, 1) := by decide +kernel
theorem dX7_clear_112 : decode cX7_clear 112 = .ok (.invokevirtual 56, 3) := by decide +kernel
theorem dX7_clear_115 : decode cX7_clear 115 = .ok (.aload_n 0, 1) := by decide +kernel
theorem dX7_clear_116 : decode cX7_clear 116 = .ok (.iconst 2, 1) := by decide +kernel
theorem dX7_clear_117 : decode cX7_clear 117 = .ok (.iconst 2, 1) := by decide +kernel
theorem dX7_clear_118 : decode cX7_clear 118 = .ok (.iconst 5, 1) := by decide +kernel
theorem dX7_clear_119 : decode cX7_clear 119 = .ok (.invokevirtual 56, 3) := by decide +kernel
theorem dX7_clear_122 : decode cX7_clear 122 = .ok (.aload_n 0, 1) := by decide +kernel
theorem dX7_clear_123 : decode cX7_clear 123 = .ok (.iconst 3, 1) := by decide +kernel
theorem dX7_clear_124 : decode cX7_clear 124 = .ok (.iconst 0, 1) := by decide +kernel
theorem dX7_clear_125 : decode cX7_clear 125 = .ok (.iconst 1, 1) := by decide +kernel
theorem dX7_clear_126 : decode cX7_clear 126 = .ok (.invokevirtual 56, 3) := by decide +kernel
theorem dX7_clear_129 : decode cX7_clear 129 = .ok (.aload_n 0, 1) := by decide +kernel
theorem dX7_clear_130 : decode cX7_clear 130 = .ok (.iconst 4, 1) := by decide +kernel
theorem dX7_clear_131 : decode cX7_clear 131 = .ok (.iconst 5, 1) := by decide +kernel
theorem dX7_clear_132 : decode cX7_clear 132 = .ok (.bipush 6, 2) := by decide +kernel
theorem dX7_clear_134 : decode cX7_clear 134 = .ok (.invokevirtual 56, 3) := by decide +kernel
theorem dX7_clear_137 : decode cX7_clear 137 = .ok (.bipush 6, 2) := by decide +kernel
theorem dX7_clear_139 : decode cX7_clear 139 = .ok (.ireturn, 1) := by decide +kernel
theorem dX7_place_0 : decode cX7_place 0 = .ok (.iload_n 1, 1) := by decide +kernel
theorem dX7_place_1 : decode cX7_place 1 = .ok (.ifCond .lt 22, 3) := by decide +kernel
theorem dX7_place_4 : decode cX7_place 4 = .ok (.iload_n 1, 1) := by decide +kernel
theorem dX7_place_5 : decode cX7_place 5 = .ok (.iconst 5, 1) := by decide +kernel
theorem dX7_place_6 : decode cX7_place 6 = .ok (.if_icmp .ge 17, 3) := by decide +kernel
theorem dX7_place_9 : decode cX7_place 9 = .ok (.aload_n 0, 1) := by decide +kernel
theorem dX7_place_10 : decode cX7_place 10 = .ok (.getfield 27, 3) := by decide +kernel
theorem dX7_place_13 : decode cX7_place 13 = .ok (.iload_n 1, 1) := by decide +kernel
theorem dX7_place_14 : decode cX7_place 14 = .ok (.iload_n 2, 1) := by decide +kernel
theorem dX7_place_15 : decode cX7_place 15 = .ok (.iastore, 1) := by decide +kernel
theorem dX7_place_16 : decode cX7_place 16 = .ok (.aload_n 0, 1) := by decide +kernel
theorem dX7_place_17 : decode cX7_place 17 = .ok (.getfield 30, 3) := by decide +kernel
theorem dX7_place_20 : decode cX7_place 20 = .ok (.iload_n 1, 1) := by decide +kernel
theorem dX7_place_21 : decode cX7_place 21 = .ok (.iload_n 3, 1) := by decide +kernel
theorem dX7_place_22 : decode cX7_place 22 = .ok (.iastore, 1) := by decide +kernel
theorem dX7_place_23 : decode cX7_place 23 = .ok (.return_, 1) := by decide +kernel
theorem dX7_houseNamed_0 : decode cX7_houseNamed 0 = .ok (.iconst 0, 1) := by decide +kernel
theorem dX7_houseNamed_1 : decode cX7_houseNamed 1 = .ok (.istore 4, 2) := by decide +kernel
theorem dX7_houseNamed_3 : decode cX7_houseNamed 3 = .ok (.iload 4, 2) := by decide +kernel
theorem dX7_houseNamed_5 : decode cX7_houseNamed 5 = .ok (.aload_n 0, 1) := by decide +kernel
theorem dX7_houseNamed_6 : decode cX7_houseNamed 6 = .ok (.getfield 40, 3) := by decide +kernel
theorem dX7_houseNamed_9 : decode cX7_houseNamed 9 = .ok (.if_icmp .ge 112, 3) := by decide +kernel
theorem dX7_houseNamed_12 : decode cX7_houseNamed 12 = .ok (.iload 4, 2) := by decide +kernel
theorem dX7_houseNamed_14 : decode cX7_houseNamed 14 = .ok (.bipush 7, 2) := by decide +kernel
theorem dX7_houseNamed_16 : decode cX7_houseNamed 16 = .ok (.if_icmp .ge 105, 3) := by decide +kernel
theorem dX7_houseNamed_19 : decode cX7_houseNamed 19 = .ok (.iconst 1, 1) := by decide +kernel
theorem dX7_houseNamed_20 : decode cX7_houseNamed 20 = .ok (.istore 5, 2) := by decide +kernel
theorem dX7_houseNamed_22 : decode cX7_houseNamed 22 = .ok (.iconst 0, 1) := by decide +kernel
theorem dX7_houseNamed_23 : decode cX7_houseNamed 23 = .ok (.istore 6, 2) := by decide +kernel
theorem dX7_houseNamed_25 : decode cX7_houseNamed 25 = .ok (.iload 6, 2) := by decide +kernel
theorem dX7_houseNamed_27 : decode cX7_houseNamed 27 = .ok (.bipush 6, 2) := by decide +kernel
theorem dX7_houseNamed_29 : decode cX7_houseNamed 29 = .ok (.if_icmp .ge 78, 3) := by decide +kernel
theorem dX7_houseNamed_32 : decode cX7_houseNamed 32 = .ok (.iload 5, 2) := by decide +kernel
theorem dX7_houseNamed_34 : decode cX7_houseNamed 34 = .ok (.ifCond .eq 73, 3) := by decide +kernel
theorem dX7_houseNamed_37 : decode cX7_houseNamed 37 = .ok (.iload_n 2, 1) := by decide +kernel
theorem dX7_houseNamed_38 : decode cX7_houseNamed 38 = .ok (.iload 6, 2) := by decide +kernel
theorem dX7_houseNamed_40 : decode cX7_houseNamed 40 = .ok (.iadd, 1) := by decide +kernel
theorem dX7_houseNamed_41 : decode cX7_houseNamed 41 = .ok (.istore 7, 2) := by decide +kernel
theorem dX7_houseNamed_43 : decode cX7_houseNamed 43 = .ok (.iload 7, 2) := by decide +kernel
theorem dX7_houseNamed_45 : decode cX7_houseNamed 45 = .ok (.ifCond .lt 28, 3) := by decide +kernel
theorem dX7_houseNamed_48 : decode cX7_houseNamed 48 = .ok (.iload 7, 2) := by decide +kernel
theorem dX7_houseNamed_50 : decode cX7_houseNamed 50 = .ok (.iload_n 3, 1) := by decide +kernel
theorem dX7_houseNamed_51 : decode cX7_houseNamed 51 = .ok (.if_icmp .ge 22, 3) := by decide +kernel
theorem dX7_houseNamed_54 : decode cX7_houseNamed 54 = .ok (.iload 7, 2) := by decide +kernel
theorem dX7_houseNamed_56 : decode cX7_houseNamed 56 = .ok (.aload_n 1, 1) := by decide +kernel
theorem dX7_houseNamed_57 : decode cX7_houseNamed 57 = .ok (.arraylength, 1) := by decide +kernel
theorem dX7_houseNamed_58 : decode cX7_houseNamed 58 = .ok (.if_icmp .ge 15, 3) := by decide +kernel
theorem dX7_houseNamed_61 : decode cX7_houseNamed 61 = .ok (.aload_n 1, 1) := by decide +kernel
theorem dX7_houseNamed_62 : decode cX7_houseNamed 62 = .ok (.iload 7, 2) := by decide +kernel
theorem dX7_houseNamed_64 : decode cX7_houseNamed 64 = .ok (.iaload, 1) := by decide +kernel
theorem dX7_houseNamed_65 : decode cX7_houseNamed 65 = .ok (.bipush 97, 2) := by decide +kernel
theorem dX7_houseNamed_67 : decode cX7_houseNamed 67 = .ok (.isub, 1) := by decide +kernel
theorem dX7_houseNamed_68 : decode cX7_houseNamed 68 = .ok (.iconst 1, 1) := by decide +kernel
theorem dX7_houseNamed_69 : decode cX7_houseNamed 69 = .ok (.iadd, 1) := by decide +kernel
theorem dX7_houseNamed_70 : decode cX7_houseNamed 70 = .ok (.goto 4, 3) := by decide +kernel
theorem dX7_houseNamed_73 : decode cX7_houseNamed 73 = .ok (.iconst 0, 1) := by decide +kernel
theorem dX7_houseNamed_74 : decode cX7_houseNamed 74 = .ok (.istore 8, 2) := by decide +kernel
theorem dX7_houseNamed_76 : decode cX7_houseNamed 76 = .ok (.iload 8, 2) := by decide +kernel
theorem dX7_houseNamed_78 : decode cX7_houseNamed 78 = .ok (.aload_n 0, 1) := by decide +kernel
theorem dX7_houseNamed_79 : decode cX7_houseNamed 79 = .ok (.getfield 9, 3) := by decide +kernel
theorem dX7_houseNamed_82 : decode cX7_houseNamed 82 = .ok (.iload 4, 2) := by decide +kernel
theorem dX7_houseNamed_84 : decode cX7_houseNamed 84 = .ok (.bipush 6, 2) := by decide +kernel
theorem dX7_houseNamed_86 : decode cX7_houseNamed 86 = .ok (.imul, 1) := by decide +kernel
theorem dX7_houseNamed_87 : decode cX7_houseNamed 87 = .ok (.iload 6, 2) := by decide +kernel
theorem dX7_houseNamed_89 : decode cX7_houseNamed 89 = .ok (.iadd, 1) := by decide +kernel
theorem dX7_houseNamed_90 : decode cX7_houseNamed 90 = .ok (.iaload, 1) := by decide +kernel
theorem dX7_houseNamed_91 : decode cX7_houseNamed 91 = .ok (.if_icmp .ne 7, 3) := by decide +kernel
theorem dX7_houseNamed_94 : decode cX7_houseNamed 94 = .ok (.iconst 1, 1) := by decide +kernel
theorem dX7_houseNamed_95 : decode cX7_houseNamed 95 = .ok (.goto 4, 3) := by decide +kernel
theorem dX7_houseNamed_98 : decode cX7_houseNamed 98 = .ok (.iconst 0, 1) := by decide +kernel
theorem dX7_houseNamed_99 : decode cX7_houseNamed 99 = .ok (.istore 5, 2) := by decide +kernel
theorem dX7_houseNamed_101 : decode cX7_houseNamed 101 = .ok (.iinc 6 1, 3) := by decide +kernel
theorem dX7_houseNamed_104 : decode cX7_houseNamed 104 = .ok (.goto (-79), 3) := by decide +kernel
theorem dX7_houseNamed_107 : decode cX7_houseNamed 107 = .ok (.iload 5, 2) := by decide +kernel
theorem dX7_houseNamed_109 : decode cX7_houseNamed 109 = .ok (.ifCond .eq 6, 3) := by decide +kernel
