theorem dX11_canPass_38 : decode cX11_canPass 38 = .ok (.ireturn, 1) := by decide +kernel
theorem dX11_canLookAtSets_0 : decode cX11_canLookAtSets 0 = .ok (.iload_n 1, 1) := by decide +kernel
theorem dX11_canLookAtSets_1 : decode cX11_canLookAtSets 1 = .ok (.iconst 1, 1) := by decide +kernel
theorem dX11_canLookAtSets_2 : decode cX11_canLookAtSets 2 = .ok (.if_icmp .lt 28, 3) := by decide +kernel
theorem dX11_canLookAtSets_5 : decode cX11_canLookAtSets 5 = .ok (.iload_n 1, 1) := by decide +kernel
theorem dX11_canLookAtSets_6 : decode cX11_canLookAtSets 6 = .ok (.bipush 20, 2) := by decide +kernel
theorem dX11_canLookAtSets_8 : decode cX11_canLookAtSets 8 = .ok (.if_icmp .gt 22, 3) := by decide +kernel
theorem dX11_canLookAtSets_11 : decode cX11_canLookAtSets 11 = .ok (.aload_n 0, 1) := by decide +kernel
theorem dX11_canLookAtSets_12 : decode cX11_canLookAtSets 12 = .ok (.getfield 59, 3) := by decide +kernel
theorem dX11_canLookAtSets_15 : decode cX11_canLookAtSets 15 = .ok (.getfield 151, 3) := by decide +kernel
theorem dX11_canLookAtSets_18 : decode cX11_canLookAtSets 18 = .ok (.iload_n 1, 1) := by decide +kernel
theorem dX11_canLookAtSets_19 : decode cX11_canLookAtSets 19 = .ok (.iadd, 1) := by decide +kernel
theorem dX11_canLookAtSets_20 : decode cX11_canLookAtSets 20 = .ok (.sipush 999, 3) := by decide +kernel
theorem dX11_canLookAtSets_23 : decode cX11_canLookAtSets 23 = .ok (.if_icmp .gt 7, 3) := by decide +kernel
theorem dX11_canLookAtSets_26 : decode cX11_canLookAtSets 26 = .ok (.iconst 1, 1) := by decide +kernel
theorem dX11_canLookAtSets_27 : decode cX11_canLookAtSets 27 = .ok (.goto 4, 3) := by decide +kernel
theorem dX11_canLookAtSets_30 : decode cX11_canLookAtSets 30 = .ok (.iconst 0, 1) := by decide +kernel
theorem dX11_canLookAtSets_31 : decode cX11_canLookAtSets 31 = .ok (.ireturn, 1) := by decide +kernel
theorem dX11_goAhead_0 : decode cX11_goAhead 0 = .ok (.iload_n 1, 1) := by decide +kernel
theorem dX11_goAhead_1 : decode cX11_goAhead 1 = .ok (.ifCond .lt 24, 3) := by decide +kernel
theorem dX11_goAhead_4 : decode cX11_goAhead 4 = .ok (.iload_n 1, 1) := by decide +kernel
theorem dX11_goAhead_5 : decode cX11_goAhead 5 = .ok (.bipush 60, 2) := by decide +kernel
theorem dX11_goAhead_7 : decode cX11_goAhead 7 = .ok (.if_icmp .gt 18, 3) := by decide +kernel
theorem dX11_goAhead_10 : decode cX11_goAhead 10 = .ok (.aload_n 0, 1) := by decide +kernel
theorem dX11_goAhead_11 : decode cX11_goAhead 11 = .ok (.getfield 59, 3) := by decide +kernel
theorem dX11_goAhead_14 : decode cX11_goAhead 14 = .ok (.getfield 151, 3) := by decide +kernel
theorem dX11_goAhead_17 : decode cX11_goAhead 17 = .ok (.iload_n 1, 1) := by decide +kernel
theorem dX11_goAhead_18 : decode cX11_goAhead 18 = .ok (.iadd, 1) := by decide +kernel
theorem dX11_goAhead_19 : decode cX11_goAhead 19 = .ok (.sipush 999, 3) := by decide +kernel
theorem dX11_goAhead_22 : decode cX11_goAhead 22 = .ok (.if_icmp .le 5, 3) := by decide +kernel
theorem dX11_goAhead_25 : decode cX11_goAhead 25 = .ok (.iconst 0, 1) := by decide +kernel
theorem dX11_goAhead_26 : decode cX11_goAhead 26 = .ok (.ireturn, 1) := by decide +kernel
theorem dX11_goAhead_27 : decode cX11_goAhead 27 = .ok (.aload_n 0, 1) := by decide +kernel
theorem dX11_goAhead_28 : decode cX11_goAhead 28 = .ok (.getfield 63, 3) := by decide +kernel
theorem dX11_goAhead_31 : decode cX11_goAhead 31 = .ok (.aload_n 0, 1) := by decide +kernel
theorem dX11_goAhead_32 : decode cX11_goAhead 32 = .ok (.getfield 59, 3) := by decide +kernel
theorem dX11_goAhead_35 : decode cX11_goAhead 35 = .ok (.invokevirtual 200, 3) := by decide +kernel
theorem dX11_goAhead_38 : decode cX11_goAhead 38 = .ok (.iconst 0, 1) := by decide +kernel
theorem dX11_goAhead_39 : decode cX11_goAhead 39 = .ok (.istore_n 2, 1) := by decide +kernel
theorem dX11_goAhead_40 : decode cX11_goAhead 40 = .ok (.iload_n 2, 1) := by decide +kernel
theorem dX11_goAhead_41 : decode cX11_goAhead 41 = .ok (.iload_n 1, 1) := by decide +kernel
theorem dX11_goAhead_42 : decode cX11_goAhead 42 = .ok (.if_icmp .ge 22, 3) := by decide +kernel
theorem dX11_goAhead_45 : decode cX11_goAhead 45 = .ok (.aload_n 0, 1) := by decide +kernel
theorem dX11_goAhead_46 : decode cX11_goAhead 46 = .ok (.getfield 49, 3) := by decide +kernel
theorem dX11_goAhead_49 : decode cX11_goAhead 49 = .ok (.aload_n 0, 1) := by decide +kernel
theorem dX11_goAhead_50 : decode cX11_goAhead 50 = .ok (.getfield 63, 3) := by decide +kernel
theorem dX11_goAhead_53 : decode cX11_goAhead 53 = .ok (.iconst 0, 1) := by decide +kernel
theorem dX11_goAhead_54 : decode cX11_goAhead 54 = .ok (.iconst 0, 1) := by decide +kernel
theorem dX11_goAhead_55 : decode cX11_goAhead 55 = .ok (.invokevirtual 227, 3) := by decide +kernel
theorem dX11_goAhead_58 : decode cX11_goAhead 58 = .ok (.iinc 2 1, 3) := by decide +kernel
theorem dX11_goAhead_61 : decode cX11_goAhead 61 = .ok (.goto (-21), 3) := by decide +kernel
theorem dX11_goAhead_64 : decode cX11_goAhead 64 = .ok (.iconst 1, 1) := by decide +kernel
theorem dX11_goAhead_65 : decode cX11_goAhead 65 = .ok (.ireturn, 1) := by decide +kernel
theorem dX11_beginAct_0 : decode cX11_beginAct 0 = .ok (.aload_n 0, 1) := by decide +kernel
theorem dX11_beginAct_1 : decode cX11_beginAct 1 = .ok (.getfield 69, 3) := by decide +kernel
theorem dX11_beginAct_4 : decode cX11_beginAct 4 = .ok (.aload_n 0, 1) := by decide +kernel
theorem dX11_beginAct_5 : decode cX11_beginAct 5 = .ok (.getfield 59, 3) := by decide +kernel
theorem dX11_beginAct_8 : decode cX11_beginAct 8 = .ok (.invokevirtual 353, 3) := by decide +kernel
theorem dX11_beginAct_11 : decode cX11_beginAct 11 = .ok (.aload_n 0, 1) := by decide +kernel
theorem dX11_beginAct_12 : decode cX11_beginAct 12 = .ok (.dup, 1) := by decide +kernel
theorem dX11_beginAct_13 : decode cX11_beginAct 13 = .ok (.getfield 137, 3) := by decide +kernel
theorem dX11_beginAct_16 : decode cX11_beginAct 16 = .ok (.iconst 1, 1) := by decide +kernel
theorem dX11_beginAct_17 : decode cX11_beginAct 17 = .ok (.iadd, 1) := by decide +kernel
theorem dX11_beginAct_18 : decode cX11_beginAct 18 = .ok (.putfield 137, 3) := by decide +kernel
theorem dX11_beginAct_21 : decode cX11_beginAct 21 = .ok (.return_, 1) := by decide +kernel
theorem dX11_draw_0 : decode cX11_draw 0 = .ok (.aload_n 0, 1) := by decide +kernel
theorem dX11_draw_1 : decode cX11_draw 1 = .ok (.ldc2_w 356, 3) := by decide +kernel
theorem dX11_draw_4 : decode cX11_draw 4 = .ok (.aload_n 0, 1) := by decide +kernel
theorem dX11_draw_5 : decode cX11_draw 5 = .ok (.getfield 20, 3) := by decide +kernel
theorem dX11_draw_8 : decode cX11_draw 8 = .ok (.i2l, 1) := by decide +kernel
theorem dX11_draw_9 : decode cX11_draw 9 = .ok (.lmul, 1) := by decide +kernel
theorem dX11_draw_10 : decode cX11_draw 10 = .ok (.ldc2_w 358, 3) := by decide +kernel
theorem dX11_draw_13 : decode cX11_draw 13 = .ok (.ladd, 1) := by decide +kernel
theorem dX11_draw_14 : decode cX11_draw 14 = .ok (.ldc2_w 360, 3) := by decide +kernel
theorem dX11_draw_17 : decode cX11_draw 17 = .ok (.land, 1) := by decide +kernel
theorem dX11_draw_18 : decode cX11_draw 18 = .ok (.l2i, 1) := by decide +kernel
theorem dX11_draw_19 : decode cX11_draw 19 = .ok (.putfield 20, 3) := by decide +kernel
theorem dX11_draw_22 : decode cX11_draw 22 = .ok (.iload_n 1, 1) := by decide +kernel
theorem dX11_draw_23 : decode cX11_draw 23 = .ok (.ifCond .le 15, 3) := by decide +kernel
theorem dX11_draw_26 : decode cX11_draw 26 = .ok (.aload_n 0, 1) := by decide +kernel
theorem dX11_draw_27 : decode cX11_draw 27 = .ok (.getfield 20, 3) := by decide +kernel
theorem dX11_draw_30 : decode cX11_draw 30 = .ok (.bipush 64, 2) := by decide +kernel
theorem dX11_draw_32 : decode cX11_draw 32 = .ok (.idiv, 1) := by decide +kernel
theorem dX11_draw_33 : decode cX11_draw 33 = .ok (.iload_n 1, 1) := by decide +kernel
theorem dX11_draw_34 : decode cX11_draw 34 = .ok (.irem, 1) := by decide +kernel
theorem dX11_draw_35 : decode cX11_draw 35 = .ok (.goto 4, 3) := by decide +kernel
theorem dX11_draw_38 : decode cX11_draw 38 = .ok (.iconst 0, 1) := by decide +kernel
theorem dX11_draw_39 : decode cX11_draw 39 = .ok (.ireturn, 1) := by decide +kernel
theorem dX12_init_0 : decode cX12_init 0 = .ok (.aload_n 0, 1) := by decide +kernel
theorem dX12_init_1 : decode cX12_init 1 = .ok (.invokespecial 1, 3) := by decide +kernel
theorem dX12_init_4 : decode cX12_init 4 = .ok (.aload_n 0, 1) := by decide +kernel
theorem dX12_init_5 : decode cX12_init 5 = .ok (.sipush 1600, 3) := by decide +kernel
theorem dX12_init_8 : decode cX12_init 8 = .ok (.newarray .int, 2) := by decide +kernel
theorem dX12_init_10 : decode cX12_init 10 = .ok (.putfield 7, 3) := by decide +kernel
theorem dX12_init_13 : decode cX12_init 13 = .ok (.aload_n 0, 1) := by decide +kernel
theorem dX12_init_14 : decode cX12_init 14 = .ok (.iconst (-1), 1) := by decide +kernel
theorem dX12_init_15 : decode cX12_init 15 = .ok (.putfield 13, 3) := by decide +kernel
theorem dX12_init_18 : decode cX12_init 18 = .ok (.aload_n 0, 1) := by decide +kernel
theorem dX12_init_19 : decode cX12_init 19 = .ok (.bipush 6, 2) := by decide +kernel
theorem dX12_init_21 : decode cX12_init 21 = .ok (.newarray .int, 2) := by decide +kernel
theorem dX12_init_23 : decode cX12_init 23 = .ok (.putfield 17, 3) := by decide +kernel
theorem dX12_init_26 : decode cX12_init 26 = .ok (.aload_n 0, 1) := by decide +kernel
theorem dX12_init_27 : decode cX12_init 27 = .ok (.iconst 4, 1) := by decide +kernel
theorem dX12_init_28 : decode cX12_init 28 = .ok (.newarray .char, 2) := by decide +kernel
theorem dX12_init_30 : decode cX12_init 30 = .ok (.dup, 1) := by decide +kernel
theorem dX12_init_31 : decode cX12_init 31 = .ok (.iconst 0, 1) := by decide +kernel
theorem dX12_init_32 : decode cX12_init 32 = .ok (.bipush 108, 2) := by decide +kernel
theorem dX12_init_34 : decode cX12_init 34 = .ok (.castore, 1) := by decide +kernel
theorem dX12_init_35 : decode cX12_init 35 = .ok (.dup, 1) := by decide +kernel
theorem dX12_init_36 : decode cX12_init 36 = .ok (.iconst 1, 1) := by decide +kernel
theorem dX12_init_37 : decode cX12_init 37 = .ok (.bipush 111, 2) := by decide +kernel
theorem dX12_init_39 : decode cX12_init 39 = .ok (.castore, 1) := by decide +kernel
theorem dX12_init_40 : decode cX12_init 40 = .ok (.dup, 1) := by decide +kernel
theorem dX12_init_41 : decode cX12_init 41 = .ok (.iconst 2, 1) := by decide +kernel
theorem dX12_init_42 : decode cX12_init 42 = .ok (.bipush 97, 2) := by decide +kernel
theorem dX12_init_44 : decode cX12_init 44 = .ok (.castore, 1) := by decide +kernel
theorem dX12_init_45 : decode cX12_init 45 = .ok (.dup, 1) := by decide +kernel
theorem dX12_init_46 : decode cX12_init 46 = .ok (.iconst 3, 1) := by decide +kernel
theorem dX12_init_47 : decode cX12_init 47 = .ok (.bipush 102, 2) := by decide +kernel
theorem dX12_init_49 : decode cX12_init 49 = .ok (.castore, 1) := by decide +kernel
theorem dX12_init_50 : decode cX12_init 50 = .ok (.putfield 20, 3) := by decide +kernel
theorem dX12_init_53 : decode cX12_init 53 = .ok (.aload_n 0, 1) := by decide +kernel
theorem dX12_init_54 : decode cX12_init 54 = .ok (.iconst 5, 1) := by decide +kernel
theorem dX12_init_55 : decode cX12_init 55 = .ok (.newarray .char, 2) := by decide +kernel
theorem dX12_init_57 : decode cX12_init 57 = .ok (.dup, 1) := by decide +kernel
theorem dX12_init_58 : decode cX12_init 58 = .ok (.iconst 0, 1) := by decide +kernel
theorem dX12_init_59 : decode cX12_init 59 = .ok (.bipush 104, 2) := by decide +kernel
theorem dX12_init_61 : decode cX12_init 61 = .ok (.castore, 1) := by decide +kernel
theorem dX12_init_62 : decode cX12_init 62 = .ok (.dup, 1) := by decide +kernel
theorem dX12_init_63 : decode cX12_init 63 = .ok (.iconst 1, 1) := by decide +kernel
theorem dX12_init_64 : decode cX12_init 64 = .ok (.bipush 111, 2) := by decide +kernel
theorem dX12_init_66 : decode cX12_init 66 = .ok (.castore, 1) := by decide +kernel
theorem dX12_init_67 : decode cX12_init 67 = .ok (.dup, 1) := by decide +kernel
theorem dX12_init_68 : decode cX12_init 68 = .ok (.iconst 2, 1) := by decide +kernel
theorem dX12_init_69 : decode cX12_init 69 = .ok (.bipush 117, 2) := by decide +kernel
theorem dX12_init_71 : decode cX12_init 71 = .ok (.castore, 1) := by decide +kernel
theorem dX12_init_72 : decode cX12_init 72 = .ok (.dup, 1) := by decide +kernel
theorem dX12_init_73 : decode cX12_init 73 = .ok (.iconst 3, 1) := by decide +kernel
theorem dX12_init_74 : decode cX12_init 74 = .ok (.bipush 115, 2) := by decide +kernel
theorem dX12_init_76 : decode cX12_init 76 = .ok (.castore, 1) := by decide +kernel
theorem dX12_init_77 : decode cX12_init 77 = .ok (.dup, 1) := by decide +kernel
theorem dX12_init_78 : decode cX12_init 78 = .ok (.iconst 4, 1) := by decide +kernel
theorem dX12_init_79 : decode cX12_init 79 = .ok (.bipush 101, 2) := by decide +kernel
theorem dX12_init_81 : decode cX12_init 81 = .ok (.castore, 1) := by decide +kernel
theorem dX12_init_82 : decode cX12_init 82 = .ok (.putfield 24, 3) := by decide +kernel
theorem dX12_init_85 : decode cX12_init 85 = .ok (.aload_n 0, 1) := by decide +kernel
theorem dX12_init_86 : decode cX12_init 86 = .ok (.iconst 5, 1) := by decide +kernel
theorem dX12_init_87 : decode cX12_init 87 = .ok (.newarray .char, 2) := by decide +kernel
theorem dX12_init_89 : decode cX12_init 89 = .ok (.dup, 1) := by decide +kernel
theorem dX12_init_90 : decode cX12_init 90 = .ok (.iconst 0, 1) := by decide +kernel
theorem dX12_init_91 : decode cX12_init 91 = .ok (.bipush 102, 2) := by decide +kernel
theorem dX12_init_93 : decode cX12_init 93 = .ok (.castore, 1) := by decide +kernel
theorem dX12_init_94 : decode cX12_init 94 = .ok (.dup, 1) := by decide +kernel
theorem dX12_init_95 : decode cX12_init 95 = .ok (.iconst 1, 1) := by decide +kernel
theorem dX12_init_96 : decode cX12_init 96 = .ok (.bipush 108, 2) := by decide +kernel
theorem dX12_init_98 : decode cX12_init 98 = .ok (.castore, 1) := by decide +kernel
theorem dX12_init_99 : decode cX12_init 99 = .ok (.dup, 1) := by decide +kernel
theorem dX12_init_100 : decode cX12_init 100 = .ok (.iconst 2, 1) := by decide +kernel
theorem dX12_init_101 : decode cX12_init 101 = .ok (.bipush 111, 2) := by decide +kernel
theorem dX12_init_103 : decode cX12_init 103 = .ok (.castore, 1) := by decide +kernel
theorem dX12_init_104 : decode cX12_init 104 = .ok (.dup, 1) := by decide +kernel
theorem dX12_init_105 : decode cX12_init 105 = .ok (.iconst 3, 1) := by decide +kernel
theorem dX12_init_106 : decode cX12_init 106 = .ok (.bipush 117, 2) := by decide +kernel
theorem dX12_init_108 : decode cX12_init 108 = .ok (.castore, 1) := by decide +kernel
theorem dX12_init_109 : decode cX12_init 109 = .ok (.dup, 1) := by decide +kernel
theorem dX12_init_110 : decode cX12_init 110 = .ok (.iconst 4, 1) := by decide +kernel
theorem dX12_init_111 : decode cX12_init 111 = .ok (.bipush 114, 2) := by decide +kernel
theorem dX12_init_113 : decode cX12_init 113 = .ok (.castore, 1) := by decide +kernel
theorem dX12_init_114 : decode cX12_init 114 = .ok (.putfield 27, 3) := by decide +kernel
theorem dX12_init_117 : decode cX12_init 117 = .ok (.aload_n 0, 1) := by decide +kernel
theorem dX12_init_118 : decode cX12_init 118 = .ok (.iconst 4, 1) := by decide +kernel
theorem dX12_init_119 : decode cX12_init 119 = .ok (.newarray .char, 2) := by decide +kernel
theorem dX12_init_121 : decode cX12_init 121 = .ok (.dup, 1) := by decide +kernel
theorem dX12_init_122 : decode cX12_init 122 = .ok (.iconst 0, 1) := by decide +kernel
theorem dX12_init_123 : decode cX12_init 123 = .ok (.bipush 115, 2) := by decide +kernel
theorem dX12_init_125 : decode cX12_init 125 = .ok (.castore, 1) := by decide +kernel
theorem dX12_init_126 : decode cX12_init 126 = .ok (.dup, 1) := by decide +kernel
theorem dX12_init_127 : decode cX12_init 127 = .ok (.iconst 1, 1) := by decide +kernel
theorem dX12_init_128 : decode cX12_init 128 = .ok (.bipush 97, 2) := by decide +kernel
theorem dX12_init_130 : decode cX12_init 130 = .ok (.castore, 1) := by decide +kernel
theorem dX12_init_131 : decode cX12_init 131 = .ok (.dup, 1) := by decide +kernel
theorem dX12_init_132 : decode cX12_init 132 = .ok (.iconst 2, 1) := by decide +kernel
theorem dX12_init_133 : decode cX12_init 133 = .ok (.bipush 108, 2) := by decide +kernel
theorem dX12_init_135 : decode cX12_init 135 = .ok (.castore, 1) := by decide +kernel
theorem dX12_init_136 : decode cX12_init 136 = .ok (.dup, 1) := by decide +kernel
theorem dX12_init_137 : decode cX12_init 137 = .ok (.iconst 3, 1) := by decide +kernel
theorem dX12_init_138 : decode cX12_init 138 = .ok (.bipush 116, 2) := by decide +kernel
theorem dX12_init_140 : decode cX12_init 140 = .ok (.castore, 1) := by decide +kernel
theorem dX12_init_141 : decode cX12_init 141 = .ok (.putfield 30, 3) := by decide +kernel
theorem dX12_init_144 : decode cX12_init 144 = .ok (.aload_n 0, 1) := by decide +kernel
theorem dX12_init_145 : decode cX12_init 145 = .ok (.iconst 4, 1) := by decide +kernel
theorem dX12_init_146 : decode cX12_init 146 = .ok (.newarray .char, 2) := by decide +kernel
theorem dX12_init_148 : decode cX12_init 148 = .ok (.dup, 1) := by decide +kernel
theorem dX12_init_149 : decode cX12_init 149 = .ok (.iconst 0, 1) := by decide +kernel
theorem dX12_init_150 : decode cX12_init 150 = .ok (.bipush 102, 2) := by decide +kernel
theorem dX12_init_152 : decode cX12_init 152 = .ok (.castore, 1) := by decide +kernel
theorem dX12_init_153 : decode cX12_init 153 = .ok (.dup, 1) := by decide +kernel
theorem dX12_init_154 : decode cX12_init 154 = .ok (.iconst 1, 1) := by decide +kernel
theorem dX12_init_155 : decode cX12_init 155 = .ok (.bipush 101, 2) := by decide +kernel
theorem dX12_init_157 : decode cX12_init 157 = .ok (.castore, 1) := by decide +kernel
theorem dX12_init_158 : decode cX12_init 158 = .ok (.dup, 1) := by decide +kernel
theorem dX12_init_159 : decode cX12_init 159 = .ok (.iconst 2, 1) := by decide +kernel
theorem dX12_init_160 : decode cX12_init 160 = .ok (.bipush 117, 2) := by decide +kernel
theorem dX12_init_162 : decode cX12_init 162 = .ok (.castore, 1) := by decide +kernel
theorem dX12_init_163 : decode cX12_init 163 = .ok (.dup, 1) := by decide +kernel
theorem dX12_init_164 : decode cX12_init 164 = .ok (.iconst 3, 1) := by decide +kernel
theorem dX12_init_165 : decode cX12_init 165 = .ok (.bipush 100, 2) := by decide +kernel
theorem dX12_init_167 : decode cX12_init 167 = .ok (.castore, 1) := by decide +kernel
theorem dX12_init_168 : decode cX12_init 168 = .ok (.putfield 33, 3) := by decide +kernel
theorem dX12_init_171 : decode cX12_init 171 = .ok (.aload_n 0, 1) := by decide +kernel
theorem dX12_init_172 : decode cX12_init 172 = .ok (.iconst 4, 1) := by decide +kernel
theorem dX12_init_173 : decode cX12_init 173 = .ok (.newarray .char, 2) := by decide +kernel
theorem dX12_init_175 : decode cX12_init 175 = .ok (.dup, 1) := by decide +kernel
theorem dX12_init_176 : decode cX12_init 176 = .ok (.iconst 0, 1) := by decide +kernel
theorem dX12_init_177 : decode cX12_init 177 = .ok (.bipush 119, 2) := by decide +kernel
theorem dX12_init_179 : decode cX12_init 179 = .ok (.castore, 1) := by decide +kernel
theorem dX12_init_180 : decode cX12_init 180 = .ok (.dup, 1) := by decide +kernel
theorem dX12_init_181 : decode cX12_init 181 = .ok (.iconst 1, 1) := by decide +kernel
theorem dX12_init_182 : decode cX12_init 182 = .ok (.bipush 105, 2) := by decide +kernel
theorem dX12_init_184 : decode cX12_init 184 = .ok (.castore, 1) := by decide +kernel
theorem dX12_init_185 : decode cX12_init 185 = .ok (.dup, 1) := by decide +kernel
theorem dX12_init_186 : decode cX12_init 186 = .ok (.iconst 2, 1) := by decide +kernel
theorem dX12_init_187 : decode cX12_init 187 = .ok (.bipush 116, 2) := by decide +kernel
theorem dX12_init_189 : decode cX12_init 189 = .ok (.castore, 1) := by decide +kernel
theorem dX12_init_190 : decode cX12_init 190 = .ok (.dup, 1) := by decide +kernel
theorem dX12_init_191 : decode cX12_init 191 = .ok (.iconst 3, 1) := by decide +kernel
theorem dX12_init_192 : decode cX12_init 192 = .ok (.bipush 104, 2) := by decide +kernel
theorem dX12_init_194 : decode cX12_init 194 = .ok (.castore, 1) := by decide +kernel
theorem dX12_init_195 : decode cX12_init 195 = .ok (.putfield 36, 3) := by decide +kernel
theorem dX12_init_198 : decode cX12_init 198 = .ok (.aload_n 0, 1) := by decide +kernel
theorem dX12_init_199 : decode cX12_init 199 = .ok (.iconst 4, 1) := by decide +kernel
theorem dX12_init_200 : decode cX12_init 200 = .ok (.newarray .char, 2) := by decide +kernel
theorem dX12_init_202 : decode cX12_init 202 = .ok (.dup, 1) := by decide +kernel
theorem dX12_init_203 : decode cX12_init 203 = .ok (.iconst 0, 1) := by decide +kernel
theorem dX12_init_204 : decode cX12_init 204 = .ok (.bipush 104, 2) := by decide +kernel
theorem dX12_init_206 : decode cX12_init 206 = .ok (.castore, 1) := by decide +kernel
theorem dX12_init_207 : decode cX12_init 207 = .ok (.dup, 1) := by decide +kernel
theorem dX12_init_208 : decode cX12_init 208 = .ok (.iconst 1, 1) := by decide +kernel
theorem dX12_init_209 : decode cX12_init 209 = .ok (.bipush 97, 2) := by decide +kernel
theorem dX12_init_211 : decode cX12_init 211 = .ok (.castore, 1) := by decide +kernel
theorem dX12_init_212 : decode cX12_init 212 = .ok (.dup, 1) := by decide +kernel
theorem dX12_init_213 : decode cX12_init 213 = .ok (.iconst 2, 1) := by decide +kernel
theorem dX12_init_214 : decode cX12_init 214 = .ok (.bipush 116, 2) := by decide +kernel
theorem dX12_init_216 : decode cX12_init 216 = .ok (.castore, 1) := by decide +kernel
theorem dX12_init_217 : decode cX12_init 217 = .ok (.dup, 1) := by decide +kernel
theorem dX12_init_218 : decode cX12_init 218 = .ok (.iconst 3, 1) := by decide +kernel
theorem dX12_init_219 : decode cX12_init 219 = .ok (.bipush 101, 2) := by decide +kernel
theorem dX12_init_221 : decode cX12_init 221 = .ok (.castore, 1) := by decide +kernel
theorem dX12_init_222 : decode cX12_init 222 = .ok (.putfield 39, 3) := by decide +kernel
theorem dX12_init_225 : decode cX12_init 225 = .ok (.aload_n 0, 1) := by decide +kernel
theorem dX12_init_226 : decode cX12_init 226 = .ok (.iconst 5, 1) := by decide +kernel
theorem dX12_init_227 : decode cX12_init 227 = .ok (.newarray .char, 2) := by decide +kernel
theorem dX12_init_229 : decode cX12_init 229 = .ok (.dup, 1) := by decide +kernel
theorem dX12_init_230 : decode cX12_init 230 = .ok (.iconst 0, 1) := by decide +kernel
theorem dX12_init_231 : decode cX12_init 231 = .ok (.bipush 98, 2) := by decide +kernel
theorem dX12_init_233 : decode cX12_init 233 = .ok (.castore, 1) := by decide +kernel
theorem dX12_init_234 : decode cX12_init 234 = .ok (.dup, 1) := by decide +kernel
theorem dX12_init_235 : decode cX12_init 235 = .ok (.iconst 1, 1) := by decide +kernel
theorem dX12_init_236 : decode cX12_init 236 = .ok (.bipush 97, 2) := by decide +kernel
theorem dX12_init_238 : decode cX12_init 238 = .ok (.castore, 1) := by decide +kernel
theorem dX12_init_239 : decode cX12_init 239 = .ok (.dup, 1) := by decide +kernel
theorem dX12_init_240 : decode cX12_init 240 = .ok (.iconst 2, 1) := by decide +kernel
theorem dX12_init_241 : decode cX12_init 241 = .ok (.bipush 107, 2) := by decide +kernel
theorem dX12_init_243 : decode cX12_init 243 = .ok (.castore, 1) := by decide +kernel
theorem dX12_init_244 : decode cX12_init 244 = .ok (.dup, 1) := by decide +kernel
theorem dX12_init_245 : decode cX12_init 245 = .ok (.iconst 3, 1) := by decide +kernel
theorem dX12_init_246 : decode cX12_init 246 = .ok (.bipush 101, 2) := by decide +kernel
theorem dX12_init_248 : decode cX12_init 248 = .ok (.castore, 1) := by decide +kernel
theorem dX12_init_249 : decode cX12_init 249 = .ok (.dup, 1) := by decide +kernel
theorem dX12_init_250 : decode cX12_init 250 = .ok (.iconst 4, 1) := by decide +kernel
theorem dX12_init_251 : decode cX12_init 251 = .ok (.bipush 115, 2) := by decide +kernel
theorem dX12_init_253 : decode cX12_init 253 = .ok (.castore, 1) := by decide +kernel
theorem dX12_init_254 : decode cX12_init 254 = .ok (.putfield 42, 3) := by decide +kernel
theorem dX12_init_257 : decode cX12_init 257 = .ok (.aload_n 0, 1) := by decide +kernel
theorem dX12_init_258 : decode cX12_init 258 = .ok (.bipush 6, 2) := by decide +kernel
theorem dX12_init_260 : decode cX12_init 260 = .ok (.newarray .char, 2) := by decide +kernel
theorem dX12_init_262 : decode cX12_init 262 = .ok (.dup, 1) := by decide +kernel
theorem dX12_init_263 : decode cX12_init 263 = .ok (.iconst 0, 1) := by decide +kernel
theorem dX12_init_264 : decode cX12_init 264 = .ok (.bipush 116, 2) := by decide +kernel
theorem dX12_init_266 : decode cX12_init 266 = .ok (.castore, 1) := by decide +kernel
theorem dX12_init_267 : decode cX12_init 267 = .ok (.dup, 1) := by decide +kernel
theorem dX12_init_268 : decode cX12_init 268 = .ok (.iconst 1, 1) := by decide +kernel
theorem dX12_init_269 : decode cX12_init 269 = .ok (.bipush 97, 2) := by decide +kernel
theorem dX12_init_271 : decode cX12_init 271 = .ok (.castore, 1) := by decide +kernel
theorem dX12_init_272 : decode cX12_init 272 = .ok (.dup, 1) := by decide +kernel
theorem dX12_init_273 : decode cX12_init 273 = .ok (.iconst 2, 1) := by decide +kernel
theorem dX12_init_274 : decode cX12_init 274 = .ok (.bipush 115, 2) := by decide +kernel
theorem dX12_init_276 : decode cX12_init 276 = .ok (.castore, 1) := by decide +kernel
theorem dX12_init_277 : decode cX12_init 277 = .ok (.dup, 1) := by decide +kernel
theorem dX12_init_278 : decode cX12_init 278 = .ok (.iconst 3, 1) := by decide +kernel
theorem dX12_init_279 : decode cX12_init 279 = .ok (.bipush 116, 2) := by decide +kernel
theorem dX12_init_281 : decode cX12_init 281 = .ok (.castore, 1) := by decide +kernel
theorem dX12_init_282 : decode cX12_init 282 = .ok (.dup, 1) := by decide +kernel
theorem dX12_init_283 : decode cX12_init 283 = .ok (.iconst 4, 1) := by decide +kernel
theorem dX12_init_284 : decode cX12_init 284 = .ok (.bipush 101, 2) := by decide +kernel
theorem dX12_init_286 : decode cX12_init 286 = .ok (.castore, 1) := by decide +kernel
theorem dX12_init_287 : decode cX12_init 287 = .ok (.dup, 1) := by decide +kernel
theorem dX12_init_288 : decode cX12_init 288 = .ok (.iconst 5, 1) := by decide +kernel
theorem dX12_init_289 : decode cX12_init 289 = .ok (.bipush 115, 2) := by decide +kernel
theorem dX12_init_291 : decode cX12_init 291 = .ok (.castore, 1) := by decide +kernel
theorem dX12_init_292 : decode cX12_init 292 = .ok (.putfield 45, 3) := by decide +kernel
theorem dX12_init_295 : decode cX12_init 295 = .ok (.aload_n 0, 1) := by decide +kernel
theorem dX12_init_296 : decode cX12_init 296 = .ok (.bipush 7, 2) := by decide +kernel
theorem dX12_init_298 : decode cX12_init 298 = .ok (.newarray .char, 2) := by decide +kernel
theorem dX12_init_300 : decode cX12_init 300 = .ok (.dup, 1) := by decide +kernel
theorem dX12_init_301 : decode cX12_init 301 = .ok (.iconst 0, 1) := by decide +kernel
theorem dX12_init_302 : decode cX12_init 302 = .ok (.bipush 115, 2) := by decide +kernel
theorem dX12_init_304 : decode cX12_init 304 = .ok (.castore, 1) := by decide +kernel
theorem dX12_init_305 : decode cX12_init 305 = .ok (.dup, 1) := by decide +kernel
theorem dX12_init_306 : decode cX12_init 306 = .ok (.iconst 1, 1) := by decide +kernel
theorem dX12_init_307 : decode cX12_init 307 = .ok (.bipush 116, 2) := by decide +kernel
theorem dX12_init_309 : decode cX12_init 309 = .ok (.castore, 1) := by decide +kernel
theorem dX12_init_310 : decode cX12_init 310 = .ok (.dup, 1) := by decide +kernel
theorem dX12_init_311 : decode cX12_init 311 = .ok (.iconst 2, 1) := by decide +kernel
theorem dX12_init_312 : decode cX12_init 312 = .ok (.bipush 97, 2) := by decide +kernel
theorem dX12_init_314 : decode cX12_init 314 = .ok (.castore, 1) := by decide +kernel
theorem dX12_init_315 : decode cX12_init 315 = .ok (.dup, 1) := by decide +kernel
theorem dX12_init_316 : decode cX12_init 316 = .ok (.iconst 3, 1) := by decide +kernel
theorem dX12_init_317 : decode cX12_init 317 = .ok (.bipush 114, 2) := by decide +kernel
theorem dX12_init_319 : decode cX12_init 319 = .ok (.castore, 1) := by decide +kernel
theorem dX12_init_320 : decode cX12_init 320 = .ok (.dup, 1) := by decide +kernel
theorem dX12_init_321 : decode cX12_init 321 = .ok (.iconst 4, 1) := by decide +kernel
theorem dX12_init_322 : decode cX12_init 322 = .ok (.bipush 118, 2) := by decide +kernel
theorem dX12_init_324 : decode cX12_init 324 = .ok (.castore, 1) := by decide +kernel
theorem dX12_init_325 : decode cX12_init 325 = .ok (.dup, 1) := by decide +kernel
theorem dX12_init_326 : decode cX12_init 326 = .ok (.iconst 5, 1) := by decide +kernel
theorem dX12_init_327 : decode cX12_init 327 = .ok (.bipush 101, 2) := by decide +kernel
theorem dX12_init_329 : decode cX12_init 329 = .ok (.castore, 1) := by decide +kernel
theorem dX12_init_330 : decode cX12_init 330 = .ok (.dup, 1) := by decide +kernel
theorem dX12_init_331 : decode cX12_init 331 = .ok (.bipush 6, 2) := by decide +kernel
theorem dX12_init_333 : decode cX12_init 333 = .ok (.bipush 115, 2) := by decide +kernel
theorem dX12_init_335 : decode cX12_init 335 = .ok (.castore, 1) := by decide +kernel
theorem dX12_init_336 : decode cX12_init 336 = .ok (.putfield 48, 3) := by decide +kernel
theorem dX12_init_339 : decode cX12_init 339 = .ok (.aload_n 0, 1) := by decide +kernel
theorem dX12_init_340 : decode cX12_init 340 = .ok (.iconst 5, 1) := by decide +kernel
theorem dX12_init_341 : decode cX12_init 341 = .ok (.newarray .char, 2) := by decide +kernel
theorem dX12_init_343 : decode cX12_init 343 = .ok (.dup, 1) := by decide +kernel
theorem dX12_init_344 : decode cX12_init 344 = .ok (.iconst 0, 1) := by decide +kernel
theorem dX12_init_345 : decode cX12_init 345 = .ok (.bipush 99, 2) := by decide +kernel
theorem dX12_init_347 : decode cX12_init 347 = .ok (.castore, 1) := by decide +kernel
theorem dX12_init_348 : decode cX12_init 348 = .ok (.dup, 1) := by decide +kernel
theorem dX12_init_349 : decode cX12_init 349 = .ok (.iconst 1, 1) := by decide +kernel
theorem dX12_init_350 : decode cX12_init 350 = .ok (.bipush 111, 2) := by decide +kernel
theorem dX12_init_352 : decode cX12_init 352 = .ok (.castore, 1) := by decide +kernel
theorem dX12_init_353 : decode cX12_init 353 = .ok (.dup, 1) := by decide +kernel
theorem dX12_init_354 : decode cX12_init 354 = .ok (.iconst 2, 1) := by decide +kernel
theorem dX12_init_355 : decode cX12_init 355 = .ok (.bipush 111, 2) := by decide +kernel
theorem dX12_init_357 : decode cX12_init 357 = .ok (.castore, 1) := by decide +kernel
theorem dX12_init_358 : decode cX12_init 358 = .ok (.dup, 1) := by decide +kernel
theorem dX12_init_359 : decode cX12_init 359 = .ok (.iconst 3, 1) := by decide +kernel
theorem dX12_init_360 : decode cX12_init 360 = .ok (.bipush 108, 2) := by decide +kernel
theorem dX12_init_362 : decode cX12_init 362 = .ok (.castore, 1) := by decide +kernel
theorem dX12_init_363 : decode cX12_init 363 = .ok (.dup, 1) := by decide +kernel
theorem dX12_init_364 : decode cX12_init 364 = .ok (.iconst 4, 1) := by decide +kernel
theorem dX12_init_365 : decode cX12_init 365 = .ok (.bipush 115, 2) := by decide +kernel
theorem dX12_init_367 : decode cX12_init 367 = .ok (.castore, 1) := by decide +kernel
theorem dX12_init_368 : decode cX12_init 368 = .ok (.putfield 51, 3) := by decide +kernel
theorem dX12_init_371 : decode cX12_init 371 = .ok (.aload_n 0, 1) := by decide +kernel
theorem dX12_init_372 : decode cX12_init 372 = .ok (.iconst 5, 1) := by decide +kernel
theorem dX12_init_373 : decode cX12_init 373 = .ok (.newarray .char, 2) := by decide +kernel
theorem dX12_init_375 : decode cX12_init 375 = .ok (.dup, 1) := by decide +kernel
theorem dX12_init_376 : decode cX12_init 376 = .ok (.iconst 0, 1) := by decide +kernel
theorem dX12_init_377 : decode cX12_init 377 = .ok (.bipush 103, 2) := by decide +kernel
theorem dX12_init_379 : decode cX12_init 379 = .ok (.castore, 1) := by decide +kernel
theorem dX12_init_380 : decode cX12_init 380 = .ok (.dup, 1) := by decide +kernel
theorem dX12_init_381 : decode cX12_init 381 = .ok (.iconst 1, 1) := by decide +kernel
theorem dX12_init_382 : decode cX12_init 382 = .ok (.bipush 114, 2) := by decide +kernel
theorem dX12_init_384 : decode cX12_init 384 = .ok (.castore, 1) := by decide +kernel
theorem dX12_init_385 : decode cX12_init 385 = .ok (.dup, 1) := by decide +kernel
theorem dX12_init_386 : decode cX12_init 386 = .ok (.iconst 2, 1) := by decide +kernel
theorem dX12_init_387 : decode cX12_init 387 = .ok (.bipush 111, 2) := by decide +kernel
theorem dX12_init_389 : decode cX12_init 389 = .ok (.castore, 1) := by decide +kernel
theorem dX12_init_390 : decode cX12_init 390 = .ok (.dup, 1) := by decide +kernel
theorem dX12_init_391 : decode cX12_init 391 = .ok (.iconst 3, 1) := by decide +kernel
theorem dX12_init_392 : decode cX12_init 392 = .ok (.bipush 119, 2) := by decide +kernel
theorem dX12_init_394 : decode cX12_init 394 = .ok (.castore, 1) := by decide +kernel
theorem dX12_init_395 : decode cX12_init 395 = .ok (.dup, 1) := by decide +kernel
theorem dX12_init_396 : decode cX12_init 396 = .ok (.iconst 4, 1) := by decide +kernel
theorem dX12_init_397 : decode cX12_init 397 = .ok (.bipush 115, 2) := by decide +kernel
theorem dX12_init_399 : decode cX12_init 399 = .ok (.castore, 1) := by decide +kernel
theorem dX12_init_400 : decode cX12_init 400 = .ok (.putfield 54, 3) := by decide +kernel
theorem dX12_init_403 : decode cX12_init 403 = .ok (.aload_n 0, 1) := by decide +kernel
theorem dX12_init_404 : decode cX12_init 404 = .ok (.bipush 6, 2) := by decide +kernel
theorem dX12_init_406 : decode cX12_init 406 = .ok (.newarray .char, 2) := by decide +kernel
theorem dX12_init_408 : decode cX12_init 408 = .ok (.dup, 1) := by decide +kernel
theorem dX12_init_409 : decode cX12_init 409 = .ok (.iconst 0, 1) := by decide +kernel
theorem dX12_init_410 : decode cX12_init 410 = .ok (.bipush 102, 2) := by decide +kernel
theorem dX12_init_412 : decode cX12_init 412 = .ok (.castore, 1) := by decide +kernel
theorem dX12_init_413 : decode cX12_init 413 = .ok (.dup, 1) := by decide +kernel
theorem dX12_init_414 : decode cX12_init 414 = .ok (.iconst 1, 1) := by decide +kernel
theorem dX12_init_415 : decode cX12_init 415 = .ok (.bipush 97, 2) := by decide +kernel
theorem dX12_init_417 : decode cX12_init 417 = .ok (.castore, 1) := by decide +kernel
theorem dX12_init_418 : decode cX12_init 418 = .ok (.dup, 1) := by decide +kernel
theorem dX12_init_419 : decode cX12_init 419 = .ok (.iconst 2, 1) := by decide +kernel
theorem dX12_init_420 : decode cX12_init 420 = .ok (.bipush 109, 2) := by decide +kernel
theorem dX12_init_422 : decode cX12_init 422 = .ok (.castore, 1) := by decide +kernel
theorem dX12_init_423 : decode cX12_init 423 = .ok (.dup, 1) := by decide +kernel
theorem dX12_init_424 : decode cX12_init 424 = .ok (.iconst 3, 1) := by decide +kernel
theorem dX12_init_425 : decode cX12_init 425 = .ok (.bipush 105, 2) := by decide +kernel
theorem dX12_init_427 : decode cX12_init 427 = .ok (.castore, 1) := by decide +kernel
theorem dX12_init_428 : decode cX12_init 428 = .ok (.dup, 1) := by decide +kernel
theorem dX12_init_429 : decode cX12_init 429 = .ok (.iconst 4, 1) := by decide +kernel
theorem dX12_init_430 : decode cX12_init 430 = .ok (.bipush 110, 2) := by decide +kernel
theorem dX12_init_432 : decode cX12_init 432 = .ok (.castore, 1) := by decide +kernel
theorem dX12_init_433 : decode cX12_init 433 = .ok (.dup, 1) := by decide +kernel
theorem dX12_init_434 : decode cX12_init 434 = .ok (.iconst 5, 1) := by decide +kernel
theorem dX12_init_435 : decode cX12_init 435 = .ok (.bipush 101, 2) := by decide +kernel
theorem dX12_init_437 : decode cX12_init 437 = .ok (.castore, 1) := by decide +kernel
theorem dX12_init_438 : decode cX12_init 438 = .ok (.putfield 57, 3) := by decide +kernel
theorem dX12_init_441 : decode cX12_init 441 = .ok (.aload_n 0, 1) := by decide +kernel
theorem dX12_init_442 : decode cX12_init 442 = .ok (.iconst 3, 1) := by decide +kernel
theorem dX12_init_443 : decode cX12_init 443 = .ok (.newarray .char, 2) := by decide +kernel
theorem dX12_init_445 : decode cX12_init 445 = .ok (.dup, 1) := by decide +kernel
theorem dX12_init_446 : decode cX12_init 446 = .ok (.iconst 0, 1) := by decide +kernel
theorem dX12_init_447 : decode cX12_init 447 = .ok (.bipush 100, 2) := by decide +kernel
theorem dX12_init_449 : decode cX12_init 449 = .ok (.castore, 1) := by decide +kernel
theorem dX12_init_450 : decode cX12_init 450 = .ok (.dup, 1) := by decide +kernel
theorem dX12_init_451 : decode cX12_init 451 = .ok (.iconst 1, 1) := by decide +kernel
theorem dX12_init_452 : decode cX12_init 452 = .ok (.bipush 97, 2) := by decide +kernel
theorem dX12_init_454 : decode cX12_init 454 = .ok (.castore, 1) := by decide +kernel
theorem dX12_init_455 : decode cX12_init 455 = .ok (.dup, 1) := by decide +kernel
theorem dX12_init_456 : decode cX12_init 456 = .ok (.iconst 2, 1) := by decide +kernel
theorem dX12_init_457 : decode cX12_init 457 = .ok (.bipush 121, 2) := by decide +kernel
theorem dX12_init_459 : decode cX12_init 459 = .ok (.castore, 1) := by decide +kernel
theorem dX12_init_460 : decode cX12_init 460 = .ok (.putfield 60, 3) := by decide +kernel
theorem dX12_init_463 : decode cX12_init 463 = .ok (.aload_n 0, 1) := by decide +kernel
theorem dX12_init_464 : decode cX12_init 464 = .ok (.bipush 6, 2) := by decide +kernel
theorem dX12_init_466 : decode cX12_init 466 = .ok (.newarray .char, 2) := by decide +kernel
theorem dX12_init_468 : decode cX12_init 468 = .ok (.dup, 1) := by decide +kernel
theorem dX12_init_469 : decode cX12_init 469 = .ok (.iconst 0, 1) := by decide +kernel
theorem dX12_init_470 : decode cX12_init 470 = .ok (.bipush 104, 2) := by decide +kernel
theorem dX12_init_472 : decode cX12_init 472 = .ok (.castore, 1) := by decide +kernel
theorem dX12_init_473 : decode cX12_init 473 = .ok (.dup, 1) := by decide +kernel
theorem dX12_init_474 : decode cX12_init 474 = .ok (.iconst 1, 1) := by decide +kernel
theorem dX12_init_475 : decode cX12_init 475 = .ok (.bipush 117, 2) := by decide +kernel
theorem dX12_init_477 : decode cX12_init 477 = .ok (.castore, 1) := by decide +kernel
theorem dX12_init_478 : decode cX12_init 478 = .ok (.dup, 1) := by decide +kernel
theorem dX12_init_479 : decode cX12_init 479 = .ok (.iconst 2, 1) := by decide +kernel
theorem dX12_init_480 : decode cX12_init 480 = .ok (.bipush 110, 2) := by decide +kernel
theorem dX12_init_482 : decode cX12_init 482 = .ok (.castore, 1) := by decide +kernel
theorem dX12_init_483 : decode cX12_init 483 = .ok (.dup, 1) := by decide +kernel
theorem dX12_init_484 : decode cX12_init 484 = .ok (.iconst 3, 1) := by decide +kernel
theorem dX12_init_485 : decode cX12_init 485 = .ok (.bipush 103, 2) := by decide +kernel
theorem dX12_init_487 : decode cX12_init 487 = .ok (.castore, 1) := by decide +kernel
theorem dX12_init_488 : decode cX12_init 488 = .ok (.dup, 1) := by decide +kernel
theorem dX12_init_489 : decode cX12_init 489 = .ok (.iconst 4, 1) := by decide +kernel
theorem dX12_init_490 : decode cX12_init 490 = .ok (.bipush 101, 2) := by decide +kernel
theorem dX12_init_492 : decode cX12_init 492 = .ok (.castore, 1) := by decide +kernel
theorem dX12_init_493 : decode cX12_init 493 = .ok (.dup, 1) := by decide +kernel
theorem dX12_init_494 : decode cX12_init 494 = .ok (.iconst 5, 1) := by decide +kernel
theorem dX12_init_495 : decode cX12_init 495 = .ok (.bipush 114, 2) := by decide +kernel
theorem dX12_init_497 : decode cX12_init 497 = .ok (.castore, 1) := by decide +kernel
theorem dX12_init_498 : decode cX12_init 498 = .ok (.putfield 63, 3) := by decide +kernel
theorem dX12_init_501 : decode cX12_init 501 = .ok (.aload_n 0, 1) := by decide +kernel
theorem dX12_init_502 : decode cX12_init 502 = .ok (.bipush 6, 2) := by decide +kernel
theorem dX12_init_504 : decode cX12_init 504 = .ok (.newarray .char, 2) := by decide +kernel
theorem dX12_init_506 : decode cX12_init 506 = .ok (.dup, 1) := by decide +kernel
theorem dX12_init_507 : decode cX12_init 507 = .ok (.iconst 0, 1) := by decide +kernel
theorem dX12_init_508 : decode cX12_init 508 = .ok (.bipush 108, 2) := by decide +kernel
theorem dX12_init_510 : decode cX12_init 510 = .ok (.castore, 1) := by decide +kernel
theorem dX12_init_511 : decode cX12_init 511 = .ok (.dup, 1) := by decide +kernel
theorem dX12_init_512 : decode cX12_init 512 = .ok (.iconst 1, 1) := by decide +kernel
theorem dX12_init_513 : decode cX12_init 513 = .ok (.bipush 111, 2) := by decide +kernel
theorem dX12_init_515 : decode cX12_init 515 = .ok (.castore, 1) := by decide +kernel
theorem dX12_init_516 : decode cX12_init 516 = .ok (.dup, 1) := by decide +kernel
theorem dX12_init_517 : decode cX12_init 517 = .ok (.iconst 2, 1) := by decide +kernel
theorem dX12_init_518 : decode cX12_init 518 = .ok (.bipush 97, 2) := by decide +kernel
theorem dX12_init_520 : decode cX12_init 520 = .ok (.castore, 1) := by decide +kernel
theorem dX12_init_521 : decode cX12_init 521 = .ok (.dup, 1) := by decide +kernel
theorem dX12_init_522 : decode cX12_init 522 = .ok (.iconst 3, 1) := by decide +kernel
theorem dX12_init_523 : decode cX12_init 523 = .ok (.bipush 118, 2) := by decide +kernel
theorem dX12_init_525 : decode cX12_init 525 = .ok (.castore, 1) := by decide +kernel
theorem dX12_init_526 : decode cX12_init 526 = .ok (.dup, 1) := by decide +kernel
theorem dX12_init_527 : decode cX12_init 527 = .ok (.iconst 4, 1) := by decide +kernel
theorem dX12_init_528 : decode cX12_init 528 = .ok (.bipush 101, 2) := by decide +kernel
theorem dX12_init_530 : decode cX12_init 530 = .ok (.castore, 1) := by decide +kernel
theorem dX12_init_531 : decode cX12_init 531 = .ok (.dup, 1) := by decide +kernel
theorem dX12_init_532 : decode cX12_init 532 = .ok (.iconst 5, 1) := by decide +kernel
theorem dX12_init_533 : decode cX12_init 533 = .ok (.bipush 115, 2) := by decide +kernel
theorem dX12_init_535 : decode cX12_init 535 = .ok (.castore, 1) := by decide +kernel
theorem dX12_init_536 : decode cX12_init 536 = .ok (.putfield 66, 3) := by decide +kernel
theorem dX12_init_539 : decode cX12_init 539 = .ok (.aload_n 0, 1) := by decide +kernel
theorem dX12_init_540 : decode cX12_init 540 = .ok (.bipush 6, 2) := by decide +kernel
theorem dX12_init_542 : decode cX12_init 542 = .ok (.newarray .char, 2) := by decide +kernel
theorem dX12_init_544 : decode cX12_init 544 = .ok (.dup, 1) := by decide +kernel
theorem dX12_init_545 : decode cX12_init 545 = .ok (.iconst 0, 1) := by decide +kernel
theorem dX12_init_546 : decode cX12_init 546 = .ok (.bipush 110, 2) := by decide +kernel
theorem dX12_init_548 : decode cX12_init 548 = .ok (.castore, 1) := by decide +kernel
theorem dX12_init_549 : decode cX12_init 549 = .ok (.dup, 1) := by decide +kernel
theorem dX12_init_550 : decode cX12_init 550 = .ok (.iconst 1, 1) := by decide +kernel
theorem dX12_init_551 : decode cX12_init 551 = .ok (.bipush 117, 2) := by decide +kernel
theorem dX12_init_553 : decode cX12_init 553 = .ok (.castore, 1) := by decide +kernel
theorem dX12_init_554 : decode cX12_init 554 = .ok (.dup, 1) := by decide +kernel
theorem dX12_init_555 : decode cX12_init 555 = .ok (.iconst 2, 1) := by decide +kernel
theorem dX12_init_556 : decode cX12_init 556 = .ok (.bipush 109, 2) := by decide +kernel
theorem dX12_init_558 : decode cX12_init 558 = .ok (.castore, 1) := by decide +kernel
theorem dX12_init_559 : decode cX12_init 559 = .ok (.dup, 1) := by decide +kernel
theorem dX12_init_560 : decode cX12_init 560 = .ok (.iconst 3, 1) := by decide +kernel
theorem dX12_init_561 : decode cX12_init 561 = .ok (.bipush 98, 2) := by decide +kernel
theorem dX12_init_563 : decode cX12_init 563 = .ok (.castore, 1) := by decide +kernel
theorem dX12_init_564 : decode cX12_init 564 = .ok (.dup, 1) := by decide +kernel
theorem dX12_init_565 : decode cX12_init 565 = .ok (.iconst 4, 1) := by decide +kernel
theorem dX12_init_566 : decode cX12_init 566 = .ok (.bipush 101, 2) := by decide +kernel
theorem dX12_init_568 : decode cX12_init 568 = .ok (.castore, 1) := by decide +kernel
theorem dX12_init_569 : decode cX12_init 569 = .ok (.dup, 1) := by decide +kernel
theorem dX12_init_570 : decode cX12_init 570 = .ok (.iconst 5, 1) := by decide +kernel
theorem dX12_init_571 : decode cX12_init 571 = .ok (.bipush 114, 2) := by decide +kernel
theorem dX12_init_573 : decode cX12_init 573 = .ok (.castore, 1) := by decide +kernel
theorem dX12_init_574 : decode cX12_init 574 = .ok (.putfield 69, 3) := by decide +kernel
theorem dX12_init_577 : decode cX12_init 577 = .ok (.aload_n 0, 1) := by decide +kernel
theorem dX12_init_578 : decode cX12_init 578 = .ok (.iconst 5, 1) := by decide +kernel
theorem dX12_init_579 : decode cX12_init 579 = .ok (.newarray .char, 2) := by decide +kernel
theorem dX12_init_581 : decode cX12_init 581 = .ok (.dup, 1) := by decide +kernel
theorem dX12_init_582 : decode cX12_init 582 = .ok (.iconst 0, 1) := by decide +kernel
theorem dX12_init_583 : decode cX12_init 583 = .ok (.bipush 102, 2) := by decide +kernel
theorem dX12_init_585 : decode cX12_init 585 = .ok (.castore, 1) := by decide +kernel
theorem dX12_init_586 : decode cX12_init 586 = .ok (.dup, 1) := by decide +kernel
theorem dX12_init_587 : decode cX12_init 587 = .ok (.iconst 1, 1) := by decide +kernel
theorem dX12_init_588 : decode cX12_init 588 = .ok (.bipush 101, 2) := by decide +kernel
theorem dX12_init_590 : decode cX12_init 590 = .ok (.castore, 1) := by decide +kernel
theorem dX12_init_591 : decode cX12_init 591 = .ok (.dup, 1) := by decide +kernel
theorem dX12_init_592 : decode cX12_init 592 = .ok (.iconst 2, 1) := by decide +kernel
theorem dX12_init_593 : decode cX12_init 593 = .ok (.bipush 117, 2) := by decide +kernel
theorem dX12_init_595 : decode cX12_init 595 = .ok (.castore, 1) := by decide +kernel
theorem dX12_init_596 : decode cX12_init 596 = .ok (.dup, 1) := by decide +kernel
theorem dX12_init_597 : decode cX12_init 597 = .ok (.iconst 3, 1) := by decide +kernel
theorem dX12_init_598 : decode cX12_init 598 = .ok (.bipush 100, 2) := by decide +kernel
theorem dX12_init_600 : decode cX12_init 600 = .ok (.castore, 1) := by decide +kernel
theorem dX12_init_601 : decode cX12_init 601 = .ok (.dup, 1) := by decide +kernel
theorem dX12_init_602 : decode cX12_init 602 = .ok (.iconst 4, 1) := by decide +kernel
theorem dX12_init_603 : decode cX12_init 603 = .ok (.bipush 115, 2) := by decide +kernel
theorem dX12_init_605 : decode cX12_init 605 = .ok (.castore, 1) := by decide +kernel
theorem dX12_init_606 : decode cX12_init 606 = .ok (.putfield 72, 3) := by decide +kernel
theorem dX12_init_609 : decode cX12_init 609 = .ok (.aload_n 0, 1) := by decide +kernel
theorem dX12_init_610 : decode cX12_init 610 = .ok (.iconst 2, 1) := by decide +kernel
theorem dX12_init_611 : decode cX12_init 611 = .ok (.newarray .char, 2) := by decide +kernel
theorem dX12_init_613 : decode cX12_init 613 = .ok (.dup, 1) := by decide +kernel
theorem dX12_init_614 : decode cX12_init 614 = .ok (.iconst 0, 1) := by decide +kernel
theorem dX12_init_615 : decode cX12_init 615 = .ok (.bipush 111, 2) := by decide +kernel
theorem dX12_init_617 : decode cX12_init 617 = .ok (.castore, 1) := by decide +kernel
theorem dX12_init_618 : decode cX12_init 618 = .ok (.dup, 1) := by decide +kernel
theorem dX12_init_619 : decode cX12_init 619 = .ok (.iconst 1, 1) := by decide +kernel
theorem dX12_init_620 : decode cX12_init 620 = .ok (.bipush 114, 2) := by decide +kernel
theorem dX12_init_622 : decode cX12_init 622 = .ok (.castore, 1) := by decide +kernel
theorem dX12_init_623 : decode cX12_init 623 = .ok (.putfield 75, 3) := by decide +kernel
theorem dX12_init_626 : decode cX12_init 626 = .ok (.aload_n 0, 1) := by decide +kernel
theorem dX12_init_627 : decode cX12_init 627 = .ok (.iconst 3, 1) := by decide +kernel
theorem dX12_init_628 : decode cX12_init 628 = .ok (.newarray .char, 2) := by decide +kernel
theorem dX12_init_630 : decode cX12_init 630 = .ok (.dup, 1) := by decide +kernel
theorem dX12_init_631 : decode cX12_init 631 = .ok (.iconst 0, 1) := by decide +kernel
theorem dX12_init_632 : decode cX12_init 632 = .ok (.bipush 97, 2) := by decide +kernel
theorem dX12_init_634 : decode cX12_init 634 = .ok (.castore, 1) := by decide +kernel
theorem dX12_init_635 : decode cX12_init 635 = .ok (.dup, 1) := by decide +kernel
theorem dX12_init_636 : decode cX12_init 636 = .ok (.iconst 1, 1) := by decide +kernel
theorem dX12_init_637 : decode cX12_init 637 = .ok (.bipush 110, 2) := by decide +kernel
theorem dX12_init_639 : decode cX12_init 639 = .ok (.castore, 1) := by decide +kernel
theorem dX12_init_640 : decode cX12_init 640 = .ok (.dup, 1) := by decide +kernel
theorem dX12_init_641 : decode cX12_init 641 = .ok (.iconst 2, 1) := by decide +kernel
theorem dX12_init_642 : decode cX12_init 642 = .ok (.bipush 100, 2) := by decide +kernel
theorem dX12_init_644 : decode cX12_init 644 = .ok (.castore, 1) := by decide +kernel
theorem dX12_init_645 : decode cX12_init 645 = .ok (.putfield 78, 3) := by decide +kernel
theorem dX12_init_648 : decode cX12_init 648 = .ok (.aload_n 0, 1) := by decide +kernel
theorem dX12_init_649 : decode cX12_init 649 = .ok (.iconst 3, 1) := by decide +kernel
theorem dX12_init_650 : decode cX12_init 650 = .ok (.newarray .char, 2) := by decide +kernel
theorem dX12_init_652 : decode cX12_init 652 = .ok (.dup, 1) := by decide +kernel
theorem dX12_init_653 : decode cX12_init 653 = .ok (.iconst 0, 1) := by decide +kernel
theorem dX12_init_654 : decode cX12_init 654 = .ok (.bipush 110, 2) := by decide +kernel
theorem dX12_init_656 : decode cX12_init 656 = .ok (.castore, 1) := by decide +kernel
theorem dX12_init_657 : decode cX12_init 657 = .ok (.dup, 1) := by decide +kernel
theorem dX12_init_658 : decode cX12_init 658 = .ok (.iconst 1, 1) := by decide +kernel
theorem dX12_init_659 : decode cX12_init 659 = .ok (.bipush 111, 2) := by decide +kernel
theorem dX12_init_661 : decode cX12_init 661 = .ok (.castore, 1) := by decide +kernel
theorem dX12_init_662 : decode cX12_init 662 = .ok (.dup, 1) := by decide +kernel
theorem dX12_init_663 : decode cX12_init 663 = .ok (.iconst 2, 1) := by decide +kernel
theorem dX12_init_664 : decode cX12_init 664 = .ok (.bipush 116, 2) := by decide +kernel
theorem dX12_init_666 : decode cX12_init 666 = .ok (.castore, 1) := by decide +kernel
theorem dX12_init_667 : decode cX12_init 667 = .ok (.putfield 81, 3) := by decide +kernel
theorem dX12_init_670 : decode cX12_init 670 = .ok (.aload_n 0, 1) := by decide +kernel
theorem dX12_init_671 : decode cX12_init 671 = .ok (.iconst 3, 1) := by decide +kernel
theorem dX12_init_672 : decode cX12_init 672 = .ok (.newarray .char, 2) := by decide +kernel
theorem dX12_init_674 : decode cX12_init 674 = .ok (.dup, 1) := by decide +kernel
theorem dX12_init_675 : decode cX12_init 675 = .ok (.iconst 0, 1) := by decide +kernel
theorem dX12_init_676 : decode cX12_init 676 = .ok (.bipush 97, 2) := by decide +kernel
theorem dX12_init_678 : decode cX12_init 678 = .ok (.castore, 1) := by decide +kernel
theorem dX12_init_679 : decode cX12_init 679 = .ok (.dup, 1) := by decide +kernel
theorem dX12_init_680 : decode cX12_init 680 = .ok (.iconst 1, 1) := by decide +kernel
theorem dX12_init_681 : decode cX12_init 681 = .ok (.bipush 108, 2) := by decide +kernel
theorem dX12_init_683 : decode cX12_init 683 = .ok (.castore, 1) := by decide +kernel
theorem dX12_init_684 : decode cX12_init 684 = .ok (.dup, 1) := by decide +kernel
theorem dX12_init_685 : decode cX12_init 685 = .ok (.iconst 2, 1) := by decide +kernel
theorem dX12_init_686 : decode cX12_init 686 = .ok (.bipush 108, 2) := by decide +kernel
theorem dX12_init_688 : decode cX12_init 688 = .ok (.castore, 1) := by decide +kernel
theorem dX12_init_689 : decode cX12_init 689 = .ok (.putfield 84, 3) := by decide +kernel
theorem dX12_init_692 : decode cX12_init 692 = .ok (.aload_n 0, 1) := by decide +kernel
theorem dX12_init_693 : decode cX12_init 693 = .ok (.iconst 3, 1) := by decide +kernel
theorem dX12_init_694 : decode cX12_init 694 = .ok (.newarray .char, 2) := by decide +kernel
theorem dX12_init_696 : decode cX12_init 696 = .ok (.dup, 1) := by decide +kernel
theorem dX12_init_697 : decode cX12_init 697 = .ok (.iconst 0, 1) := by decide +kernel
theorem dX12_init_698 : decode cX12_init 698 = .ok (.bipush 109, 2) := by decide +kernel
theorem dX12_init_700 : decode cX12_init 700 = .ok (.castore, 1) := by decide +kernel
theorem dX12_init_701 : decode cX12_init 701 = .ok (.dup, 1) := by decide +kernel
theorem dX12_init_702 : decode cX12_init 702 = .ok (.iconst 1, 1) := by decide +kernel
theorem dX12_init_703 : decode cX12_init 703 = .ok (.bipush 105, 2) := by decide +kernel
theorem dX12_init_705 : decode cX12_init 705 = .ok (.castore, 1) := by decide +kernel
theorem dX12_init_706 : decode cX12_init 706 = .ok (.dup, 1) := by decide +kernel
theorem dX12_init_707 : decode cX12_init 707 = .ok (.iconst 2, 1) := by decide +kernel
theorem dX12_init_708 : decode cX12_init 708 = .ok (.bipush 110, 2) := by decide +kernel
theorem dX12_init_710 : decode cX12_init 710 = .ok (.castore, 1) := by decide +kernel
theorem dX12_init_711 : decode cX12_init 711 = .ok (.putfield 87, 3) := by decide +kernel
theorem dX12_init_714 : decode cX12_init 714 = .ok (.aload_n 0, 1) := by decide +kernel
theorem dX12_init_715 : decode cX12_init 715 = .ok (.iconst 3, 1) := by decide +kernel
theorem dX12_init_716 : decode cX12_init 716 = .ok (.newarray .char, 2) := by decide +kernel
theorem dX12_init_718 : decode cX12_init 718 = .ok (.dup, 1) := by decide +kernel
theorem dX12_init_719 : decode cX12_init 719 = .ok (.iconst 0, 1) := by decide +kernel
theorem dX12_init_720 : decode cX12_init 720 = .ok (.bipush 109, 2) := by decide +kernel
theorem dX12_init_722 : decode cX12_init 722 = .ok (.castore, 1) := by decide +kernel
theorem dX12_init_723 : decode cX12_init 723 = .ok (.dup, 1) := by decide +kernel
theorem dX12_init_724 : decode cX12_init 724 = .ok (.iconst 1, 1) := by decide +kernel
theorem dX12_init_725 : decode cX12_init 725 = .ok (.bipush 97, 2) := by decide +kernel
theorem dX12_init_727 : decode cX12_init 727 = .ok (.castore, 1) := by decide +kernel
theorem dX12_init_728 : decode cX12_init 728 = .ok (.dup, 1) := by decide +kernel
theorem dX12_init_729 : decode cX12_init 729 = .ok (.iconst 2, 1) := by decide +kernel
theorem dX12_init_730 : decode cX12_init 730 = .ok (.bipush 120, 2) := by decide +kernel
theorem dX12_init_732 : decode cX12_init 732 = .ok (.castore, 1) := by decide +kernel
theorem dX12_init_733 : decode cX12_init 733 = .ok (.putfield 90, 3) := by decide +kernel
theorem dX12_init_736 : decode cX12_init 736 = .ok (.aload_n 0, 1) := by decide +kernel
theorem dX12_init_737 : decode cX12_init 737 = .ok (.iconst 4, 1) := by decide +kernel
theorem dX12_init_738 : decode cX12_init 738 = .ok (.newarray .int, 2) := by decide +kernel
theorem dX12_init_740 : decode cX12_init 740 = .ok (.putfield 93, 3) := by decide +kernel
theorem dX12_init_743 : decode cX12_init 743 = .ok (.aload_n 0, 1) := by decide +kernel
theorem dX12_init_744 : decode cX12_init 744 = .ok (.bipush 14, 2) := by decide +kernel
theorem dX12_init_746 : decode cX12_init 746 = .ok (.newarray .long, 2) := by decide +kernel
theorem dX12_init_748 : decode cX12_init 748 = .ok (.putfield 96, 3) := by decide +kernel
theorem dX12_init_751 : decode cX12_init 751 = .ok (.aload_n 0, 1) := by decide +kernel
theorem dX12_init_752 : decode cX12_init 752 = .ok (.bipush 7, 2) := by decide +kernel
theorem dX12_init_754 : decode cX12_init 754 = .ok (.newarray .int, 2) := by decide +kernel
theorem dX12_init_756 : decode cX12_init 756 = .ok (.putfield 100, 3) := by decide +kernel
theorem dX12_init_759 : decode cX12_init 759 = .ok (.aload_n 0, 1) := by decide +kernel
theorem dX12_init_760 : decode cX12_init 760 = .ok (.bipush 14, 2) := by decide +kernel
theorem dX12_init_762 : decode cX12_init 762 = .ok (.newarray .int, 2) := by decide +kernel
theorem dX12_init_764 : decode cX12_init 764 = .ok (.putfield 103, 3) := by decide +kernel
theorem dX12_init_767 : decode cX12_init 767 = .ok (.aload_n 0, 1) := by decide +kernel
theorem dX12_init_768 : decode cX12_init 768 = .ok (.bipush 21, 2) := by decide +kernel
theorem dX12_init_770 : decode cX12_init 770 = .ok (.newarray .int, 2) := by decide +kernel
theorem dX12_init_772 : decode cX12_init 772 = .ok (.putfield 106, 3) := by decide +kernel
theorem dX12_init_775 : decode cX12_init 775 = .ok (.aload_n 0, 1) := by decide +kernel
theorem dX12_init_776 : decode cX12_init 776 = .ok (.bipush 10, 2) := by decide +kernel
theorem dX12_init_778 : decode cX12_init 778 = .ok (.newarray .int, 2) := by decide +kernel
theorem dX12_init_780 : decode cX12_init 780 = .ok (.dup, 1) := by decide +kernel
theorem dX12_init_781 : decode cX12_init 781 = .ok (.iconst 0, 1) := by decide +kernel
theorem dX12_init_782 : decode cX12_init 782 = .ok (.iconst (-1), 1) := by decide +kernel
theorem dX12_init_783 : decode cX12_init 783 = .ok (.iastore, 1) := by decide +kernel
theorem dX12_init_784 : decode cX12_init 784 = .ok (.dup, 1) := by decide +kernel
theorem dX12_init_785 : decode cX12_init 785 = .ok (.iconst 1, 1) := by decide +kernel
theorem dX12_init_786 : decode cX12_init 786 = .ok (.iconst (-1), 1) := by decide +kernel
theorem dX12_init_787 : decode cX12_init 787 = .ok (.iastore, 1) := by decide +kernel
theorem dX12_init_788 : decode cX12_init 788 = .ok (.dup, 1) := by decide +kernel
theorem dX12_init_789 : decode cX12_init 789 = .ok (.iconst 2, 1) := by decide +kernel
theorem dX12_init_790 : decode cX12_init 790 = .ok (.iconst (-1), 1) := by decide +kernel
theorem dX12_init_791 : decode cX12_init 791 = .ok (.iastore, 1) := by decide +kernel
theorem dX12_init_792 : decode cX12_init 792 = .ok (.dup, 1) := by decide +kernel
theorem dX12_init_793 : decode cX12_init 793 = .ok (.iconst 3, 1) := by decide +kernel
theorem dX12_init_794 : decode cX12_init 794 = .ok (.iconst (-1), 1) := by decide +kernel
theorem dX12_init_795 : decode cX12_init 795 = .ok (.iastore, 1) := by decide +kernel
theorem dX12_init_796 : decode cX12_init 796 = .ok (.dup, 1) := by decide +kernel
theorem dX12_init_797 : decode cX12_init 797 = .ok (.iconst 4, 1) := by decide +kernel
theorem dX12_init_798 : decode cX12_init 798 = .ok (.iconst (-1), 1) := by decide +kernel
theorem dX12_init_799 : decode cX12_init 799 = .ok (.iastore, 1) := by decide +kernel
theorem dX12_init_800 : decode cX12_init 800 = .ok (.dup, 1) := by decide +kernel
theorem dX12_init_801 : decode cX12_init 801 = .ok (.iconst 5, 1) := by decide +kernel
theorem dX12_init_802 : decode cX12_init 802 = .ok (.iconst (-1), 1) := by decide +kernel
theorem dX12_init_803 : decode cX12_init 803 = .ok (.iastore, 1) := by decide +kernel
theorem dX12_init_804 : decode cX12_init 804 = .ok (.dup, 1) := by decide +kernel
theorem dX12_init_805 : decode cX12_init 805 = .ok (.bipush 6, 2) := by decide +kernel
theorem dX12_init_807 : decode cX12_init 807 = .ok (.iconst (-1), 1) := by decide +kernel
theorem dX12_init_808 : decode cX12_init 808 = .ok (.iastore, 1) := by decide +kernel
theorem dX12_init_809 : decode cX12_init 809 = .ok (.dup, 1) := by decide +kernel
theorem dX12_init_810 : decode cX12_init 810 = .ok (.bipush 7, 2) := by decide +kernel
theorem dX12_init_812 : decode cX12_init 812 = .ok (.iconst (-1), 1) := by decide +kernel
theorem dX12_init_813 : decode cX12_init 813 = .ok (.iastore, 1) := by decide +kernel
theorem dX12_init_814 : decode cX12_init 814 = .ok (.dup, 1) := by decide +kernel
theorem dX12_init_815 : decode cX12_init 815 = .ok (.bipush 8, 2) := by decide +kernel
theorem dX12_init_817 : decode cX12_init 817 = .ok (.iconst (-1), 1) := by decide +kernel
theorem dX12_init_818 : decode cX12_init 818 = .ok (.iastore, 1) := by decide +kernel
theorem dX12_init_819 : decode cX12_init 819 = .ok (.dup, 1) := by decide +kernel
theorem dX12_init_820 : decode cX12_init 820 = .ok (.bipush 9, 2) := by decide +kernel
theorem dX12_init_822 : decode cX12_init 822 = .ok (.iconst (-1), 1) := by decide +kernel
theorem dX12_init_823 : decode cX12_init 823 = .ok (.iastore, 1) := by decide +kernel
theorem dX12_init_824 : decode cX12_init 824 = .ok (.putfield 109, 3) := by decide +kernel
theorem dX12_init_827 : decode cX12_init 827 = .ok (.aload_n 0, 1) := by decide +kernel
theorem dX12_init_828 : decode cX12_init 828 = .ok (.bipush 10, 2) := by decide +kernel
theorem dX12_init_830 : decode cX12_init 830 = .ok (.newarray .int, 2) := by decide +kernel
theorem dX12_init_832 : decode cX12_init 832 = .ok (.putfield 112, 3) := by decide +kernel
theorem dX12_init_835 : decode cX12_init 835 = .ok (.aload_n 0, 1) := by decide +kernel
theorem dX12_init_836 : decode cX12_init 836 = .ok (.sipush 3200, 3) := by decide +kernel
theorem dX12_init_839 : decode cX12_init 839 = .ok (.newarray .int, 2) := by decide +kernel
theorem dX12_init_841 : decode cX12_init 841 = .ok (.putfield 115, 3) := by decide +kernel
theorem dX12_init_844 : decode cX12_init 844 = .ok (.aload_n 0, 1) := by decide +kernel
theorem dX12_init_845 : decode cX12_init 845 = .ok (.sipush 204, 3) := by decide +kernel
theorem dX12_init_848 : decode cX12_init 848 = .ok (.newarray .int, 2) := by decide +kernel
theorem dX12_init_850 : decode cX12_init 850 = .ok (.putfield 118, 3) := by decide +kernel
theorem dX12_init_853 : decode cX12_init 853 = .ok (.aload_n 0, 1) := by decide +kernel
theorem dX12_init_854 : decode cX12_init 854 = .ok (.bipush 43, 2) := by decide +kernel
theorem dX12_init_856 : decode cX12_init 856 = .ok (.newarray .int, 2) := by decide +kernel
theorem dX12_init_858 : decode cX12_init 858 = .ok (.putfield 121, 3) := by decide +kernel
theorem dX12_init_861 : decode cX12_init 861 = .ok (.aload_n 0, 1) := by decide +kernel
theorem dX12_init_862 : decode cX12_init 862 = .ok (.bipush 49, 2) := by decide +kernel
theorem dX12_init_864 : decode cX12_init 864 = .ok (.newarray .long, 2) := by decide +kernel
theorem dX12_init_866 : decode cX12_init 866 = .ok (.putfield 124, 3) := by decide +kernel
theorem dX12_init_869 : decode cX12_init 869 = .ok (.aload_n 0, 1) := by decide +kernel
theorem dX12_init_870 : decode cX12_init 870 = .ok (.bipush 7, 2) := by decide +kernel
theorem dX12_init_872 : decode cX12_init 872 = .ok (.newarray .int, 2) := by decide +kernel
theorem dX12_init_874 : decode cX12_init 874 = .ok (.putfield 127, 3) := by decide +kernel
theorem dX12_init_877 : decode cX12_init 877 = .ok (.aload_n 0, 1) := by decide +kernel
theorem dX12_init_878 : decode cX12_init 878 = .ok (.bipush 7, 2) := by decide +kernel
theorem dX12_init_880 : decode cX12_init 880 = .ok (.newarray .int, 2) := by decide +kernel
theorem dX12_init_882 : decode cX12_init 882 = .ok (.putfield 130, 3) := by decide +kernel
theorem dX12_init_885 : decode cX12_init 885 = .ok (.aload_n 0, 1) := by decide +kernel
theorem dX12_init_886 : decode cX12_init 886 = .ok (.bipush 21, 2) := by decide +kernel
theorem dX12_init_888 : decode cX12_init 888 = .ok (.newarray .int, 2) := by decide +kernel
theorem dX12_init_890 : decode cX12_init 890 = .ok (.putfield 133, 3) := by decide +kernel
theorem dX12_init_893 : decode cX12_init 893 = .ok (.aload_n 0, 1) := by decide +kernel
theorem dX12_init_894 : decode cX12_init 894 = .ok (.sipush 1024, 3) := by decide +kernel
theorem dX12_init_897 : decode cX12_init 897 = .ok (.newarray .int, 2) := by decide +kernel
theorem dX12_init_899 : decode cX12_init 899 = .ok (.putfield 136, 3) := by decide +kernel
theorem dX12_init_902 : decode cX12_init 902 = .ok (.aload_n 0, 1) := by decide +kernel
theorem dX12_init_903 : decode cX12_init 903 = .ok (.sipush 1024, 3) := by decide +kernel
theorem dX12_init_906 : decode cX12_init 906 = .ok (.newarray .int, 2) := by decide +kernel
theorem dX12_init_908 : decode cX12_init 908 = .ok (.putfield 139, 3) := by decide +kernel
theorem dX12_init_911 : decode cX12_init 911 = .ok (.aload_n 0, 1) := by decide +kernel
theorem dX12_init_912 : decode cX12_init 912 = .ok (.bipush 7, 2) := by decide +kernel
theorem dX12_init_914 : decode cX12_init 914 = .ok (.newarray .int, 2) := by decide +kernel
theorem dX12_init_916 : decode cX12_init 916 = .ok (.putfield 142, 3) := by decide +kernel
theorem dX12_init_919 : decode cX12_init 919 = .ok (.aload_n 0, 1) := by decide +kernel
theorem dX12_init_920 : decode cX12_init 920 = .ok (.bipush 21, 2) := by decide +kernel
theorem dX12_init_922 : decode cX12_init 922 = .ok (.newarray .int, 2) := by decide +kernel
theorem dX12_init_924 : decode cX12_init 924 = .ok (.putfield 145, 3) := by decide +kernel
theorem dX12_init_927 : decode cX12_init 927 = .ok (.aload_n 0, 1) := by decide +kernel
theorem dX12_init_928 : decode cX12_init 928 = .ok (.bipush 21, 2) := by decide +kernel
theorem dX12_init_930 : decode cX12_init 930 = .ok (.newarray .int, 2) := by decide +kernel
theorem dX12_init_932 : decode cX12_init 932 = .ok (.putfield 148, 3) := by decide +kernel
theorem dX12_init_935 : decode cX12_init 935 = .ok (.aload_n 0, 1) := by decide +kernel
theorem dX12_init_936 : decode cX12_init 936 = .ok (.iconst 3, 1) := by decide +kernel
theorem dX12_init_937 : decode cX12_init 937 = .ok (.newarray .int, 2) := by decide +kernel
theorem dX12_init_939 : decode cX12_init 939 = .ok (.putfield 151, 3) := by decide +kernel
theorem dX12_init_942 : decode cX12_init 942 = .ok (.aload_n 0, 1) := by decide +kernel
theorem dX12_init_943 : decode cX12_init 943 = .ok (.sipush 896, 3) := by decide +kernel
theorem dX12_init_946 : decode cX12_init 946 = .ok (.newarray .int, 2) := by decide +kernel
theorem dX12_init_948 : decode cX12_init 948 = .ok (.putfield 154, 3) := by decide +kernel
theorem dX12_init_951 : decode cX12_init 951 = .ok (.aload_n 0, 1) := by decide +kernel
theorem dX12_init_952 : decode cX12_init 952 = .ok (.bipush 48, 2) := by decide +kernel
theorem dX12_init_954 : decode cX12_init 954 = .ok (.newarray .int, 2) := by decide +kernel
theorem dX12_init_956 : decode cX12_init 956 = .ok (.putfield 157, 3) := by decide +kernel
theorem dX12_init_959 : decode cX12_init 959 = .ok (.aload_n 0, 1) := by decide +kernel
theorem dX12_init_960 : decode cX12_init 960 = .ok (.sipush 21700, 3) := by decide +kernel
theorem dX12_init_963 : decode cX12_init 963 = .ok (.newarray .int, 2) := by decide +kernel
theorem dX12_init_965 : decode cX12_init 965 = .ok (.putfield 160, 3) := by decide +kernel
theorem dX12_init_968 : decode cX12_init 968 = .ok (.aload_n 0, 1) := by decide +kernel
theorem dX12_init_969 : decode cX12_init 969 = .ok (.bipush 100, 2) := by decide +kernel
theorem dX12_init_971 : decode cX12_init 971 = .ok (.newarray .boolean, 2) := by decide +kernel
theorem dX12_init_973 : decode cX12_init 973 = .ok (.putfield 163, 3) := by decide +kernel
theorem dX12_init_976 : decode cX12_init 976 = .ok (.aload_n 0, 1) := by decide +kernel
theorem dX12_init_977 : decode cX12_init 977 = .ok (.bipush 101, 2) := by decide +kernel
theorem dX12_init_979 : decode cX12_init 979 = .ok (.newarray .int, 2) := by decide +kernel
theorem dX12_init_981 : decode cX12_init 981 = .ok (.putfield 167, 3) := by decide +kernel
theorem dX12_init_984 : decode cX12_init 984 = .ok (.aload_n 0, 1) := by decide +kernel
theorem dX12_init_985 : decode cX12_init 985 = .ok (.sipush 4080, 3) := by decide +kernel
theorem dX12_init_988 : decode cX12_init 988 = .ok (.newarray .int, 2) := by decide +kernel
theorem dX12_init_990 : decode cX12_init 990 = .ok (.putfield 170, 3) := by decide +kernel
theorem dX12_init_993 : decode cX12_init 993 = .ok (.aload_n 0, 1) := by decide +kernel
theorem dX12_init_994 : decode cX12_init 994 = .ok (.lconst 1, 1) := by decide +kernel
theorem dX12_init_995 : decode cX12_init 995 = .ok (.putfield 173, 3) := by decide +kernel
theorem dX12_init_998 : decode cX12_init 998 = .ok (.aload_n 0, 1) := by decide +kernel
theorem dX12_init_999 : decode cX12_init 999 = .ok (.iconst 5, 1) := by decide +kernel
theorem dX12_init_1000 : decode cX12_init 1000 = .ok (.newarray .char, 2) := by decide +kernel
theorem dX12_init_1002 : decode cX12_init 1002 = .ok (.dup, 1) := by decide +kernel
theorem dX12_init_1003 : decode cX12_init 1003 = .ok (.iconst 0, 1) := by decide +kernel
theorem dX12_init_1004 : decode cX12_init 1004 = .ok (.bipush 102, 2) := by decide +kernel
theorem dX12_init_1006 : decode cX12_init 1006 = .ok (.castore, 1) := by decide +kernel
theorem dX12_init_1007 : decode cX12_init 1007 = .ok (.dup, 1) := by decide +kernel
theorem dX12_init_1008 : decode cX12_init 1008 = .ok (.iconst 1, 1) := by decide +kernel
theorem dX12_init_1009 : decode cX12_init 1009 = .ok (.bipush 105, 2) := by decide +kernel
theorem dX12_init_1011 : decode cX12_init 1011 = .ok (.castore, 1) := by decide +kernel
theorem dX12_init_1012 : decode cX12_init 1012 = .ok (.dup, 1) := by decide +kernel
theorem dX12_init_1013 : decode cX12_init 1013 = .ok (.iconst 2, 1) := by decide +kernel
theorem dX12_init_1014 : decode cX12_init 1014 = .ok (.bipush 114, 2) := by decide +kernel
theorem dX12_init_1016 : decode cX12_init 1016 = .ok (.castore, 1) := by decide +kernel
theorem dX12_init_1017 : decode cX12_init 1017 = .ok (.dup, 1) := by decide +kernel
theorem dX12_init_1018 : decode cX12_init 1018 = .ok (.iconst 3, 1) := by decide +kernel
theorem dX12_init_1019 : decode cX12_init 1019 = .ok (.bipush 115, 2) := by decide +kernel
theorem dX12_init_1021 : decode cX12_init 1021 = .ok (.castore, 1) := by decide +kernel
theorem dX12_init_1022 : decode cX12_init 1022 = .ok (.dup, 1) := by decide +kernel
theorem dX12_init_1023 : decode cX12_init 1023 = .ok (.iconst 4, 1) := by decide +kernel
theorem dX12_init_1024 : decode cX12_init 1024 = .ok (.bipush 116, 2) := by decide +kernel
theorem dX12_init_1026 : decode cX12_init 1026 = .ok (.castore, 1) := by decide +kernel
theorem dX12_init_1027 : decode cX12_init 1027 = .ok (.putfield 177, 3) := by decide +kernel
theorem dX12_init_1030 : decode cX12_init 1030 = .ok (.aload_n 0, 1) := by decide +kernel
theorem dX12_init_1031 : decode cX12_init 1031 = .ok (.iconst 4, 1) := by decide +kernel
theorem dX12_init_1032 : decode cX12_init 1032 = .ok (.newarray .char, 2) := by decide +kernel
theorem dX12_init_1034 : decode cX12_init 1034 = .ok (.dup, 1) := by decide +kernel
theorem dX12_init_1035 : decode cX12_init 1035 = .ok (.iconst 0, 1) := by decide +kernel
theorem dX12_init_1036 : decode cX12_init 1036 = .ok (.bipush 108, 2) := by decide +kernel
theorem dX12_init_1038 : decode cX12_init 1038 = .ok (.castore, 1) := by decide +kernel
theorem dX12_init_1039 : decode cX12_init 1039 = .ok (.dup, 1) := by decide +kernel
theorem dX12_init_1040 : decode cX12_init 1040 = .ok (.iconst 1, 1) := by decide +kernel
theorem dX12_init_1041 : decode cX12_init 1041 = .ok (.bipush 97, 2) := by decide +kernel
theorem dX12_init_1043 : decode cX12_init 1043 = .ok (.castore, 1) := by decide +kernel
theorem dX12_init_1044 : decode cX12_init 1044 = .ok (.dup, 1) := by decide +kernel
theorem dX12_init_1045 : decode cX12_init 1045 = .ok (.iconst 2, 1) := by decide +kernel
theorem dX12_init_1046 : decode cX12_init 1046 = .ok (.bipush 115, 2) := by decide +kernel
theorem dX12_init_1048 : decode cX12_init 1048 = .ok (.castore, 1) := by decide +kernel
theorem dX12_init_1049 : decode cX12_init 1049 = .ok (.dup, 1) := by decide +kernel
theorem dX12_init_1050 : decode cX12_init 1050 = .ok (.iconst 3, 1) := by decide +kernel
theorem dX12_init_1051 : decode cX12_init 1051 = .ok (.bipush 116, 2) := by decide +kernel
theorem dX12_init_1053 : decode cX12_init 1053 = .ok (.castore, 1) := by decide +kernel
theorem dX12_init_1054 : decode cX12_init 1054 = .ok (.putfield 180, 3) := by decide +kernel
theorem dX12_init_1057 : decode cX12_init 1057 = .ok (.aload_n 0, 1) := by decide +kernel
theorem dX12_init_1058 : decode cX12_init 1058 = .ok (.iconst 5, 1) := by decide +kernel
theorem dX12_init_1059 : decode cX12_init 1059 = .ok (.newarray .char, 2) := by decide +kernel
theorem dX12_init_1061 : decode cX12_init 1061 = .ok (.dup, 1) := by decide +kernel
theorem dX12_init_1062 : decode cX12_init 1062 = .ok (.iconst 0, 1) := by decide +kernel
theorem dX12_init_1063 : decode cX12_init 1063 = .ok (.bipush 111, 2) := by decide +kernel
theorem dX12_init_1065 : decode cX12_init 1065 = .ok (.castore, 1) := by decide +kernel
theorem dX12_init_1066 : decode cX12_init 1066 = .ok (.dup, 1) := by decide +kernel
theorem dX12_init_1067 : decode cX12_init 1067 = .ok (.iconst 1, 1) := by decide +kernel
theorem dX12_init_1068 : decode cX12_init 1068 = .ok (.bipush 102, 2) := by decide +kernel
theorem dX12_init_1070 : decode cX12_init 1070 = .ok (.castore, 1) := by decide +kernel
theorem dX12_init_1071 : decode cX12_init 1071 = .ok (.dup, 1) := by decide +kernel
theorem dX12_init_1072 : decode cX12_init 1072 = .ok (.iconst 2, 1) := by decide +kernel
theorem dX12_init_1073 : decode cX12_init 1073 = .ok (.bipush 116, 2) := by decide +kernel
theorem dX12_init_1075 : decode cX12_init 1075 = .ok (.castore, 1) := by decide +kernel
theorem dX12_init_1076 : decode cX12_init 1076 = .ok (.dup, 1) := by decide +kernel
theorem dX12_init_1077 : decode cX12_init 1077 = .ok (.iconst 3, 1) := by decide +kernel
theorem dX12_init_1078 : decode cX12_init 1078 = .ok (.bipush 101, 2) := by decide +kernel
theorem dX12_init_1080 : decode cX12_init 1080 = .ok (.castore, 1) := by decide +kernel
theorem dX12_init_1081 : decode cX12_init 1081 = .ok (.dup, 1) := by decide +kernel
theorem dX12_init_1082 : decode cX12_init 1082 = .ok (.iconst 4, 1) := by decide +kernel
theorem dX12_init_1083 : decode cX12_init 1083 = .ok (.bipush 110, 2) := by decide +kernel
theorem dX12_init_1085 : decode cX12_init 1085 = .ok (.castore, 1) := by decide +kernel
theorem dX12_init_1086 : decode cX12_init 1086 = .ok (.putfield 183, 3) := by decide +kernel
theorem dX12_init_1089 : decode cX12_init 1089 = .ok (.aload_n 0, 1) := by decide +kernel
theorem dX12_init_1090 : decode cX12_init 1090 = .ok (.iconst 5, 1) := by decide +kernel
theorem dX12_init_1091 : decode cX12_init 1091 = .ok (.newarray .char, 2) := by decide +kernel
theorem dX12_init_1093 : decode cX12_init 1093 = .ok (.dup, 1) := by decide +kernel
theorem dX12_init_1094 : decode cX12_init 1094 = .ok (.iconst 0, 1) := by decide +kernel
theorem dX12_init_1095 : decode cX12_init 1095 = .ok (.bipush 116, 2) := by decide +kernel
theorem dX12_init_1097 : decode cX12_init 1097 = .ok (.castore, 1) := by decide +kernel
theorem dX12_init_1098 : decode cX12_init 1098 = .ok (.dup, 1) := by decide +kernel
theorem dX12_init_1099 : decode cX12_init 1099 = .ok (.iconst 1, 1) := by decide +kernel
theorem dX12_init_1100 : decode cX12_init 1100 = .ok (.bipush 111, 2) := by decide +kernel
theorem dX12_init_1102 : decode cX12_init 1102 = .ok (.castore, 1) := by decide +kernel
theorem dX12_init_1103 : decode cX12_init 1103 = .ok (.dup, 1) := by decide +kernel
theorem dX12_init_1104 : decode cX12_init 1104 = .ok (.iconst 2, 1) := by decide +kernel
theorem dX12_init_1105 : decode cX12_init 1105 = .ok (.bipush 116, 2) := by decide +kernel
theorem dX12_init_1107 : decode cX12_init 1107 = .ok (.castore, 1) := by decide +kernel
theorem dX12_init_1108 : decode cX12_init 1108 = .ok (.dup, 1) := by decide +kernel
theorem dX12_init_1109 : decode cX12_init 1109 = .ok (.iconst 3, 1) := by decide +kernel
theorem dX12_init_1110 : decode cX12_init 1110 = .ok (.bipush 97, 2) := by decide +kernel
theorem dX12_init_1112 : decode cX12_init 1112 = .ok (.castore, 1) := by decide +kernel
theorem dX12_init_1113 : decode cX12_init 1113 = .ok (.dup, 1) := by decide +kernel
theorem dX12_init_1114 : decode cX12_init 1114 = .ok (.iconst 4, 1) := by decide +kernel
theorem dX12_init_1115 : decode cX12_init 1115 = .ok (.bipush 108, 2) := by decide +kernel
theorem dX12_init_1117 : decode cX12_init 1117 = .ok (.castore, 1) := by decide +kernel
theorem dX12_init_1118 : decode cX12_init 1118 = .ok (.putfield 186, 3) := by decide +kernel
theorem dX12_init_1121 : decode cX12_init 1121 = .ok (.aload_n 0, 1) := by decide +kernel
theorem dX12_init_1122 : decode cX12_init 1122 = .ok (.iconst 4, 1) := by decide +kernel
theorem dX12_init_1123 : decode cX12_init 1123 = .ok (.newarray .char, 2) := by decide +kernel
theorem dX12_init_1125 : decode cX12_init 1125 = .ok (.dup, 1) := by decide +kernel
theorem dX12_init_1126 : decode cX12_init 1126 = .ok (.iconst 0, 1) := by decide +kernel
theorem dX12_init_1127 : decode cX12_init 1127 = .ok (.bipush 109, 2) := by decide +kernel
theorem dX12_init_1129 : decode cX12_init 1129 = .ok (.castore, 1) := by decide +kernel
theorem dX12_init_1130 : decode cX12_init 1130 = .ok (.dup, 1) := by decide +kernel
theorem dX12_init_1131 : decode cX12_init 1131 = .ok (.iconst 1, 1) := by decide +kernel
theorem dX12_init_1132 : decode cX12_init 1132 = .ok (.bipush 111, 2) := by decide +kernel
theorem dX12_init_1134 : decode cX12_init 1134 = .ok (.castore, 1) := by decide +kernel
theorem dX12_init_1135 : decode cX12_init 1135 = .ok (.dup, 1) := by decide +kernel
theorem dX12_init_1136 : decode cX12_init 1136 = .ok (.iconst 2, 1) := by decide +kernel
theorem dX12_init_1137 : decode cX12_init 1137 = .ok (.bipush 115, 2) := by decide +kernel
theorem dX12_init_1139 : decode cX12_init 1139 = .ok (.castore, 1) := by decide +kernel
theorem dX12_init_1140 : decode cX12_init 1140 = .ok (.dup, 1) := by decide +kernel
theorem dX12_init_1141 : decode cX12_init 1141 = .ok (.iconst 3, 1) := by decide +kernel
theorem dX12_init_1142 : decode cX12_init 1142 = .ok (.bipush 116, 2) := by decide +kernel
theorem dX12_init_1144 : decode cX12_init 1144 = .ok (.castore, 1) := by decide +kernel
theorem dX12_init_1145 : decode cX12_init 1145 = .ok (.putfield 189, 3) := by decide +kernel
theorem dX12_init_1148 : decode cX12_init 1148 = .ok (.aload_n 0, 1) := by decide +kernel
theorem dX12_init_1149 : decode cX12_init 1149 = .ok (.iconst 5, 1) := by decide +kernel
theorem dX12_init_1150 : decode cX12_init 1150 = .ok (.newarray .char, 2) := by decide +kernel
theorem dX12_init_1152 : decode cX12_init 1152 = .ok (.dup, 1) := by decide +kernel
theorem dX12_init_1153 : decode cX12_init 1153 = .ok (.iconst 0, 1) := by decide +kernel
theorem dX12_init_1154 : decode cX12_init 1154 = .ok (.bipush 108, 2) := by decide +kernel
theorem dX12_init_1156 : decode cX12_init 1156 = .ok (.castore, 1) := by decide +kernel
theorem dX12_init_1157 : decode cX12_init 1157 = .ok (.dup, 1) := by decide +kernel
theorem dX12_init_1158 : decode cX12_init 1158 = .ok (.iconst 1, 1) := by decide +kernel
theorem dX12_init_1159 : decode cX12_init 1159 = .ok (.bipush 101, 2) := by decide +kernel
theorem dX12_init_1161 : decode cX12_init 1161 = .ok (.castore, 1) := by decide +kernel
theorem dX12_init_1162 : decode cX12_init 1162 = .ok (.dup, 1) := by decide +kernel
theorem dX12_init_1163 : decode cX12_init 1163 = .ok (.iconst 2, 1) := by decide +kernel
theorem dX12_init_1164 : decode cX12_init 1164 = .ok (.bipush 97, 2) := by decide +kernel
theorem dX12_init_1166 : decode cX12_init 1166 = .ok (.castore, 1) := by decide +kernel
theorem dX12_init_1167 : decode cX12_init 1167 = .ok (.dup, 1) := by decide +kernel
theorem dX12_init_1168 : decode cX12_init 1168 = .ok (.iconst 3, 1) := by decide +kernel
theorem dX12_init_1169 : decode cX12_init 1169 = .ok (.bipush 115, 2) := by decide +kernel
theorem dX12_init_1171 : decode cX12_init 1171 = .ok (.castore, 1) := by decide +kernel
theorem dX12_init_1172 : decode cX12_init 1172 = .ok (.dup, 1) := by decide +kernel
theorem dX12_init_1173 : decode cX12_init 1173 = .ok (.iconst 4, 1) := by decide +kernel
theorem dX12_init_1174 : decode cX12_init 1174 = .ok (.bipush 116, 2) := by decide +kernel
theorem dX12_init_1176 : decode cX12_init 1176 = .ok (.castore, 1) := by decide +kernel
theorem dX12_init_1177 : decode cX12_init 1177 = .ok (.putfield 192, 3) := by decide +kernel
theorem dX12_init_1180 : decode cX12_init 1180 = .ok (.aload_n 0, 1) := by decide +kernel
theorem dX12_init_1181 : decode cX12_init 1181 = .ok (.iconst 3, 1) := by decide +kernel
theorem dX12_init_1182 : decode cX12_init 1182 = .ok (.newarray .char, 2) := by decide +kernel
theorem dX12_init_1184 : decode cX12_init 1184 = .ok (.dup, 1) := by decide +kernel
theorem dX12_init_1185 : decode cX12_init 1185 = .ok (.iconst 0, 1) := by decide +kernel
theorem dX12_init_1186 : decode cX12_init 1186 = .ok (.bipush 110, 2) := by decide +kernel
theorem dX12_init_1188 : decode cX12_init 1188 = .ok (.castore, 1) := by decide +kernel
theorem dX12_init_1189 : decode cX12_init 1189 = .ok (.dup, 1) := by decide +kernel
theorem dX12_init_1190 : decode cX12_init 1190 = .ok (.iconst 1, 1) := by decide +kernel
theorem dX12_init_1191 : decode cX12_init 1191 = .ok (.bipush 111, 2) := by decide +kernel
theorem dX12_init_1193 : decode cX12_init 1193 = .ok (.castore, 1) := by decide +kernel
theorem dX12_init_1194 : decode cX12_init 1194 = .ok (.dup, 1) := by decide +kernel
theorem dX12_init_1195 : decode cX12_init 1195 = .ok (.iconst 2, 1) := by decide +kernel
theorem dX12_init_1196 : decode cX12_init 1196 = .ok (.bipush 116, 2) := by decide +kernel
theorem dX12_init_1198 : decode cX12_init 1198 = .ok (.castore, 1) := by decide +kernel
theorem dX12_init_1199 : decode cX12_init 1199 = .ok (.putfield 195, 3) := by decide +kernel
theorem dX12_init_1202 : decode cX12_init 1202 = .ok (.aload_n 0, 1) := by decide +kernel
theorem dX12_init_1203 : decode cX12_init 1203 = .ok (.iconst 3, 1) := by decide +kernel
theorem dX12_init_1204 : decode cX12_init 1204 = .ok (.newarray .char, 2) := by decide +kernel
theorem dX12_init_1206 : decode cX12_init 1206 = .ok (.dup, 1) := by decide +kernel
theorem dX12_init_1207 : decode cX12_init 1207 = .ok (.iconst 0, 1) := by decide +kernel
theorem dX12_init_1208 : decode cX12_init 1208 = .ok (.bipush 97, 2) := by decide +kernel
theorem dX12_init_1210 : decode cX12_init 1210 = .ok (.castore, 1) := by decide +kernel
theorem dX12_init_1211 : decode cX12_init 1211 = .ok (.dup, 1) := by decide +kernel
theorem dX12_init_1212 : decode cX12_init 1212 = .ok (.iconst 1, 1) := by decide +kernel
theorem dX12_init_1213 : decode cX12_init 1213 = .ok (.bipush 110, 2) := by decide +kernel
theorem dX12_init_1215 : decode cX12_init 1215 = .ok (.castore, 1) := by decide +kernel
theorem dX12_init_1216 : decode cX12_init 1216 = .ok (.dup, 1) := by decide +kernel
theorem dX12_init_1217 : decode cX12_init 1217 = .ok (.iconst 2, 1) := by decide +kernel
theorem dX12_init_1218 : decode cX12_init 1218 = .ok (.bipush 100, 2) := by decide +kernel
theorem dX12_init_1220 : decode cX12_init 1220 = .ok (.castore, 1) := by decide +kernel
theorem dX12_init_1221 : decode cX12_init 1221 = .ok (.putfield 198, 3) := by decide +kernel
theorem dX12_init_1224 : decode cX12_init 1224 = .ok (.aload_n 0, 1) := by decide +kernel
theorem dX12_init_1225 : decode cX12_init 1225 = .ok (.iconst 2, 1) := by decide +kernel
theorem dX12_init_1226 : decode cX12_init 1226 = .ok (.newarray .char, 2) := by decide +kernel
theorem dX12_init_1228 : decode cX12_init 1228 = .ok (.dup, 1) := by decide +kernel
theorem dX12_init_1229 : decode cX12_init 1229 = .ok (.iconst 0, 1) := by decide +kernel
theorem dX12_init_1230 : decode cX12_init 1230 = .ok (.bipush 111, 2) := by decide +kernel
theorem dX12_init_1232 : decode cX12_init 1232 = .ok (.castore, 1) := by decide +kernel
theorem dX12_init_1233 : decode cX12_init 1233 = .ok (.dup, 1) := by decide +kernel
theorem dX12_init_1234 : decode cX12_init 1234 = .ok (.iconst 1, 1) := by decide +kernel
theorem dX12_init_1235 : decode cX12_init 1235 = .ok (.bipush 114, 2) := by decide +kernel
theorem dX12_init_1237 : decode cX12_init 1237 = .ok (.castore, 1) := by decide +kernel
theorem dX12_init_1238 : decode cX12_init 1238 = .ok (.putfield 201, 3) := by decide +kernel
theorem dX12_init_1241 : decode cX12_init 1241 = .ok (.aload_n 0, 1) := by decide +kernel
theorem dX12_init_1242 : decode cX12_init 1242 = .ok (.iconst 3, 1) := by decide +kernel
theorem dX12_init_1243 : decode cX12_init 1243 = .ok (.newarray .char, 2) := by decide +kernel
theorem dX12_init_1245 : decode cX12_init 1245 = .ok (.dup, 1) := by decide +kernel
theorem dX12_init_1246 : decode cX12_init 1246 = .ok (.iconst 0, 1) := by decide +kernel
theorem dX12_init_1247 : decode cX12_init 1247 = .ok (.bipush 97, 2) := by decide +kernel
theorem dX12_init_1249 : decode cX12_init 1249 = .ok (.castore, 1) := by decide +kernel
theorem dX12_init_1250 : decode cX12_init 1250 = .ok (.dup, 1) := by decide +kernel
theorem dX12_init_1251 : decode cX12_init 1251 = .ok (.iconst 1, 1) := by decide +kernel
theorem dX12_init_1252 : decode cX12_init 1252 = .ok (.bipush 108, 2) := by decide +kernel
theorem dX12_init_1254 : decode cX12_init 1254 = .ok (.castore, 1) := by decide +kernel
theorem dX12_init_1255 : decode cX12_init 1255 = .ok (.dup, 1) := by decide +kernel
theorem dX12_init_1256 : decode cX12_init 1256 = .ok (.iconst 2, 1) := by decide +kernel
theorem dX12_init_1257 : decode cX12_init 1257 = .ok (.bipush 108, 2) := by decide +kernel
theorem dX12_init_1259 : decode cX12_init 1259 = .ok (.castore, 1) := by decide +kernel
theorem dX12_init_1260 : decode cX12_init 1260 = .ok (.putfield 204, 3) := by decide +kernel
theorem dX12_init_1263 : decode cX12_init 1263 = .ok (.aload_n 0, 1) := by decide +kernel
theorem dX12_init_1264 : decode cX12_init 1264 = .ok (.iconst 3, 1) := by decide +kernel
theorem dX12_init_1265 : decode cX12_init 1265 = .ok (.newarray .char, 2) := by decide +kernel
theorem dX12_init_1267 : decode cX12_init 1267 = .ok (.dup, 1) := by decide +kernel
theorem dX12_init_1268 : decode cX12_init 1268 = .ok (.iconst 0, 1) := by decide +kernel
theorem dX12_init_1269 : decode cX12_init 1269 = .ok (.bipush 109, 2) := by decide +kernel
theorem dX12_init_1271 : decode cX12_init 1271 = .ok (.castore, 1) := by decide +kernel
theorem dX12_init_1272 : decode cX12_init 1272 = .ok (.dup, 1) := by decide +kernel
theorem dX12_init_1273 : decode cX12_init 1273 = .ok (.iconst 1, 1) := by decide +kernel
theorem dX12_init_1274 : decode cX12_init 1274 = .ok (.bipush 105, 2) := by decide +kernel
theorem dX12_init_1276 : decode cX12_init 1276 = .ok (.castore, 1) := by decide +kernel
theorem dX12_init_1277 : decode cX12_init 1277 = .ok (.dup, 1) := by decide +kernel
theorem dX12_init_1278 : decode cX12_init 1278 = .ok (.iconst 2, 1) := by decide +kernel
theorem dX12_init_1279 : decode cX12_init 1279 = .ok (.bipush 110, 2) := by decide +kernel
theorem dX12_init_1281 : decode cX12_init 1281 = .ok (.castore, 1) := by decide +kernel
theorem dX12_init_1282 : decode cX12_init 1282 = .ok (.putfield 207, 3) := by decide +kernel
theorem dX12_init_1285 : decode cX12_init 1285 = .ok (.aload_n 0, 1) := by decide +kernel
theorem dX12_init_1286 : decode cX12_init 1286 = .ok (.iconst 3, 1) := by decide +kernel
theorem dX12_init_1287 : decode cX12_init 1287 = .ok (.newarray .char, 2) := by decide +kernel
theorem dX12_init_1289 : decode cX12_init 1289 = .ok (.dup, 1) := by decide +kernel
theorem dX12_init_1290 : decode cX12_init 1290 = .ok (.iconst 0, 1) := by decide +kernel
theorem dX12_init_1291 : decode cX12_init 1291 = .ok (.bipush 109, 2) := by decide +kernel
theorem dX12_init_1293 : decode cX12_init 1293 = .ok (.castore, 1) := by decide +kernel
theorem dX12_init_1294 : decode cX12_init 1294 = .ok (.dup, 1) := by decide +kernel
theorem dX12_init_1295 : decode cX12_init 1295 = .ok (.iconst 1, 1) := by decide +kernel
theorem dX12_init_1296 : decode cX12_init 1296 = .ok (.bipush 97, 2) := by decide +kernel
theorem dX12_init_1298 : decode cX12_init 1298 = .ok (.castore, 1) := by decide +kernel
theorem dX12_init_1299 : decode cX12_init 1299 = .ok (.dup, 1) := by decide +kernel
theorem dX12_init_1300 : decode cX12_init 1300 = .ok (.iconst 2, 1) := by decide +kernel
theorem dX12_init_1301 : decode cX12_init 1301 = .ok (.bipush 120, 2) := by decide +kernel
theorem dX12_init_1303 : decode cX12_init 1303 = .ok (.castore, 1) := by decide +kernel
theorem dX12_init_1304 : decode cX12_init 1304 = .ok (.putfield 210, 3) := by decide +kernel
theorem dX12_init_1307 : decode cX12_init 1307 = .ok (.aload_n 0, 1) := by decide +kernel
theorem dX12_init_1308 : decode cX12_init 1308 = .ok (.iconst 5, 1) := by decide +kernel
theorem dX12_init_1309 : decode cX12_init 1309 = .ok (.newarray .char, 2) := by decide +kernel
theorem dX12_init_1311 : decode cX12_init 1311 = .ok (.dup, 1) := by decide +kernel
theorem dX12_init_1312 : decode cX12_init 1312 = .ok (.iconst 0, 1) := by decide +kernel
theorem dX12_init_1313 : decode cX12_init 1313 = .ok (.bipush 102, 2) := by decide +kernel
theorem dX12_init_1315 : decode cX12_init 1315 = .ok (.castore, 1) := by decide +kernel
theorem dX12_init_1316 : decode cX12_init 1316 = .ok (.dup, 1) := by decide +kernel
theorem dX12_init_1317 : decode cX12_init 1317 = .ok (.iconst 1, 1) := by decide +kernel
theorem dX12_init_1318 : decode cX12_init 1318 = .ok (.bipush 108, 2) := by decide +kernel
theorem dX12_init_1320 : decode cX12_init 1320 = .ok (.castore, 1) := by decide +kernel
theorem dX12_init_1321 : decode cX12_init 1321 = .ok (.dup, 1) := by decide +kernel
theorem dX12_init_1322 : decode cX12_init 1322 = .ok (.iconst 2, 1) := by decide +kernel
theorem dX12_init_1323 : decode cX12_init 1323 = .ok (.bipush 111, 2) := by decide +kernel
theorem dX12_init_1325 : decode cX12_init 1325 = .ok (.castore, 1) := by decide +kernel
theorem dX12_init_1326 : decode cX12_init 1326 = .ok (.dup, 1) := by decide +kernel
theorem dX12_init_1327 : decode cX12_init 1327 = .ok (.iconst 3, 1) := by decide +kernel
theorem dX12_init_1328 : decode cX12_init 1328 = .ok (.bipush 117, 2) := by decide +kernel
theorem dX12_init_1330 : decode cX12_init 1330 = .ok (.castore, 1) := by decide +kernel
theorem dX12_init_1331 : decode cX12_init 1331 = .ok (.dup, 1) := by decide +kernel
theorem dX12_init_1332 : decode cX12_init 1332 = .ok (.iconst 4, 1) := by decide +kernel
theorem dX12_init_1333 : decode cX12_init 1333 = .ok (.bipush 114, 2) := by decide +kernel
theorem dX12_init_1335 : decode cX12_init 1335 = .ok (.castore, 1) := by decide +kernel
theorem dX12_init_1336 : decode cX12_init 1336 = .ok (.putfield 213, 3) := by decide +kernel
theorem dX12_init_1339 : decode cX12_init 1339 = .ok (.aload_n 0, 1) := by decide +kernel
theorem dX12_init_1340 : decode cX12_init 1340 = .ok (.iconst 4, 1) := by decide +kernel
theorem dX12_init_1341 : decode cX12_init 1341 = .ok (.newarray .char, 2) := by decide +kernel
theorem dX12_init_1343 : decode cX12_init 1343 = .ok (.dup, 1) := by decide +kernel
theorem dX12_init_1344 : decode cX12_init 1344 = .ok (.iconst 0, 1) := by decide +kernel
theorem dX12_init_1345 : decode cX12_init 1345 = .ok (.bipush 115, 2) := by decide +kernel
theorem dX12_init_1347 : decode cX12_init 1347 = .ok (.castore, 1) := by decide +kernel
theorem dX12_init_1348 : decode cX12_init 1348 = .ok (.dup, 1) := by decide +kernel
theorem dX12_init_1349 : decode cX12_init 1349 = .ok (.iconst 1, 1) := by decide +kernel
theorem dX12_init_1350 : decode cX12_init 1350 = .ok (.bipush 97, 2) := by decide +kernel
theorem dX12_init_1352 : decode cX12_init 1352 = .ok (.castore, 1) := by decide +kernel
theorem dX12_init_1353 : decode cX12_init 1353 = .ok (.dup, 1) := by decide +kernel
theorem dX12_init_1354 : decode cX12_init 1354 = .ok (.iconst 2, 1) := by decide +kernel
theorem dX12_init_1355 : decode cX12_init 1355 = .ok (.bipush 108, 2) := by decide +kernel
theorem dX12_init_1357 : decode cX12_init 1357 = .ok (.castore, 1) := by decide +kernel
theorem dX12_init_1358 : decode cX12_init 1358 = .ok (.dup, 1) := by decide +kernel
theorem dX12_init_1359 : decode cX12_init 1359 = .ok (.iconst 3, 1) := by decide +kernel
theorem dX12_init_1360 : decode cX12_init 1360 = .ok (.bipush 116, 2) := by decide +kernel
theorem dX12_init_1362 : decode cX12_init 1362 = .ok (.castore, 1) := by decide +kernel
theorem dX12_init_1363 : decode cX12_init 1363 = .ok (.putfield 216, 3) := by decide +kernel
theorem dX12_init_1366 : decode cX12_init 1366 = .ok (.aload_n 0, 1) := by decide +kernel
theorem dX12_init_1367 : decode cX12_init 1367 = .ok (.bipush 6, 2) := by decide +kernel
theorem dX12_init_1369 : decode cX12_init 1369 = .ok (.newarray .char, 2) := by decide +kernel
theorem dX12_init_1371 : decode cX12_init 1371 = .ok (.dup, 1) := by decide +kernel
theorem dX12_init_1372 : decode cX12_init 1372 = .ok (.iconst 0, 1) := by decide +kernel
theorem dX12_init_1373 : decode cX12_init 1373 = .ok (.bipush 104, 2) := by decide +kernel
theorem dX12_init_1375 : decode cX12_init 1375 = .ok (.castore, 1) := by decide +kernel
theorem dX12_init_1376 : decode cX12_init 1376 = .ok (.dup, 1) := by decide +kernel
theorem dX12_init_1377 : decode cX12_init 1377 = .ok (.iconst 1, 1) := by decide +kernel
theorem dX12_init_1378 : decode cX12_init 1378 = .ok (.bipush 117, 2) := by decide +kernel
theorem dX12_init_1380 : decode cX12_init 1380 = .ok (.castore, 1) := by decide +kernel
theorem dX12_init_1381 : decode cX12_init 1381 = .ok (.dup, 1) := by decide +kernel
theorem dX12_init_1382 : decode cX12_init 1382 = .ok (.iconst 2, 1) := by decide +kernel
theorem dX12_init_1383 : decode cX12_init 1383 = .ok (.bipush 110, 2) := by decide +kernel
theorem dX12_init_1385 : decode cX12_init 1385 = .ok (.castore, 1) := by decide +kernel
theorem dX12_init_1386 : decode cX12_init 1386 = .ok (.dup, 1) := by decide +kernel
theorem dX12_init_1387 : decode cX12_init 1387 = .ok (.iconst 3, 1) := by decide +kernel
theorem dX12_init_1388 : decode cX12_init 1388 = .ok (.bipush 103, 2) := by decide +kernel
theorem dX12_init_1390 : decode cX12_init 1390 = .ok (.castore, 1) := by decide +kernel
theorem dX12_init_1391 : decode cX12_init 1391 = .ok (.dup, 1) := by decide +kernel
theorem dX12_init_1392 : decode cX12_init 1392 = .ok (.iconst 4, 1) := by decide +kernel
theorem dX12_init_1393 : decode cX12_init 1393 = .ok (.bipush 101, 2) := by decide +kernel
theorem dX12_init_1395 : decode cX12_init 1395 = .ok (.castore, 1) := by decide +kernel
theorem dX12_init_1396 : decode cX12_init 1396 = .ok (.dup, 1) := by decide +kernel
theorem dX12_init_1397 : decode cX12_init 1397 = .ok (.iconst 5, 1) := by decide +kernel
theorem dX12_init_1398 : decode cX12_init 1398 = .ok (.bipush 114, 2) := by decide +kernel
theorem dX12_init_1400 : decode cX12_init 1400 = .ok (.castore, 1) := by decide +kernel
theorem dX12_init_1401 : decode cX12_init 1401 = .ok (.putfield 219, 3) := by decide +kernel
theorem dX12_init_1404 : decode cX12_init 1404 = .ok (.aload_n 0, 1) := by decide +kernel
theorem dX12_init_1405 : decode cX12_init 1405 = .ok (.iconst 3, 1) := by decide +kernel
theorem dX12_init_1406 : decode cX12_init 1406 = .ok (.newarray .char, 2) := by decide +kernel
theorem dX12_init_1408 : decode cX12_init 1408 = .ok (.dup, 1) := by decide +kernel
theorem dX12_init_1409 : decode cX12_init 1409 = .ok (.iconst 0, 1) := by decide +kernel
theorem dX12_init_1410 : decode cX12_init 1410 = .ok (.bipush 100, 2) := by decide +kernel
theorem dX12_init_1412 : decode cX12_init 1412 = .ok (.castore, 1) := by decide +kernel
theorem dX12_init_1413 : decode cX12_init 1413 = .ok (.dup, 1) := by decide +kernel
theorem dX12_init_1414 : decode cX12_init 1414 = .ok (.iconst 1, 1) := by decide +kernel
theorem dX12_init_1415 : decode cX12_init 1415 = .ok (.bipush 97, 2) := by decide +kernel
theorem dX12_init_1417 : decode cX12_init 1417 = .ok (.castore, 1) := by decide +kernel
theorem dX12_init_1418 : decode cX12_init 1418 = .ok (.dup, 1) := by decide +kernel
theorem dX12_init_1419 : decode cX12_init 1419 = .ok (.iconst 2, 1) := by decide +kernel
theorem dX12_init_1420 : decode cX12_init 1420 = .ok (.bipush 121, 2) := by decide +kernel
theorem dX12_init_1422 : decode cX12_init 1422 = .ok (.castore, 1) := by decide +kernel
theorem dX12_init_1423 : decode cX12_init 1423 = .ok (.putfield 222, 3) := by decide +kernel
theorem dX12_init_1426 : decode cX12_init 1426 = .ok (.aload_n 0, 1) := by decide +kernel
theorem dX12_init_1427 : decode cX12_init 1427 = .ok (.iconst 4, 1) := by decide +kernel
theorem dX12_init_1428 : decode cX12_init 1428 = .ok (.newarray .char, 2) := by decide +kernel
theorem dX12_init_1430 : decode cX12_init 1430 = .ok (.dup, 1) := by decide +kernel
theorem dX12_init_1431 : decode cX12_init 1431 = .ok (.iconst 0, 1) := by decide +kernel
theorem dX12_init_1432 : decode cX12_init 1432 = .ok (.bipush 104, 2) := by decide +kernel
theorem dX12_init_1434 : decode cX12_init 1434 = .ok (.castore, 1) := by decide +kernel
theorem dX12_init_1435 : decode cX12_init 1435 = .ok (.dup, 1) := by decide +kernel
theorem dX12_init_1436 : decode cX12_init 1436 = .ok (.iconst 1, 1) := by decide +kernel
theorem dX12_init_1437 : decode cX12_init 1437 = .ok (.bipush 97, 2) := by decide +kernel
theorem dX12_init_1439 : decode cX12_init 1439 = .ok (.castore, 1) := by decide +kernel
theorem dX12_init_1440 : decode cX12_init 1440 = .ok (.dup, 1) := by decide +kernel
theorem dX12_init_1441 : decode cX12_init 1441 = .ok (.iconst 2, 1) := by decide +kernel
theorem dX12_init_1442 : decode cX12_init 1442 = .ok (.bipush 116, 2) := by decide +kernel
theorem dX12_init_1444 : decode cX12_init 1444 = .ok (.castore, 1) := by decide +kernel
theorem dX12_init_1445 : decode cX12_init 1445 = .ok (.dup, 1) := by decide +kernel
theorem dX12_init_1446 : decode cX12_init 1446 = .ok (.iconst 3, 1) := by decide +kernel
theorem dX12_init_1447 : decode cX12_init 1447 = .ok (.bipush 101, 2) := by decide +kernel
theorem dX12_init_1449 : decode cX12_init 1449 = .ok (.castore, 1) := by decide +kernel
theorem dX12_init_1450 : decode cX12_init 1450 = .ok (.putfield 225, 3) := by decide +kernel
theorem dX12_init_1453 : decode cX12_init 1453 = .ok (.aload_n 0, 1) := by decide +kernel
theorem dX12_init_1454 : decode cX12_init 1454 = .ok (.bipush 6, 2) := by decide +kernel
theorem dX12_init_1456 : decode cX12_init 1456 = .ok (.newarray .char, 2) := by decide +kernel
theorem dX12_init_1458 : decode cX12_init 1458 = .ok (.dup, 1) := by decide +kernel
theorem dX12_init_1459 : decode cX12_init 1459 = .ok (.iconst 0, 1) := by decide +kernel
theorem dX12_init_1460 : decode cX12_init 1460 = .ok (.bipush 108, 2) := by decide +kernel
theorem dX12_init_1462 : decode cX12_init 1462 = .ok (.castore, 1) := by decide +kernel
theorem dX12_init_1463 : decode cX12_init 1463 = .ok (.dup, 1) := by decide +kernel
theorem dX12_init_1464 : decode cX12_init 1464 = .ok (.iconst 1, 1) := by decide +kernel
theorem dX12_init_1465 : decode cX12_init 1465 = .ok (.bipush 111, 2) := by decide +kernel
theorem dX12_init_1467 : decode cX12_init 1467 = .ok (.castore, 1) := by decide +kernel
theorem dX12_init_1468 : decode cX12_init 1468 = .ok (.dup, 1) := by decide +kernel
theorem dX12_init_1469 : decode cX12_init 1469 = .ok (.iconst 2, 1) := by decide +kernel
theorem dX12_init_1470 : decode cX12_init 1470 = .ok (.bipush 97, 2) := by decide +kernel
theorem dX12_init_1472 : decode cX12_init 1472 = .ok (.castore, 1) := by decide +kernel
theorem dX12_init_1473 : decode cX12_init 1473 = .ok (.dup, 1) := by decide +kernel
theorem dX12_init_1474 : decode cX12_init 1474 = .ok (.iconst 3, 1) := by decide +kernel
theorem dX12_init_1475 : decode cX12_init 1475 = .ok (.bipush 118, 2) := by decide +kernel
theorem dX12_init_1477 : decode cX12_init 1477 = .ok (.castore, 1) := by decide +kernel
theorem dX12_init_1478 : decode cX12_init 1478 = .ok (.dup, 1) := by decide +kernel
theorem dX12_init_1479 : decode cX12_init 1479 = .ok (.iconst 4, 1) := by decide +kernel
theorem dX12_init_1480 : decode cX12_init 1480 = .ok (.bipush 101, 2) := by decide +kernel
theorem dX12_init_1482 : decode cX12_init 1482 = .ok (.castore, 1) := by decide +kernel
theorem dX12_init_1483 : decode cX12_init 1483 = .ok (.dup, 1) := by decide +kernel
theorem dX12_init_1484 : decode cX12_init 1484 = .ok (.iconst 5, 1) := by decide +kernel
theorem dX12_init_1485 : decode cX12_init 1485 = .ok (.bipush 115, 2) := by decide +kernel
theorem dX12_init_1487 : decode cX12_init 1487 = .ok (.castore, 1) := by decide +kernel
theorem dX12_init_1488 : decode cX12_init 1488 = .ok (.putfield 228, 3) := by decide +kernel
theorem dX12_init_1491 : decode cX12_init 1491 = .ok (.aload_n 0, 1) := by decide +kernel
theorem dX12_init_1492 : decode cX12_init 1492 = .ok (.bipush 6, 2) := by decide +kernel
theorem dX12_init_1494 : decode cX12_init 1494 = .ok (.newarray .char, 2) := by decide +kernel
theorem dX12_init_1496 : decode cX12_init 1496 = .ok (.dup, 1) := by decide +kernel
theorem dX12_init_1497 : decode cX12_init 1497 = .ok (.iconst 0, 1) := by decide +kernel
theorem dX12_init_1498 : decode cX12_init 1498 = .ok (.bipush 110, 2) := by decide +kernel
theorem dX12_init_1500 : decode cX12_init 1500 = .ok (.castore, 1) := by decide +kernel
theorem dX12_init_1501 : decode cX12_init 1501 = .ok (.dup, 1) := by decide +kernel
theorem dX12_init_1502 : decode cX12_init 1502 = .ok (.iconst 1, 1) := by decide +kernel
theorem dX12_init_1503 : decode cX12_init 1503 = .ok (.bipush 117, 2) := by decide +kernel
theorem dX12_init_1505 : decode cX12_init 1505 = .ok (.castore, 1) := by decide +kernel
theorem dX12_init_1506 : decode cX12_init 1506 = .ok (.dup, 1) := by decide +kernel
theorem dX12_init_1507 : decode cX12_init 1507 = .ok (.iconst 2, 1) := by decide +kernel
theorem dX12_init_1508 : decode cX12_init 1508 = .ok (.bipush 109, 2) := by decide +kernel
theorem dX12_init_1510 : decode cX12_init 1510 = .ok (.castore, 1) := by decide +kernel
theorem dX12_init_1511 : decode cX12_init 1511 = .ok (.dup, 1) := by decide +kernel
theorem dX12_init_1512 : decode cX12_init 1512 = .ok (.iconst 3, 1) := by decide +kernel
theorem dX12_init_1513 : decode cX12_init 1513 = .ok (.bipush 98, 2) := by decide +kernel
theorem dX12_init_1515 : decode cX12_init 1515 = .ok (.castore, 1) := by decide +kernel
theorem dX12_init_1516 : decode cX12_init 1516 = .ok (.dup, 1) := by decide +kernel
theorem dX12_init_1517 : decode cX12_init 1517 = .ok (.iconst 4, 1) := by decide +kernel
theorem dX12_init_1518 : decode cX12_init 1518 = .ok (.bipush 101, 2) := by decide +kernel
theorem dX12_init_1520 : decode cX12_init 1520 = .ok (.castore, 1) := by decide +kernel
theorem dX12_init_1521 : decode cX12_init 1521 = .ok (.dup, 1) := by decide +kernel
theorem dX12_init_1522 : decode cX12_init 1522 = .ok (.iconst 5, 1) := by decide +kernel
theorem dX12_init_1523 : decode cX12_init 1523 = .ok (.bipush 114, 2) := by decide +kernel
theorem dX12_init_1525 : decode cX12_init 1525 = .ok (.castore, 1) := by decide +kernel
theorem dX12_init_1526 : decode cX12_init 1526 = .ok (.putfield 231, 3) := by decide +kernel
theorem dX12_init_1529 : decode cX12_init 1529 = .ok (.aload_n 0, 1) := by decide +kernel
theorem dX12_init_1530 : decode cX12_init 1530 = .ok (.iconst 5, 1) := by decide +kernel
theorem dX12_init_1531 : decode cX12_init 1531 = .ok (.newarray .char, 2) := by decide +kernel
theorem dX12_init_1533 : decode cX12_init 1533 = .ok (.dup, 1) := by decide +kernel
theorem dX12_init_1534 : decode cX12_init 1534 = .ok (.iconst 0, 1) := by decide +kernel
theorem dX12_init_1535 : decode cX12_init 1535 = .ok (.bipush 102, 2) := by decide +kernel
theorem dX12_init_1537 : decode cX12_init 1537 = .ok (.castore, 1) := by decide +kernel
theorem dX12_init_1538 : decode cX12_init 1538 = .ok (.dup, 1) := by decide +kernel
theorem dX12_init_1539 : decode cX12_init 1539 = .ok (.iconst 1, 1) := by decide +kernel
theorem dX12_init_1540 : decode cX12_init 1540 = .ok (.bipush 101, 2) := by decide +kernel
theorem dX12_init_1542 : decode cX12_init 1542 = .ok (.castore, 1) := by decide +kernel
theorem dX12_init_1543 : decode cX12_init 1543 = .ok (.dup, 1) := by decide +kernel
theorem dX12_init_1544 : decode cX12_init 1544 = .ok (.iconst 2, 1) := by decide +kernel
theorem dX12_init_1545 : decode cX12_init 1545 = .ok (.bipush 117, 2) := by decide +kernel
theorem dX12_init_1547 : decode cX12_init 1547 = .ok (.castore, 1) := by decide +kernel
theorem dX12_init_1548 : decode cX12_init 1548 = .ok (.dup, 1) := by decide +kernel
theorem dX12_init_1549 : decode cX12_init 1549 = .ok (.iconst 3, 1) := by decide +kernel
theorem dX12_init_1550 : decode cX12_init 1550 = .ok (.bipush 100, 2) := by decide +kernel
theorem dX12_init_1552 : decode cX12_init 1552 = .ok (.castore, 1) := by decide +kernel
theorem dX12_init_1553 : decode cX12_init 1553 = .ok (.dup, 1) := by decide +kernel
theorem dX12_init_1554 : decode cX12_init 1554 = .ok (.iconst 4, 1) := by decide +kernel
theorem dX12_init_1555 : decode cX12_init 1555 = .ok (.bipush 115, 2) := by decide +kernel
theorem dX12_init_1557 : decode cX12_init 1557 = .ok (.castore, 1) := by decide +kernel
theorem dX12_init_1558 : decode cX12_init 1558 = .ok (.putfield 234, 3) := by decide +kernel
theorem dX12_init_1561 : decode cX12_init 1561 = .ok (.aload_n 0, 1) := by decide +kernel
theorem dX12_init_1562 : decode cX12_init 1562 = .ok (.iconst 4, 1) := by decide +kernel
theorem dX12_init_1563 : decode cX12_init 1563 = .ok (.newarray .char, 2) := by decide +kernel
theorem dX12_init_1565 : decode cX12_init 1565 = .ok (.dup, 1) := by decide +kernel
theorem dX12_init_1566 : decode cX12_init 1566 = .ok (.iconst 0, 1) := by decide +kernel
theorem dX12_init_1567 : decode cX12_init 1567 = .ok (.bipush 104, 2) := by decide +kernel
theorem dX12_init_1569 : decode cX12_init 1569 = .ok (.castore, 1) := by decide +kernel
theorem dX12_init_1570 : decode cX12_init 1570 = .ok (.dup, 1) := by decide +kernel
theorem dX12_init_1571 : decode cX12_init 1571 = .ok (.iconst 1, 1) := by decide +kernel
theorem dX12_init_1572 : decode cX12_init 1572 = .ok (.bipush 97, 2) := by decide +kernel
theorem dX12_init_1574 : decode cX12_init 1574 = .ok (.castore, 1) := by decide +kernel
theorem dX12_init_1575 : decode cX12_init 1575 = .ok (.dup, 1) := by decide +kernel
theorem dX12_init_1576 : decode cX12_init 1576 = .ok (.iconst 2, 1) := by decide +kernel
theorem dX12_init_1577 : decode cX12_init 1577 = .ok (.bipush 116, 2) := by decide +kernel
theorem dX12_init_1579 : decode cX12_init 1579 = .ok (.castore, 1) := by decide +kernel
theorem dX12_init_1580 : decode cX12_init 1580 = .ok (.dup, 1) := by decide +kernel
theorem dX12_init_1581 : decode cX12_init 1581 = .ok (.iconst 3, 1) := by decide +kernel
theorem dX12_init_1582 : decode cX12_init 1582 = .ok (.bipush 101, 2) := by decide +kernel
theorem dX12_init_1584 : decode cX12_init 1584 = .ok (.castore, 1) := by decide +kernel
theorem dX12_init_1585 : decode cX12_init 1585 = .ok (.putfield 237, 3) := by decide +kernel
theorem dX12_init_1588 : decode cX12_init 1588 = .ok (.aload_n 0, 1) := by decide +kernel
theorem dX12_init_1589 : decode cX12_init 1589 = .ok (.bipush 6, 2) := by decide +kernel
theorem dX12_init_1591 : decode cX12_init 1591 = .ok (.newarray .char, 2) := by decide +kernel
theorem dX12_init_1593 : decode cX12_init 1593 = .ok (.dup, 1) := by decide +kernel
theorem dX12_init_1594 : decode cX12_init 1594 = .ok (.iconst 0, 1) := by decide +kernel
theorem dX12_init_1595 : decode cX12_init 1595 = .ok (.bipush 116, 2) := by decide +kernel
theorem dX12_init_1597 : decode cX12_init 1597 = .ok (.castore, 1) := by decide +kernel
theorem dX12_init_1598 : decode cX12_init 1598 = .ok (.dup, 1) := by decide +kernel
theorem dX12_init_1599 : decode cX12_init 1599 = .ok (.iconst 1, 1) := by decide +kernel
theorem dX12_init_1600 : decode cX12_init 1600 = .ok (.bipush 97, 2) := by decide +kernel
theorem dX12_init_1602 : decode cX12_init 1602 = .ok (.castore, 1) := by decide +kernel
theorem dX12_init_1603 : decode cX12_init 1603 = .ok (.dup, 1) := by decide +kernel
theorem dX12_init_1604 : decode cX12_init 1604 = .ok (.iconst 2, 1) := by decide +kernel
theorem dX12_init_1605 : decode cX12_init 1605 = .ok (.bipush 115, 2) := by decide +kernel
theorem dX12_init_1607 : decode cX12_init 1607 = .ok (.castore, 1) := by decide +kernel
theorem dX12_init_1608 : decode cX12_init 1608 = .ok (.dup, 1) := by decide +kernel
theorem dX12_init_1609 : decode cX12_init 1609 = .ok (.iconst 3, 1) := by decide +kernel
theorem dX12_init_1610 : decode cX12_init 1610 = .ok (.bipush 116, 2) := by decide +kernel
theorem dX12_init_1612 : decode cX12_init 1612 = .ok (.castore, 1) := by decide +kernel
theorem dX12_init_1613 : decode cX12_init 1613 = .ok (.dup, 1) := by decide +kernel
theorem dX12_init_1614 : decode cX12_init 1614 = .ok (.iconst 4, 1) := by decide +kernel
theorem dX12_init_1615 : decode cX12_init 1615 = .ok (.bipush 101, 2) := by decide +kernel
theorem dX12_init_1617 : decode cX12_init 1617 = .ok (.castore, 1) := by decide +kernel
theorem dX12_init_1618 : decode cX12_init 1618 = .ok (.dup, 1) := by decide +kernel
theorem dX12_init_1619 : decode cX12_init 1619 = .ok (.iconst 5, 1) := by decide +kernel
theorem dX12_init_1620 : decode cX12_init 1620 = .ok (.bipush 115, 2) := by decide +kernel
theorem dX12_init_1622 : decode cX12_init 1622 = .ok (.castore, 1) := by decide +kernel
theorem dX12_init_1623 : decode cX12_init 1623 = .ok (.putfield 240, 3) := by decide +kernel
theorem dX12_init_1626 : decode cX12_init 1626 = .ok (.aload_n 0, 1) := by decide +kernel
theorem dX12_init_1627 : decode cX12_init 1627 = .ok (.sipush 1700, 3) := by decide +kernel
theorem dX12_init_1630 : decode cX12_init 1630 = .ok (.newarray .int, 2) := by decide +kernel
theorem dX12_init_1632 : decode cX12_init 1632 = .ok (.putfield 243, 3) := by decide +kernel
theorem dX12_init_1635 : decode cX12_init 1635 = .ok (.aload_n 0, 1) := by decide +kernel
theorem dX12_init_1636 : decode cX12_init 1636 = .ok (.sipush 1700, 3) := by decide +kernel
theorem dX12_init_1639 : decode cX12_init 1639 = .ok (.newarray .int, 2) := by decide +kernel
theorem dX12_init_1641 : decode cX12_init 1641 = .ok (.putfield 246, 3) := by decide +kernel
theorem dX12_init_1644 : decode cX12_init 1644 = .ok (.aload_n 0, 1) := by decide +kernel
theorem dX12_init_1645 : decode cX12_init 1645 = .ok (.sipush 1700, 3) := by decide +kernel
theorem dX12_init_1648 : decode cX12_init 1648 = .ok (.newarray .long, 2) := by decide +kernel
theorem dX12_init_1650 : decode cX12_init 1650 = .ok (.putfield 249, 3) := by decide +kernel
theorem dX12_init_1653 : decode cX12_init 1653 = .ok (.aload_n 0, 1) := by decide +kernel
theorem dX12_init_1654 : decode cX12_init 1654 = .ok (.bipush 45, 2) := by decide +kernel
theorem dX12_init_1656 : decode cX12_init 1656 = .ok (.newarray .int, 2) := by decide +kernel
theorem dX12_init_1658 : decode cX12_init 1658 = .ok (.putfield 252, 3) := by decide +kernel
theorem dX12_init_1661 : decode cX12_init 1661 = .ok (.return_, 1) := by decide +kernel
theorem dX12_isIn_0 : decode cX12_isIn 0 = .ok (.lload_n 0, 1) := by decide +kernel
theorem dX12_isIn_1 : decode cX12_isIn 1 = .ok (.lload_n 2, 1) := by decide +kernel
theorem dX12_isIn_2 : decode cX12_isIn 2 = .ok (.lcmp, 1) := by decide +kernel
theorem dX12_isIn_3 : decode cX12_isIn 3 = .ok (.ifCond .lt 14, 3) := by decide +kernel
theorem dX12_isIn_6 : decode cX12_isIn 6 = .ok (.lload_n 0, 1) := by decide +kernel
theorem dX12_isIn_7 : decode cX12_isIn 7 = .ok (.lload 4, 2) := by decide +kernel
theorem dX12_isIn_9 : decode cX12_isIn 9 = .ok (.lcmp, 1) := by decide +kernel
theorem dX12_isIn_10 : decode cX12_isIn 10 = .ok (.ifCond .gt 7, 3) := by decide +kernel
theorem dX12_isIn_13 : decode cX12_isIn 13 = .ok (.iconst 1, 1) := by decide +kernel
theorem dX12_isIn_14 : decode cX12_isIn 14 = .ok (.goto 4, 3) := by decide +kernel
theorem dX12_isIn_17 : decode cX12_isIn 17 = .ok (.iconst 0, 1) := by decide +kernel
theorem dX12_isIn_18 : decode cX12_isIn 18 = .ok (.ireturn, 1) := by decide +kernel
theorem dX12_cut_0 : decode cX12_cut 0 = .ok (.lload_n 0, 1) := by decide +kernel
theorem dX12_cut_1 : decode cX12_cut 1 = .ok (.lconst 0, 1) := by decide +kernel
theorem dX12_cut_2 : decode cX12_cut 2 = .ok (.lcmp, 1) := by decide +kernel
theorem dX12_cut_3 : decode cX12_cut 3 = .ok (.ifCond .ge 7, 3) := by decide +kernel
theorem dX12_cut_6 : decode cX12_cut 6 = .ok (.iconst 0, 1) := by decide +kernel
theorem dX12_cut_7 : decode cX12_cut 7 = .ok (.goto 18, 3) := by decide +kernel
theorem dX12_cut_10 : decode cX12_cut 10 = .ok (.lload_n 0, 1) := by decide +kernel
theorem dX12_cut_11 : decode cX12_cut 11 = .ok (.ldc2_w 255, 3) := by decide +kernel
theorem dX12_cut_14 : decode cX12_cut 14 = .ok (.lcmp, 1) := by decide +kernel
theorem dX12_cut_15 : decode cX12_cut 15 = .ok (.ifCond .le 8, 3) := by decide +kernel
theorem dX12_cut_18 : decode cX12_cut 18 = .ok (.bipush 99, 2) := by decide +kernel
theorem dX12_cut_20 : decode cX12_cut 20 = .ok (.goto 5, 3) := by decide +kernel
theorem dX12_cut_23 : decode cX12_cut 23 = .ok (.lload_n 0, 1) := by decide +kernel
theorem dX12_cut_24 : decode cX12_cut 24 = .ok (.l2i, 1) := by decide +kernel
theorem dX12_cut_25 : decode cX12_cut 25 = .ok (.ireturn, 1) := by decide +kernel
theorem dX12_feed_0 : decode cX12_feed 0 = .ok (.aload_n 0, 1) := by decide +kernel
theorem dX12_feed_1 : decode cX12_feed 1 = .ok (.getfield 257, 3) := by decide +kernel
theorem dX12_feed_4 : decode cX12_feed 4 = .ok (.bipush 20, 2) := by decide +kernel
theorem dX12_feed_6 : decode cX12_feed 6 = .ok (.iadd, 1) := by decide +kernel
theorem dX12_feed_7 : decode cX12_feed 7 = .ok (.sipush 1600, 3) := by decide +kernel
theorem dX12_feed_10 : decode cX12_feed 10 = .ok (.if_icmp .le 15, 3) := by decide +kernel
theorem dX12_feed_13 : decode cX12_feed 13 = .ok (.aload_n 0, 1) := by decide +kernel
theorem dX12_feed_14 : decode cX12_feed 14 = .ok (.getfield 17, 3) := by decide +kernel
theorem dX12_feed_17 : decode cX12_feed 17 = .ok (.iconst 0, 1) := by decide +kernel
theorem dX12_feed_18 : decode cX12_feed 18 = .ok (.dup2, 1) := by decide +kernel
theorem dX12_feed_19 : decode cX12_feed 19 = .ok (.iaload, 1) := by decide +kernel
theorem dX12_feed_20 : decode cX12_feed 20 = .ok (.iconst 1, 1) := by decide +kernel
theorem dX12_feed_21 : decode cX12_feed 21 = .ok (.iadd, 1) := by decide +kernel
theorem dX12_feed_22 : decode cX12_feed 22 = .ok (.iastore, 1) := by decide +kernel
theorem dX12_feed_23 : decode cX12_feed 23 = .ok (.iconst (-1), 1) := by decide +kernel
theorem dX12_feed_24 : decode cX12_feed 24 = .ok (.ireturn, 1) := by decide +kernel
theorem dX12_feed_25 : decode cX12_feed 25 = .ok (.iconst 0, 1) := by decide +kernel
theorem dX12_feed_26 : decode cX12_feed 26 = .ok (.istore 6, 2) := by decide +kernel
theorem dX12_feed_28 : decode cX12_feed 28 = .ok (.iload 6, 2) := by decide +kernel
theorem dX12_feed_30 : decode cX12_feed 30 = .ok (.bipush 20, 2) := by decide +kernel
theorem dX12_feed_32 : decode cX12_feed 32 = .ok (.if_icmp .ge 92, 3) := by decide +kernel
theorem dX12_feed_35 : decode cX12_feed 35 = .ok (.iload 6, 2) := by decide +kernel
theorem dX12_feed_37 : decode cX12_feed 37 = .ok (.iconst 4, 1) := by decide +kernel
theorem dX12_feed_38 : decode cX12_feed 38 = .ok (.if_icmp .ge 7, 3) := by decide +kernel
theorem dX12_feed_41 : decode cX12_feed 41 = .ok (.iload_n 1, 1) := by decide +kernel
theorem dX12_feed_42 : decode cX12_feed 42 = .ok (.goto 39, 3) := by decide +kernel
theorem dX12_feed_45 : decode cX12_feed 45 = .ok (.iload 6, 2) := by decide +kernel
theorem dX12_feed_47 : decode cX12_feed 47 = .ok (.bipush 8, 2) := by decide +kernel
theorem dX12_feed_49 : decode cX12_feed 49 = .ok (.if_icmp .ge 7, 3) := by decide +kernel
theorem dX12_feed_52 : decode cX12_feed 52 = .ok (.iload_n 2, 1) := by decide +kernel
theorem dX12_feed_53 : decode cX12_feed 53 = .ok (.goto 28, 3) := by decide +kernel
theorem dX12_feed_56 : decode cX12_feed 56 = .ok (.iload 6, 2) := by decide +kernel
theorem dX12_feed_58 : decode cX12_feed 58 = .ok (.bipush 12, 2) := by decide +kernel
theorem dX12_feed_60 : decode cX12_feed 60 = .ok (.if_icmp .ge 7, 3) := by decide +kernel
theorem dX12_feed_63 : decode cX12_feed 63 = .ok (.iload_n 3, 1) := by decide +kernel
theorem dX12_feed_64 : decode cX12_feed 64 = .ok (.goto 17, 3) := by decide +kernel
theorem dX12_feed_67 : decode cX12_feed 67 = .ok (.iload 6, 2) := by decide +kernel
theorem dX12_feed_69 : decode cX12_feed 69 = .ok (.bipush 16, 2) := by decide +kernel
theorem dX12_feed_71 : decode cX12_feed 71 = .ok (.if_icmp .ge 8, 3) := by decide +kernel
theorem dX12_feed_74 : decode cX12_feed 74 = .ok (.iload 4, 2) := by decide +kernel
theorem dX12_feed_76 : decode cX12_feed 76 = .ok (.goto 5, 3) := by decide +kernel
theorem dX12_feed_79 : decode cX12_feed 79 = .ok (.iload 5, 2) := by decide +kernel
theorem dX12_feed_81 : decode cX12_feed 81 = .ok (.istore 7, 2) := by decide +kernel
theorem dX12_feed_83 : decode cX12_feed 83 = .ok (.aload_n 0, 1) := by decide +kernel
theorem dX12_feed_84 : decode cX12_feed 84 = .ok (.getfield 7, 3) := by decide +kernel
theorem dX12_feed_87 : decode cX12_feed 87 = .ok (.aload_n 0, 1) := by decide +kernel
theorem dX12_feed_88 : decode cX12_feed 88 = .ok (.getfield 257, 3) := by decide +kernel
theorem dX12_feed_91 : decode cX12_feed 91 = .ok (.iload 7, 2) := by decide +kernel
theorem dX12_feed_93 : decode cX12_feed 93 = .ok (.bipush 8, 2) := by decide +kernel
theorem dX12_feed_95 : decode cX12_feed 95 = .ok (.iconst 3, 1) := by decide +kernel
theorem dX12_feed_96 : decode cX12_feed 96 = .ok (.iload 6, 2) := by decide +kernel
theorem dX12_feed_98 : decode cX12_feed 98 = .ok (.iconst 4, 1) := by decide +kernel
theorem dX12_feed_99 : decode cX12_feed 99 = .ok (.irem, 1) := by decide +kernel
theorem dX12_feed_100 : decode cX12_feed 100 = .ok (.isub, 1) := by decide +kernel
theorem dX12_feed_101 : decode cX12_feed 101 = .ok (.imul, 1) := by decide +kernel
theorem dX12_feed_102 : decode cX12_feed 102 = .ok (.ishr, 1) := by decide +kernel
theorem dX12_feed_103 : decode cX12_feed 103 = .ok (.sipush 255, 3) := by decide +kernel
theorem dX12_feed_106 : decode cX12_feed 106 = .ok (.iand, 1) := by decide +kernel
theorem dX12_feed_107 : decode cX12_feed 107 = .ok (.iastore, 1) := by decide +kernel
theorem dX12_feed_108 : decode cX12_feed 108 = .ok (.aload_n 0, 1) := by decide +kernel
theorem dX12_feed_109 : decode cX12_feed 109 = .ok (.dup, 1) := by decide +kernel
theorem dX12_feed_110 : decode cX12_feed 110 = .ok (.getfield 257, 3) := by decide +kernel
theorem dX12_feed_113 : decode cX12_feed 113 = .ok (.iconst 1, 1) := by decide +kernel
theorem dX12_feed_114 : decode cX12_feed 114 = .ok (.iadd, 1) := by decide +kernel
theorem dX12_feed_115 : decode cX12_feed 115 = .ok (.putfield 257, 3) := by decide +kernel
theorem dX12_feed_118 : decode cX12_feed 118 = .ok (.iinc 6 1, 3) := by decide +kernel
theorem dX12_feed_121 : decode cX12_feed 121 = .ok (.goto (-93), 3) := by decide +kernel
theorem dX12_feed_124 : decode cX12_feed 124 = .ok (.aload_n 0, 1) := by decide +kernel
theorem dX12_feed_125 : decode cX12_feed 125 = .ok (.getfield 257, 3) := by decide +kernel
theorem dX12_feed_128 : decode cX12_feed 128 = .ok (.ireturn, 1) := by decide +kernel
theorem dX12_end_0 : decode cX12_end 0 = .ok (.iload_n 1, 1) := by decide +kernel
theorem dX12_end_1 : decode cX12_end 1 = .ok (.ifCond .lt 11, 3) := by decide +kernel
theorem dX12_end_4 : decode cX12_end 4 = .ok (.iload_n 1, 1) := by decide +kernel
theorem dX12_end_5 : decode cX12_end 5 = .ok (.aload_n 0, 1) := by decide +kernel
theorem dX12_end_6 : decode cX12_end 6 = .ok (.getfield 257, 3) := by decide +kernel
theorem dX12_end_9 : decode cX12_end 9 = .ok (.if_icmp .le 15, 3) := by decide +kernel
theorem dX12_end_12 : decode cX12_end 12 = .ok (.aload_n 0, 1) := by decide +kernel
theorem dX12_end_13 : decode cX12_end 13 = .ok (.getfield 17, 3) := by decide +kernel
theorem dX12_end_16 : decode cX12_end 16 = .ok (.iconst 0, 1) := by decide +kernel
theorem dX12_end_17 : decode cX12_end 17 = .ok (.dup2, 1) := by decide +kernel
theorem dX12_end_18 : decode cX12_end 18 = .ok (.iaload, 1) := by decide +kernel
theorem dX12_end_19 : decode cX12_end 19 = .ok (.iconst 1, 1) := by decide +kernel
theorem dX12_end_20 : decode cX12_end 20 = .ok (.iadd, 1) := by decide +kernel
theorem dX12_end_21 : decode cX12_end 21 = .ok (.iastore, 1) := by decide +kernel
theorem dX12_end_22 : decode cX12_end 22 = .ok (.iconst 0, 1) := by decide +kernel
theorem dX12_end_23 : decode cX12_end 23 = .ok (.ireturn, 1) := by decide +kernel
theorem dX12_end_24 : decode cX12_end 24 = .ok (.aload_n 0, 1) := by decide +kernel
theorem dX12_end_25 : decode cX12_end 25 = .ok (.iload_n 1, 1) := by decide +kernel
theorem dX12_end_26 : decode cX12_end 26 = .ok (.putfield 257, 3) := by decide +kernel
theorem dX12_end_29 : decode cX12_end 29 = .ok (.iconst 1, 1) := by decide +kernel
theorem dX12_end_30 : decode cX12_end 30 = .ok (.ireturn, 1) := by decide +kernel
theorem dX12_fail_0 : decode cX12_fail 0 = .ok (.aload_n 0, 1) := by decide +kernel
theorem dX12_fail_1 : decode cX12_fail 1 = .ok (.getfield 260, 3) := by decide +kernel
theorem dX12_fail_4 : decode cX12_fail 4 = .ok (.ifCond .eq 4, 3) := by decide +kernel
theorem dX12_fail_7 : decode cX12_fail 7 = .ok (.return_, 1) := by decide +kernel
theorem dX12_fail_8 : decode cX12_fail 8 = .ok (.aload_n 0, 1) := by decide +kernel
theorem dX12_fail_9 : decode cX12_fail 9 = .ok (.iload_n 1, 1) := by decide +kernel
theorem dX12_fail_10 : decode cX12_fail 10 = .ok (.putfield 260, 3) := by decide +kernel
theorem dX12_fail_13 : decode cX12_fail 13 = .ok (.aload_n 0, 1) := by decide +kernel
theorem dX12_fail_14 : decode cX12_fail 14 = .ok (.iload_n 2, 1) := by decide +kernel
theorem dX12_fail_15 : decode cX12_fail 15 = .ok (.putfield 263, 3) := by decide +kernel
theorem dX12_fail_18 : decode cX12_fail 18 = .ok (.return_, 1) := by decide +kernel
theorem dX12_isLetter_0 : decode cX12_isLetter 0 = .ok (.iload_n 0, 1) := by decide +kernel
theorem dX12_isLetter_1 : decode cX12_isLetter 1 = .ok (.bipush 97, 2) := by decide +kernel
theorem dX12_isLetter_3 : decode cX12_isLetter 3 = .ok (.if_icmp .lt 13, 3) := by decide +kernel
theorem dX12_isLetter_6 : decode cX12_isLetter 6 = .ok (.iload_n 0, 1) := by decide +kernel
theorem dX12_isLetter_7 : decode cX12_isLetter 7 = .ok (.bipush 122, 2) := by decide +kernel
theorem dX12_isLetter_9 : decode cX12_isLetter 9 = .ok (.if_icmp .gt 7, 3) := by decide +kernel
theorem dX12_isLetter_12 : decode cX12_isLetter 12 = .ok (.iconst 1, 1) := by decide +kernel
theorem dX12_isLetter_13 : decode cX12_isLetter 13 = .ok (.goto 4, 3) := by decide +kernel
theorem dX12_isLetter_16 : decode cX12_isLetter 16 = .ok (.iconst 0, 1) := by decide +kernel
theorem dX12_isLetter_17 : decode cX12_isLetter 17 = .ok (.ireturn, 1) := by decide +kernel
theorem dX12_isDigit_0 : decode cX12_isDigit 0 = .ok (.iload_n 0, 1) := by decide +kernel
theorem dX12_isDigit_1 : decode cX12_isDigit 1 = .ok (.bipush 48, 2) := by decide +kernel
theorem dX12_isDigit_3 : decode cX12_isDigit 3 = .ok (.if_icmp .lt 13, 3) := by decide +kernel
theorem dX12_isDigit_6 : decode cX12_isDigit 6 = .ok (.iload_n 0, 1) := by decide +kernel
theorem dX12_isDigit_7 : decode cX12_isDigit 7 = .ok (.bipush 57, 2) := by decide +kernel
theorem dX12_isDigit_9 : decode cX12_isDigit 9 = .ok (.if_icmp .gt 7, 3) := by decide +kernel
theorem dX12_isDigit_12 : decode cX12_isDigit 12 = .ok (.iconst 1, 1) := by decide +kernel
theorem dX12_isDigit_13 : decode cX12_isDigit 13 = .ok (.goto 4, 3) := by decide +kernel
theorem dX12_isDigit_16 : decode cX12_isDigit 16 = .ok (.iconst 0, 1) := by decide +kernel
theorem dX12_isDigit_17 : decode cX12_isDigit 17 = .ok (.ireturn, 1) := by decide +kernel
theorem dX12_look_0 : decode cX12_look 0 = .ok (.aload_n 0, 1) := by decide +kernel
theorem dX12_look_1 : decode cX12_look 1 = .ok (.getfield 266, 3) := by decide +kernel
theorem dX12_look_4 : decode cX12_look 4 = .ok (.aload_n 0, 1) := by decide +kernel
theorem dX12_look_5 : decode cX12_look 5 = .ok (.getfield 269, 3) := by decide +kernel
theorem dX12_look_8 : decode cX12_look 8 = .ok (.if_icmp .ge 44, 3) := by decide +kernel
theorem dX12_look_11 : decode cX12_look 11 = .ok (.aload_n 0, 1) := by decide +kernel
theorem dX12_look_12 : decode cX12_look 12 = .ok (.getfield 7, 3) := by decide +kernel
theorem dX12_look_15 : decode cX12_look 15 = .ok (.aload_n 0, 1) := by decide +kernel
theorem dX12_look_16 : decode cX12_look 16 = .ok (.getfield 266, 3) := by decide +kernel
theorem dX12_look_19 : decode cX12_look 19 = .ok (.iaload, 1) := by decide +kernel
theorem dX12_look_20 : decode cX12_look 20 = .ok (.bipush 10, 2) := by decide +kernel
theorem dX12_look_22 : decode cX12_look 22 = .ok (.if_icmp .eq 17, 3) := by decide +kernel
theorem dX12_look_25 : decode cX12_look 25 = .ok (.aload_n 0, 1) := by decide +kernel
theorem dX12_look_26 : decode cX12_look 26 = .ok (.getfield 7, 3) := by decide +kernel
theorem dX12_look_29 : decode cX12_look 29 = .ok (.aload_n 0, 1) := by decide +kernel
theorem dX12_look_30 : decode cX12_look 30 = .ok (.getfield 266, 3) := by decide +kernel
theorem dX12_look_33 : decode cX12_look 33 = .ok (.iaload, 1) := by decide +kernel
theorem dX12_look_34 : decode cX12_look 34 = .ok (.bipush 32, 2) := by decide +kernel
theorem dX12_look_36 : decode cX12_look 36 = .ok (.if_icmp .ne 16, 3) := by decide +kernel
theorem dX12_look_39 : decode cX12_look 39 = .ok (.aload_n 0, 1) := by decide +kernel
theorem dX12_look_40 : decode cX12_look 40 = .ok (.dup, 1) := by decide +kernel
theorem dX12_look_41 : decode cX12_look 41 = .ok (.getfield 266, 3) := by decide +kernel
theorem dX12_look_44 : decode cX12_look 44 = .ok (.iconst 1, 1) := by decide +kernel
theorem dX12_look_45 : decode cX12_look 45 = .ok (.iadd, 1) := by decide +kernel
theorem dX12_look_46 : decode cX12_look 46 = .ok (.putfield 266, 3) := by decide +kernel
theorem dX12_look_49 : decode cX12_look 49 = .ok (.goto (-49), 3) := by decide +kernel
theorem dX12_look_52 : decode cX12_look 52 = .ok (.aload_n 0, 1) := by decide +kernel
theorem dX12_look_53 : decode cX12_look 53 = .ok (.getfield 266, 3) := by decide +kernel
theorem dX12_look_56 : decode cX12_look 56 = .ok (.aload_n 0, 1) := by decide +kernel
theorem dX12_look_57 : decode cX12_look 57 = .ok (.getfield 269, 3) := by decide +kernel
theorem dX12_look_60 : decode cX12_look 60 = .ok (.if_icmp .ge 15, 3) := by decide +kernel
theorem dX12_look_63 : decode cX12_look 63 = .ok (.aload_n 0, 1) := by decide +kernel
theorem dX12_look_64 : decode cX12_look 64 = .ok (.getfield 7, 3) := by decide +kernel
theorem dX12_look_67 : decode cX12_look 67 = .ok (.aload_n 0, 1) := by decide +kernel
theorem dX12_look_68 : decode cX12_look 68 = .ok (.getfield 266, 3) := by decide +kernel
theorem dX12_look_71 : decode cX12_look 71 = .ok (.iaload, 1) := by decide +kernel
theorem dX12_look_72 : decode cX12_look 72 = .ok (.goto 4, 3) := by decide +kernel
theorem dX12_look_75 : decode cX12_look 75 = .ok (.iconst (-1), 1) := by decide +kernel
theorem dX12_look_76 : decode cX12_look 76 = .ok (.ireturn, 1) := by decide +kernel
theorem dX12_isHere_0 : decode cX12_isHere 0 = .ok (.aload_n 0, 1) := by decide +kernel
theorem dX12_isHere_1 : decode cX12_isHere 1 = .ok (.getfield 260, 3) := by decide +kernel
theorem dX12_isHere_4 : decode cX12_isHere 4 = .ok (.ifCond .ne 24, 3) := by decide +kernel
theorem dX12_isHere_7 : decode cX12_isHere 7 = .ok (.aload_n 0, 1) := by decide +kernel
theorem dX12_isHere_8 : decode cX12_isHere 8 = .ok (.invokevirtual 272, 3) := by decide +kernel
theorem dX12_isHere_11 : decode cX12_isHere 11 = .ok (.invokestatic 276, 3) := by decide +kernel
theorem dX12_isHere_14 : decode cX12_isHere 14 = .ok (.ifCond .eq 14, 3) := by decide +kernel
theorem dX12_isHere_17 : decode cX12_isHere 17 = .ok (.aload_n 0, 1) := by decide +kernel
theorem dX12_isHere_18 : decode cX12_isHere 18 = .ok (.getfield 266, 3) := by decide +kernel
theorem dX12_isHere_21 : decode cX12_isHere 21 = .ok (.aload_n 0, 1) := by decide +kernel
theorem dX12_isHere_22 : decode cX12_isHere 22 = .ok (.getfield 280, 3) := by decide +kernel
theorem dX12_isHere_25 : decode cX12_isHere 25 = .ok (.if_icmp .ne 5, 3) := by decide +kernel
theorem dX12_isHere_28 : decode cX12_isHere 28 = .ok (.iconst 0, 1) := by decide +kernel
theorem dX12_isHere_29 : decode cX12_isHere 29 = .ok (.ireturn, 1) := by decide +kernel
theorem dX12_isHere_30 : decode cX12_isHere 30 = .ok (.aload_n 0, 1) := by decide +kernel
theorem dX12_isHere_31 : decode cX12_isHere 31 = .ok (.getfield 266, 3) := by decide +kernel
theorem dX12_isHere_34 : decode cX12_isHere 34 = .ok (.istore_n 2, 1) := by decide +kernel
theorem dX12_isHere_35 : decode cX12_isHere 35 = .ok (.iload_n 2, 1) := by decide +kernel
theorem dX12_isHere_36 : decode cX12_isHere 36 = .ok (.aload_n 0, 1) := by decide +kernel
theorem dX12_isHere_37 : decode cX12_isHere 37 = .ok (.getfield 269, 3) := by decide +kernel
theorem dX12_isHere_40 : decode cX12_isHere 40 = .ok (.if_icmp .ge 21, 3) := by decide +kernel
theorem dX12_isHere_43 : decode cX12_isHere 43 = .ok (.aload_n 0, 1) := by decide +kernel
theorem dX12_isHere_44 : decode cX12_isHere 44 = .ok (.getfield 7, 3) := by decide +kernel
theorem dX12_isHere_47 : decode cX12_isHere 47 = .ok (.iload_n 2, 1) := by decide +kernel
theorem dX12_isHere_48 : decode cX12_isHere 48 = .ok (.iaload, 1) := by decide +kernel
theorem dX12_isHere_49 : decode cX12_isHere 49 = .ok (.invokestatic 276, 3) := by decide +kernel
theorem dX12_isHere_52 : decode cX12_isHere 52 = .ok (.ifCond .eq 9, 3) := by decide +kernel
theorem dX12_isHere_55 : decode cX12_isHere 55 = .ok (.iinc 2 1, 3) := by decide +kernel
theorem dX12_isHere_58 : decode cX12_isHere 58 = .ok (.goto (-23), 3) := by decide +kernel
theorem dX12_isHere_61 : decode cX12_isHere 61 = .ok (.iload_n 2, 1) := by decide +kernel
theorem dX12_isHere_62 : decode cX12_isHere 62 = .ok (.aload_n 0, 1) := by decide +kernel
theorem dX12_isHere_63 : decode cX12_isHere 63 = .ok (.getfield 266, 3) := by decide +kernel
theorem dX12_isHere_66 : decode cX12_isHere 66 = .ok (.isub, 1) := by decide +kernel
theorem dX12_isHere_67 : decode cX12_isHere 67 = .ok (.aload_n 1, 1) := by decide +kernel
theorem dX12_isHere_68 : decode cX12_isHere 68 = .ok (.arraylength, 1) := by decide +kernel
theorem dX12_isHere_69 : decode cX12_isHere 69 = .ok (.if_icmp .eq 5, 3) := by decide +kernel
theorem dX12_isHere_72 : decode cX12_isHere 72 = .ok (.iconst 0, 1) := by decide +kernel
theorem dX12_isHere_73 : decode cX12_isHere 73 = .ok (.ireturn, 1) := by decide +kernel
theorem dX12_isHere_74 : decode cX12_isHere 74 = .ok (.iconst 0, 1) := by decide +kernel
theorem dX12_isHere_75 : decode cX12_isHere 75 = .ok (.istore_n 3, 1) := by decide +kernel
theorem dX12_isHere_76 : decode cX12_isHere 76 = .ok (.iload_n 3, 1) := by decide +kernel
theorem dX12_isHere_77 : decode cX12_isHere 77 = .ok (.aload_n 1, 1) := by decide +kernel
theorem dX12_isHere_78 : decode cX12_isHere 78 = .ok (.arraylength, 1) := by decide +kernel
theorem dX12_isHere_79 : decode cX12_isHere 79 = .ok (.if_icmp .ge 28, 3) := by decide +kernel
theorem dX12_isHere_82 : decode cX12_isHere 82 = .ok (.aload_n 0, 1) := by decide +kernel
theorem dX12_isHere_83 : decode cX12_isHere 83 = .ok (.getfield 7, 3) := by decide +kernel
theorem dX12_isHere_86 : decode cX12_isHere 86 = .ok (.aload_n 0, 1) := by decide +kernel
theorem dX12_isHere_87 : decode cX12_isHere 87 = .ok (.getfield 266, 3) := by decide +kernel
theorem dX12_isHere_90 : decode cX12_isHere 90 = .ok (.iload_n 3, 1) := by decide +kernel
theorem dX12_isHere_91 : decode cX12_isHere 91 = .ok (.iadd, 1) := by decide +kernel
theorem dX12_isHere_92 : decode cX12_isHere 92 = .ok (.iaload, 1) := by decide +kernel
theorem dX12_isHere_93 : decode cX12_isHere 93 = .ok (.aload_n 1, 1) := by decide +kernel
theorem dX12_isHere_94 : decode cX12_isHere 94 = .ok (.iload_n 3, 1) := by decide +kernel
theorem dX12_isHere_95 : decode cX12_isHere 95 = .ok (.caload, 1) := by decide +kernel
theorem dX12_isHere_96 : decode cX12_isHere 96 = .ok (.if_icmp .eq 5, 3) := by decide +kernel
theorem dX12_isHere_99 : decode cX12_isHere 99 = .ok (.iconst 0, 1) := by decide +kernel
theorem dX12_isHere_100 : decode cX12_isHere 100 = .ok (.ireturn, 1) := by decide +kernel
theorem dX12_isHere_101 : decode cX12_isHere 101 = .ok (.iinc 3 1, 3) := by decide +kernel
theorem dX12_isHere_104 : decode cX12_isHere 104 = .ok (.goto (-28), 3) := by decide +kernel
theorem dX12_isHere_107 : decode cX12_isHere 107 = .ok (.iconst 1, 1) := by decide +kernel
theorem dX12_isHere_108 : decode cX12_isHere 108 = .ok (.ireturn, 1) := by decide +kernel
theorem dX12_takes_0 : decode cX12_takes 0 = .ok (.aload_n 0, 1) := by decide +kernel
theorem dX12_takes_1 : decode cX12_takes 1 = .ok (.aload_n 1, 1) := by decide +kernel
theorem dX12_takes_2 : decode cX12_takes 2 = .ok (.invokevirtual 283, 3) := by decide +kernel
theorem dX12_takes_5 : decode cX12_takes 5 = .ok (.ifCond .ne 5, 3) := by decide +kernel
theorem dX12_takes_8 : decode cX12_takes 8 = .ok (.iconst 0, 1) := by decide +kernel
theorem dX12_takes_9 : decode cX12_takes 9 = .ok (.ireturn, 1) := by decide +kernel
theorem dX12_takes_10 : decode cX12_takes 10 = .ok (.aload_n 0, 1) := by decide +kernel
theorem dX12_takes_11 : decode cX12_takes 11 = .ok (.dup, 1) := by decide +kernel
theorem dX12_takes_12 : decode cX12_takes 12 = .ok (.getfield 266, 3) := by decide +kernel
theorem dX12_takes_15 : decode cX12_takes 15 = .ok (.aload_n 1, 1) := by decide +kernel
theorem dX12_takes_16 : decode cX12_takes 16 = .ok (.arraylength, 1) := by decide +kernel
theorem dX12_takes_17 : decode cX12_takes 17 = .ok (.iadd, 1) := by decide +kernel
theorem dX12_takes_18 : decode cX12_takes 18 = .ok (.putfield 266, 3) := by decide +kernel
theorem dX12_takes_21 : decode cX12_takes 21 = .ok (.aload_n 0, 1) := by decide +kernel
theorem dX12_takes_22 : decode cX12_takes 22 = .ok (.aload_n 0, 1) := by decide +kernel
theorem dX12_takes_23 : decode cX12_takes 23 = .ok (.getfield 266, 3) := by decide +kernel
theorem dX12_takes_26 : decode cX12_takes 26 = .ok (.putfield 280, 3) := by decide +kernel
theorem dX12_takes_29 : decode cX12_takes 29 = .ok (.iconst 1, 1) := by decide +kernel
theorem dX12_takes_30 : decode cX12_takes 30 = .ok (.ireturn, 1) := by decide +kernel
theorem dX12_asks_0 : decode cX12_asks 0 = .ok (.aload_n 0, 1) := by decide +kernel
theorem dX12_asks_1 : decode cX12_asks 1 = .ok (.getfield 260, 3) := by decide +kernel
theorem dX12_asks_4 : decode cX12_asks 4 = .ok (.ifCond .ne 20, 3) := by decide +kernel
theorem dX12_asks_7 : decode cX12_asks 7 = .ok (.aload_n 0, 1) := by decide +kernel
theorem dX12_asks_8 : decode cX12_asks 8 = .ok (.aload_n 1, 1) := by decide +kernel
theorem dX12_asks_9 : decode cX12_asks 9 = .ok (.invokevirtual 287, 3) := by decide +kernel
theorem dX12_asks_12 : decode cX12_asks 12 = .ok (.ifCond .ne 12, 3) := by decide +kernel
theorem dX12_asks_15 : decode cX12_asks 15 = .ok (.aload_n 0, 1) := by decide +kernel
theorem dX12_asks_16 : decode cX12_asks 16 = .ok (.iconst 1, 1) := by decide +kernel
theorem dX12_asks_17 : decode cX12_asks 17 = .ok (.aload_n 0, 1) := by decide +kernel
theorem dX12_asks_18 : decode cX12_asks 18 = .ok (.getfield 266, 3) := by decide +kernel
theorem dX12_asks_21 : decode cX12_asks 21 = .ok (.invokevirtual 290, 3) := by decide +kernel
theorem dX12_asks_24 : decode cX12_asks 24 = .ok (.return_, 1) := by decide +kernel
theorem dX12_takesSign_0 : decode cX12_takesSign 0 = .ok (.aload_n 0, 1) := by decide +kernel
theorem dX12_takesSign_1 : decode cX12_takesSign 1 = .ok (.getfield 260, 3) := by decide +kernel
theorem dX12_takesSign_4 : decode cX12_takesSign 4 = .ok (.ifCond .ne 11, 3) := by decide +kernel
theorem dX12_takesSign_7 : decode cX12_takesSign 7 = .ok (.aload_n 0, 1) := by decide +kernel
theorem dX12_takesSign_8 : decode cX12_takesSign 8 = .ok (.invokevirtual 272, 3) := by decide +kernel
theorem dX12_takesSign_11 : decode cX12_takesSign 11 = .ok (.iload_n 1, 1) := by decide +kernel
theorem dX12_takesSign_12 : decode cX12_takesSign 12 = .ok (.if_icmp .eq 5, 3) := by decide +kernel
theorem dX12_takesSign_15 : decode cX12_takesSign 15 = .ok (.iconst 0, 1) := by decide +kernel
theorem dX12_takesSign_16 : decode cX12_takesSign 16 = .ok (.ireturn, 1) := by decide +kernel
theorem dX12_takesSign_17 : decode cX12_takesSign 17 = .ok (.aload_n 0, 1) := by decide +kernel
theorem dX12_takesSign_18 : decode cX12_takesSign 18 = .ok (.dup, 1) := by decide +kernel
theorem dX12_takesSign_19 : decode cX12_takesSign 19 = .ok (.getfield 266, 3) := by decide +kernel
theorem dX12_takesSign_22 : decode cX12_takesSign 22 = .ok (.iconst 1, 1) := by decide +kernel
theorem dX12_takesSign_23 : decode cX12_takesSign 23 = .ok (.iadd, 1) := by decide +kernel
theorem dX12_takesSign_24 : decode cX12_takesSign 24 = .ok (.putfield 266, 3) := by decide +kernel
theorem dX12_takesSign_27 : decode cX12_takesSign 27 = .ok (.iconst 1, 1) := by decide +kernel
theorem dX12_takesSign_28 : decode cX12_takesSign 28 = .ok (.ireturn, 1) := by decide +kernel
theorem dX12_asksSign_0 : decode cX12_asksSign 0 = .ok (.aload_n 0, 1) := by decide +kernel
theorem dX12_asksSign_1 : decode cX12_asksSign 1 = .ok (.getfield 260, 3) := by decide +kernel
theorem dX12_asksSign_4 : decode cX12_asksSign 4 = .ok (.ifCond .ne 20, 3) := by decide +kernel
theorem dX12_asksSign_7 : decode cX12_asksSign 7 = .ok (.aload_n 0, 1) := by decide +kernel
theorem dX12_asksSign_8 : decode cX12_asksSign 8 = .ok (.iload_n 1, 1) := by decide +kernel
theorem dX12_asksSign_9 : decode cX12_asksSign 9 = .ok (.invokevirtual 294, 3) := by decide +kernel
theorem dX12_asksSign_12 : decode cX12_asksSign 12 = .ok (.ifCond .ne 12, 3) := by decide +kernel
theorem dX12_asksSign_15 : decode cX12_asksSign 15 = .ok (.aload_n 0, 1) := by decide +kernel
theorem dX12_asksSign_16 : decode cX12_asksSign 16 = .ok (.iconst 1, 1) := by decide +kernel
theorem dX12_asksSign_17 : decode cX12_asksSign 17 = .ok (.aload_n 0, 1) := by decide +kernel
theorem dX12_asksSign_18 : decode cX12_asksSign 18 = .ok (.getfield 266, 3) := by decide +kernel
theorem dX12_asksSign_21 : decode cX12_asksSign 21 = .ok (.invokevirtual 290, 3) := by decide +kernel
theorem dX12_asksSign_24 : decode cX12_asksSign 24 = .ok (.return_, 1) := by decide +kernel
theorem dX12_number_0 : decode cX12_number 0 = .ok (.aload_n 0, 1) := by decide +kernel
theorem dX12_number_1 : decode cX12_number 1 = .ok (.getfield 260, 3) := by decide +kernel
theorem dX12_number_4 : decode cX12_number 4 = .ok (.ifCond .eq 5, 3) := by decide +kernel
theorem dX12_number_7 : decode cX12_number 7 = .ok (.iconst 0, 1) := by decide +kernel
theorem dX12_number_8 : decode cX12_number 8 = .ok (.ireturn, 1) := by decide +kernel
theorem dX12_number_9 : decode cX12_number 9 = .ok (.aload_n 0, 1) := by decide +kernel
theorem dX12_number_10 : decode cX12_number 10 = .ok (.invokevirtual 272, 3) := by decide +kernel
theorem dX12_number_13 : decode cX12_number 13 = .ok (.invokestatic 297, 3) := by decide +kernel
theorem dX12_number_16 : decode cX12_number 16 = .ok (.ifCond .eq 14, 3) := by decide +kernel
theorem dX12_number_19 : decode cX12_number 19 = .ok (.aload_n 0, 1) := by decide +kernel
theorem dX12_number_20 : decode cX12_number 20 = .ok (.getfield 266, 3) := by decide +kernel
theorem dX12_number_23 : decode cX12_number 23 = .ok (.aload_n 0, 1) := by decide +kernel
theorem dX12_number_24 : decode cX12_number 24 = .ok (.getfield 280, 3) := by decide +kernel
theorem dX12_number_27 : decode cX12_number 27 = .ok (.if_icmp .ne 14, 3) := by decide +kernel
theorem dX12_number_30 : decode cX12_number 30 = .ok (.aload_n 0, 1) := by decide +kernel
theorem dX12_number_31 : decode cX12_number 31 = .ok (.iconst 1, 1) := by decide +kernel
theorem dX12_number_32 : decode cX12_number 32 = .ok (.aload_n 0, 1) := by decide +kernel
theorem dX12_number_33 : decode cX12_number 33 = .ok (.getfield 266, 3) := by decide +kernel
theorem dX12_number_36 : decode cX12_number 36 = .ok (.invokevirtual 290, 3) := by decide +kernel
theorem dX12_number_39 : decode cX12_number 39 = .ok (.iconst 0, 1) := by decide +kernel
theorem dX12_number_40 : decode cX12_number 40 = .ok (.ireturn, 1) := by decide +kernel
theorem dX12_number_41 : decode cX12_number 41 = .ok (.aload_n 0, 1) := by decide +kernel
theorem dX12_number_42 : decode cX12_number 42 = .ok (.getfield 266, 3) := by decide +kernel
theorem dX12_number_45 : decode cX12_number 45 = .ok (.istore_n 3, 1) := by decide +kernel
theorem dX12_number_46 : decode cX12_number 46 = .ok (.iconst 0, 1) := by decide +kernel
theorem dX12_number_47 : decode cX12_number 47 = .ok (.istore 4, 2) := by decide +kernel
theorem dX12_number_49 : decode cX12_number 49 = .ok (.aload_n 0, 1) := by decide +kernel
theorem dX12_number_50 : decode cX12_number 50 = .ok (.getfield 266, 3) := by decide +kernel
theorem dX12_number_53 : decode cX12_number 53 = .ok (.aload_n 0, 1) := by decide +kernel
theorem dX12_number_54 : decode cX12_number 54 = .ok (.getfield 269, 3) := by decide +kernel
theorem dX12_number_57 : decode cX12_number 57 = .ok (.if_icmp .ge 72, 3) := by decide +kernel
theorem dX12_number_60 : decode cX12_number 60 = .ok (.aload_n 0, 1) := by decide +kernel
theorem dX12_number_61 : decode cX12_number 61 = .ok (.getfield 7, 3) := by decide +kernel
theorem dX12_number_64 : decode cX12_number 64 = .ok (.aload_n 0, 1) := by decide +kernel
theorem dX12_number_65 : decode cX12_number 65 = .ok (.getfield 266, 3) := by decide +kernel
theorem dX12_number_68 : decode cX12_number 68 = .ok (.iaload, 1) := by decide +kernel
theorem dX12_number_69 : decode cX12_number 69 = .ok (.invokestatic 297, 3) := by decide +kernel
theorem dX12_number_72 : decode cX12_number 72 = .ok (.ifCond .eq 57, 3) := by decide +kernel
theorem dX12_number_75 : decode cX12_number 75 = .ok (.aload_n 0, 1) := by decide +kernel
theorem dX12_number_76 : decode cX12_number 76 = .ok (.getfield 266, 3) := by decide +kernel
theorem dX12_number_79 : decode cX12_number 79 = .ok (.iload_n 3, 1) := by decide +kernel
theorem dX12_number_80 : decode cX12_number 80 = .ok (.isub, 1) := by decide +kernel
theorem dX12_number_81 : decode cX12_number 81 = .ok (.iconst 4, 1) := by decide +kernel
theorem dX12_number_82 : decode cX12_number 82 = .ok (.if_icmp .ne 14, 3) := by decide +kernel
theorem dX12_number_85 : decode cX12_number 85 = .ok (.aload_n 0, 1) := by decide +kernel
theorem dX12_number_86 : decode cX12_number 86 = .ok (.iconst 1, 1) := by decide +kernel
theorem dX12_number_87 : decode cX12_number 87 = .ok (.aload_n 0, 1) := by decide +kernel
theorem dX12_number_88 : decode cX12_number 88 = .ok (.getfield 266, 3) := by decide +kernel
theorem dX12_number_91 : decode cX12_number 91 = .ok (.invokevirtual 290, 3) := by decide +kernel
theorem dX12_number_94 : decode cX12_number 94 = .ok (.iconst 0, 1) := by decide +kernel
theorem dX12_number_95 : decode cX12_number 95 = .ok (.ireturn, 1) := by decide +kernel
theorem dX12_number_96 : decode cX12_number 96 = .ok (.bipush 10, 2) := by decide +kernel
theorem dX12_number_98 : decode cX12_number 98 = .ok (.iload 4, 2) := by decide +kernel
theorem dX12_number_100 : decode cX12_number 100 = .ok (.imul, 1) := by decide +kernel
theorem dX12_number_101 : decode cX12_number 101 = .ok (.aload_n 0, 1) := by decide +kernel
theorem dX12_number_102 : decode cX12_number 102 = .ok (.getfield 7, 3) := by decide +kernel
theorem dX12_number_105 : decode cX12_number 105 = .ok (.aload_n 0, 1) := by decide +kernel
theorem dX12_number_106 : decode cX12_number 106 = .ok (.getfield 266, 3) := by decide +kernel
theorem dX12_number_109 : decode cX12_number 109 = .ok (.iaload, 1) := by decide +kernel
theorem dX12_number_110 : decode cX12_number 110 = .ok (.iadd, 1) := by decide +kernel
theorem dX12_number_111 : decode cX12_number 111 = .ok (.bipush 48, 2) := by decide +kernel
theorem dX12_number_113 : decode cX12_number 113 = .ok (.isub, 1) := by decide +kernel
theorem dX12_number_114 : decode cX12_number 114 = .ok (.istore 4, 2) := by decide +kernel
theorem dX12_number_116 : decode cX12_number 116 = .ok (.aload_n 0, 1) := by decide +kernel
theorem dX12_number_117 : decode cX12_number 117 = .ok (.dup, 1) := by decide +kernel
theorem dX12_number_118 : decode cX12_number 118 = .ok (.getfield 266, 3) := by decide +kernel
theorem dX12_number_121 : decode cX12_number 121 = .ok (.iconst 1, 1) := by decide +kernel
theorem dX12_number_122 : decode cX12_number 122 = .ok (.iadd, 1) := by decide +kernel
theorem dX12_number_123 : decode cX12_number 123 = .ok (.putfield 266, 3) := by decide +kernel
theorem dX12_number_126 : decode cX12_number 126 = .ok (.goto (-77), 3) := by decide +kernel
theorem dX12_number_129 : decode cX12_number 129 = .ok (.aload_n 0, 1) := by decide +kernel
theorem dX12_number_130 : decode cX12_number 130 = .ok (.aload_n 0, 1) := by decide +kernel
theorem dX12_number_131 : decode cX12_number 131 = .ok (.getfield 266, 3) := by decide +kernel
theorem dX12_number_134 : decode cX12_number 134 = .ok (.putfield 280, 3) := by decide +kernel
theorem dX12_number_137 : decode cX12_number 137 = .ok (.aload_n 0, 1) := by decide +kernel
theorem dX12_number_138 : decode cX12_number 138 = .ok (.iload_n 3, 1) := by decide +kernel
theorem dX12_number_139 : decode cX12_number 139 = .ok (.putfield 300, 3) := by decide +kernel
theorem dX12_number_142 : decode cX12_number 142 = .ok (.iload 4, 2) := by decide +kernel
theorem dX12_number_144 : decode cX12_number 144 = .ok (.i2l, 1) := by decide +kernel
theorem dX12_number_145 : decode cX12_number 145 = .ok (.iload_n 1, 1) := by decide +kernel
theorem dX12_number_146 : decode cX12_number 146 = .ok (.i2l, 1) := by decide +kernel
theorem dX12_number_147 : decode cX12_number 147 = .ok (.iload_n 2, 1) := by decide +kernel
theorem dX12_number_148 : decode cX12_number 148 = .ok (.i2l, 1) := by decide +kernel
theorem dX12_number_149 : decode cX12_number 149 = .ok (.invokestatic 303, 3) := by decide +kernel
theorem dX12_number_152 : decode cX12_number 152 = .ok (.ifCond .ne 12, 3) := by decide +kernel
theorem dX12_number_155 : decode cX12_number 155 = .ok (.aload_n 0, 1) := by decide +kernel
theorem dX12_number_156 : decode cX12_number 156 = .ok (.iconst 2, 1) := by decide +kernel
theorem dX12_number_157 : decode cX12_number 157 = .ok (.aload_n 0, 1) := by decide +kernel
theorem dX12_number_158 : decode cX12_number 158 = .ok (.getfield 300, 3) := by decide +kernel
theorem dX12_number_161 : decode cX12_number 161 = .ok (.invokevirtual 290, 3) := by decide +kernel
theorem dX12_number_164 : decode cX12_number 164 = .ok (.iload 4, 2) := by decide +kernel
theorem dX12_number_166 : decode cX12_number 166 = .ok (.ireturn, 1) := by decide +kernel
theorem dX12_isOwnHere_0 : decode cX12_isOwnHere 0 = .ok (.aload_n 0, 1) := by decide +kernel
theorem dX12_isOwnHere_1 : decode cX12_isOwnHere 1 = .ok (.aload_n 0, 1) := by decide +kernel
theorem dX12_isOwnHere_2 : decode cX12_isOwnHere 2 = .ok (.getfield 20, 3) := by decide +kernel
theorem dX12_isOwnHere_5 : decode cX12_isOwnHere 5 = .ok (.invokevirtual 283, 3) := by decide +kernel
theorem dX12_isOwnHere_8 : decode cX12_isOwnHere 8 = .ok (.ifCond .ne 58, 3) := by decide +kernel
theorem dX12_isOwnHere_11 : decode cX12_isOwnHere 11 = .ok (.aload_n 0, 1) := by decide +kernel
theorem dX12_isOwnHere_12 : decode cX12_isOwnHere 12 = .ok (.aload_n 0, 1) := by decide +kernel
theorem dX12_isOwnHere_13 : decode cX12_isOwnHere 13 = .ok (.getfield 24, 3) := by decide +kernel
theorem dX12_isOwnHere_16 : decode cX12_isOwnHere 16 = .ok (.invokevirtual 283, 3) := by decide +kernel
theorem dX12_isOwnHere_19 : decode cX12_isOwnHere 19 = .ok (.ifCond .ne 47, 3) := by decide +kernel
theorem dX12_isOwnHere_22 : decode cX12_isOwnHere 22 = .ok (.aload_n 0, 1) := by decide +kernel
theorem dX12_isOwnHere_23 : decode cX12_isOwnHere 23 = .ok (.aload_n 0, 1) := by decide +kernel
theorem dX12_isOwnHere_24 : decode cX12_isOwnHere 24 = .ok (.getfield 27, 3) := by decide +kernel
theorem dX12_isOwnHere_27 : decode cX12_isOwnHere 27 = .ok (.invokevirtual 283, 3) := by decide +kernel
theorem dX12_isOwnHere_30 : decode cX12_isOwnHere 30 = .ok (.ifCond .ne 36, 3) := by decide +kernel
theorem dX12_isOwnHere_33 : decode cX12_isOwnHere 33 = .ok (.aload_n 0, 1) := by decide +kernel
theorem dX12_isOwnHere_34 : decode cX12_isOwnHere 34 = .ok (.aload_n 0, 1) := by decide +kernel
theorem dX12_isOwnHere_35 : decode cX12_isOwnHere 35 = .ok (.getfield 30, 3) := by decide +kernel
theorem dX12_isOwnHere_38 : decode cX12_isOwnHere 38 = .ok (.invokevirtual 283, 3) := by decide +kernel
theorem dX12_isOwnHere_41 : decode cX12_isOwnHere 41 = .ok (.ifCond .ne 25, 3) := by decide +kernel
theorem dX12_isOwnHere_44 : decode cX12_isOwnHere 44 = .ok (.aload_n 0, 1) := by decide +kernel
theorem dX12_isOwnHere_45 : decode cX12_isOwnHere 45 = .ok (.aload_n 0, 1) := by decide +kernel
theorem dX12_isOwnHere_46 : decode cX12_isOwnHere 46 = .ok (.getfield 33, 3) := by decide +kernel
theorem dX12_isOwnHere_49 : decode cX12_isOwnHere 49 = .ok (.invokevirtual 283, 3) := by decide +kernel
theorem dX12_isOwnHere_52 : decode cX12_isOwnHere 52 = .ok (.ifCond .ne 14, 3) := by decide +kernel
theorem dX12_isOwnHere_55 : decode cX12_isOwnHere 55 = .ok (.aload_n 0, 1) := by decide +kernel
theorem dX12_isOwnHere_56 : decode cX12_isOwnHere 56 = .ok (.aload_n 0, 1) := by decide +kernel
theorem dX12_isOwnHere_57 : decode cX12_isOwnHere 57 = .ok (.getfield 36, 3) := by decide +kernel
theorem dX12_isOwnHere_60 : decode cX12_isOwnHere 60 = .ok (.invokevirtual 283, 3) := by decide +kernel
theorem dX12_isOwnHere_63 : decode cX12_isOwnHere 63 = .ok (.ifCond .eq 7, 3) := by decide +kernel
theorem dX12_isOwnHere_66 : decode cX12_isOwnHere 66 = .ok (.iconst 1, 1) := by decide +kernel
theorem dX12_isOwnHere_67 : decode cX12_isOwnHere 67 = .ok (.goto 4, 3) := by decide +kernel
theorem dX12_isOwnHere_70 : decode cX12_isOwnHere 70 = .ok (.iconst 0, 1) := by decide +kernel
theorem dX12_isOwnHere_71 : decode cX12_isOwnHere 71 = .ok (.istore_n 1, 1) := by decide +kernel
theorem dX12_isOwnHere_72 : decode cX12_isOwnHere 72 = .ok (.iload_n 1, 1) := by decide +kernel
theorem dX12_isOwnHere_73 : decode cX12_isOwnHere 73 = .ok (.ifCond .ne 69, 3) := by decide +kernel
theorem dX12_isOwnHere_76 : decode cX12_isOwnHere 76 = .ok (.aload_n 0, 1) := by decide +kernel
theorem dX12_isOwnHere_77 : decode cX12_isOwnHere 77 = .ok (.aload_n 0, 1) := by decide +kernel
theorem dX12_isOwnHere_78 : decode cX12_isOwnHere 78 = .ok (.getfield 39, 3) := by decide +kernel
theorem dX12_isOwnHere_81 : decode cX12_isOwnHere 81 = .ok (.invokevirtual 283, 3) := by decide +kernel
theorem dX12_isOwnHere_84 : decode cX12_isOwnHere 84 = .ok (.ifCond .ne 58, 3) := by decide +kernel
theorem dX12_isOwnHere_87 : decode cX12_isOwnHere 87 = .ok (.aload_n 0, 1) := by decide +kernel
theorem dX12_isOwnHere_88 : decode cX12_isOwnHere 88 = .ok (.aload_n 0, 1) := by decide +kernel
theorem dX12_isOwnHere_89 : decode cX12_isOwnHere 89 = .ok (.getfield 42, 3) := by decide +kernel
theorem dX12_isOwnHere_92 : decode cX12_isOwnHere 92 = .ok (.invokevirtual 283, 3) := by decide +kernel
theorem dX12_isOwnHere_95 : decode cX12_isOwnHere 95 = .ok (.ifCond .ne 47, 3) := by decide +kernel
theorem dX12_isOwnHere_98 : decode cX12_isOwnHere 98 = .ok (.aload_n 0, 1) := by decide +kernel
theorem dX12_isOwnHere_99 : decode cX12_isOwnHere 99 = .ok (.aload_n 0, 1) := by decide +kernel
theorem dX12_isOwnHere_100 : decode cX12_isOwnHere 100 = .ok (.getfield 45, 3) := by decide +kernel
theorem dX12_isOwnHere_103 : decode cX12_isOwnHere 103 = .ok (.invokevirtual 283, 3) := by decide +kernel
theorem dX12_isOwnHere_106 : decode cX12_isOwnHere 106 = .ok (.ifCond .ne 36, 3) := by decide +kernel
theorem dX12_isOwnHere_109 : decode cX12_isOwnHere 109 = .ok (.aload_n 0, 1) := by decide +kernel
theorem dX12_isOwnHere_110 : decode cX12_isOwnHere 110 = .ok (.aload_n 0, 1) := by decide +kernel
theorem dX12_isOwnHere_111 : decode cX12_isOwnHere 111 = .ok (.getfield 48, 3) := by decide +kernel
theorem dX12_isOwnHere_114 : decode cX12_isOwnHere 114 = .ok (.invokevirtual 283, 3) := by decide +kernel
theorem dX12_isOwnHere_117 : decode cX12_isOwnHere 117 = .ok (.ifCond .ne 25, 3) := by decide +kernel
theorem dX12_isOwnHere_120 : decode cX12_isOwnHere 120 = .ok (.aload_n 0, 1) := by decide +kernel
theorem dX12_isOwnHere_121 : decode cX12_isOwnHere 121 = .ok (.aload_n 0, 1) := by decide +kernel
theorem dX12_isOwnHere_122 : decode cX12_isOwnHere 122 = .ok (.getfield 51, 3) := by decide +kernel
theorem dX12_isOwnHere_125 : decode cX12_isOwnHere 125 = .ok (.invokevirtual 283, 3) := by decide +kernel
theorem dX12_isOwnHere_128 : decode cX12_isOwnHere 128 = .ok (.ifCond .ne 14, 3) := by decide +kernel
theorem dX12_isOwnHere_131 : decode cX12_isOwnHere 131 = .ok (.aload_n 0, 1) := by decide +kernel
theorem dX12_isOwnHere_132 : decode cX12_isOwnHere 132 = .ok (.aload_n 0, 1) := by decide +kernel
theorem dX12_isOwnHere_133 : decode cX12_isOwnHere 133 = .ok (.getfield 54, 3) := by decide +kernel
theorem dX12_isOwnHere_136 : decode cX12_isOwnHere 136 = .ok (.invokevirtual 283, 3) := by decide +kernel
theorem dX12_isOwnHere_139 : decode cX12_isOwnHere 139 = .ok (.ifCond .eq 7, 3) := by decide +kernel
theorem dX12_isOwnHere_142 : decode cX12_isOwnHere 142 = .ok (.iconst 1, 1) := by decide +kernel
theorem dX12_isOwnHere_143 : decode cX12_isOwnHere 143 = .ok (.goto 4, 3) := by decide +kernel
theorem dX12_isOwnHere_146 : decode cX12_isOwnHere 146 = .ok (.iconst 0, 1) := by decide +kernel
theorem dX12_isOwnHere_147 : decode cX12_isOwnHere 147 = .ok (.istore_n 1, 1) := by decide +kernel
theorem dX12_isOwnHere_148 : decode cX12_isOwnHere 148 = .ok (.iload_n 1, 1) := by decide +kernel
theorem dX12_isOwnHere_149 : decode cX12_isOwnHere 149 = .ok (.ifCond .ne 69, 3) := by decide +kernel
theorem dX12_isOwnHere_152 : decode cX12_isOwnHere 152 = .ok (.aload_n 0, 1) := by decide +kernel
theorem dX12_isOwnHere_153 : decode cX12_isOwnHere 153 = .ok (.aload_n 0, 1) := by decide +kernel
theorem dX12_isOwnHere_154 : decode cX12_isOwnHere 154 = .ok (.getfield 57, 3) := by decide +kernel
theorem dX12_isOwnHere_157 : decode cX12_isOwnHere 157 = .ok (.invokevirtual 283, 3) := by decide +kernel
theorem dX12_isOwnHere_160 : decode cX12_isOwnHere 160 = .ok (.ifCond .ne 58, 3) := by decide +kernel
theorem dX12_isOwnHere_163 : decode cX12_isOwnHere 163 = .ok (.aload_n 0, 1) := by decide +kernel
theorem dX12_isOwnHere_164 : decode cX12_isOwnHere 164 = .ok (.aload_n 0, 1) := by decide +kernel
theorem dX12_isOwnHere_165 : decode cX12_isOwnHere 165 = .ok (.getfield 60, 3) := by decide +kernel
theorem dX12_isOwnHere_168 : decode cX12_isOwnHere 168 = .ok (.invokevirtual 283, 3) := by decide +kernel
theorem dX12_isOwnHere_171 : decode cX12_isOwnHere 171 = .ok (.ifCond .ne 47, 3) := by decide +kernel
theorem dX12_isOwnHere_174 : decode cX12_isOwnHere 174 = .ok (.aload_n 0, 1) := by decide +kernel
theorem dX12_isOwnHere_175 : decode cX12_isOwnHere 175 = .ok (.aload_n 0, 1) := by decide +kernel
theorem dX12_isOwnHere_176 : decode cX12_isOwnHere 176 = .ok (.getfield 63, 3) := by decide +kernel
theorem dX12_isOwnHere_179 : decode cX12_isOwnHere 179 = .ok (.invokevirtual 283, 3) := by decide +kernel
theorem dX12_isOwnHere_182 : decode cX12_isOwnHere 182 = .ok (.ifCond .ne 36, 3) := by decide +kernel
theorem dX12_isOwnHere_185 : decode cX12_isOwnHere 185 = .ok (.aload_n 0, 1) := by decide +kernel
theorem dX12_isOwnHere_186 : decode cX12_isOwnHere 186 = .ok (.aload_n 0, 1) := by decide +kernel
theorem dX12_isOwnHere_187 : decode cX12_isOwnHere 187 = .ok (.getfield 66, 3) := by decide +kernel
theorem dX12_isOwnHere_190 : decode cX12_isOwnHere 190 = .ok (.invokevirtual 283, 3) := by decide +kernel
theorem dX12_isOwnHere_193 : decode cX12_isOwnHere 193 = .ok (.ifCond .ne 25, 3) := by decide +kernel
theorem dX12_isOwnHere_196 : decode cX12_isOwnHere 196 = .ok (.aload_n 0, 1) := by decide +kernel
theorem dX12_isOwnHere_197 : decode cX12_isOwnHere 197 = .ok (.aload_n 0, 1) := by decide +kernel
theorem dX12_isOwnHere_198 : decode cX12_isOwnHere 198 = .ok (.getfield 69, 3) := by decide +kernel
theorem dX12_isOwnHere_201 : decode cX12_isOwnHere 201 = .ok (.invokevirtual 283, 3) := by decide +kernel
theorem dX12_isOwnHere_204 : decode cX12_isOwnHere 204 = .ok (.ifCond .ne 14, 3) := by decide +kernel
theorem dX12_isOwnHere_207 : decode cX12_isOwnHere 207 = .ok (.aload_n 0, 1) := by decide +kernel
theorem dX12_isOwnHere_208 : decode cX12_isOwnHere 208 = .ok (.aload_n 0, 1) := by decide +kernel
theorem dX12_isOwnHere_209 : decode cX12_isOwnHere 209 = .ok (.getfield 72, 3) := by decide +kernel
theorem dX12_isOwnHere_212 : decode cX12_isOwnHere 212 = .ok (.invokevirtual 283, 3) := by decide +kernel
theorem dX12_isOwnHere_215 : decode cX12_isOwnHere 215 = .ok (.ifCond .eq 7, 3) := by decide +kernel
theorem dX12_isOwnHere_218 : decode cX12_isOwnHere 218 = .ok (.iconst 1, 1) := by decide +kernel
theorem dX12_isOwnHere_219 : decode cX12_isOwnHere 219 = .ok (.goto 4, 3) := by decide +kernel
theorem dX12_isOwnHere_222 : decode cX12_isOwnHere 222 = .ok (.iconst 0, 1) := by decide +kernel
theorem dX12_isOwnHere_223 : decode cX12_isOwnHere 223 = .ok (.istore_n 1, 1) := by decide +kernel
theorem dX12_isOwnHere_224 : decode cX12_isOwnHere 224 = .ok (.iload_n 1, 1) := by decide +kernel
theorem dX12_isOwnHere_225 : decode cX12_isOwnHere 225 = .ok (.ifCond .ne 69, 3) := by decide +kernel
theorem dX12_isOwnHere_228 : decode cX12_isOwnHere 228 = .ok (.aload_n 0, 1) := by decide +kernel
theorem dX12_isOwnHere_229 : decode cX12_isOwnHere 229 = .ok (.aload_n 0, 1) := by decide +kernel
theorem dX12_isOwnHere_230 : decode cX12_isOwnHere 230 = .ok (.getfield 75, 3) := by decide +kernel
theorem dX12_isOwnHere_233 : decode cX12_isOwnHere 233 = .ok (.invokevirtual 283, 3) := by decide +kernel
theorem dX12_isOwnHere_236 : decode cX12_isOwnHere 236 = .ok (.ifCond .ne 58, 3) := by decide +kernel
theorem dX12_isOwnHere_239 : decode cX12_isOwnHere 239 = .ok (.aload_n 0, 1) := by decide +kernel
theorem dX12_isOwnHere_240 : decode cX12_isOwnHere 240 = .ok (.aload_n 0, 1) := by decide +kernel
theorem dX12_isOwnHere_241 : decode cX12_isOwnHere 241 = .ok (.getfield 78, 3) := by decide +kernel
theorem dX12_isOwnHere_244 : decode cX12_isOwnHere 244 = .ok (.invokevirtual 283, 3) := by decide +kernel
theorem dX12_isOwnHere_247 : decode cX12_isOwnHere 247 = .ok (.ifCond .ne 47, 3) := by decide +kernel
theorem dX12_isOwnHere_250 : decode cX12_isOwnHere 250 = .ok (.aload_n 0, 1) := by decide +kernel
theorem dX12_isOwnHere_251 : decode cX12_isOwnHere 251 = .ok (.aload_n 0, 1) := by decide +kernel
theorem dX12_isOwnHere_252 : decode cX12_isOwnHere 252 = .ok (.getfield 81, 3) := by decide +kernel
theorem dX12_isOwnHere_255 : decode cX12_isOwnHere 255 = .ok (.invokevirtual 283, 3) := by decide +kernel
theorem dX12_isOwnHere_258 : decode cX12_isOwnHere 258 = .ok (.ifCond .ne 36, 3) := by decide +kernel
theorem dX12_isOwnHere_261 : decode cX12_isOwnHere 261 = .ok (.aload_n 0, 1) := by decide +kernel
theorem dX12_isOwnHere_262 : decode cX12_isOwnHere 262 = .ok (.aload_n 0, 1) := by decide +kernel
theorem dX12_isOwnHere_263 : decode cX12_isOwnHere 263 = .ok (.getfield 84, 3) := by decide +kernel
theorem dX12_isOwnHere_266 : decode cX12_isOwnHere 266 = .ok (.invokevirtual 283, 3) := by decide +kernel
theorem dX12_isOwnHere_269 : decode cX12_isOwnHere 269 = .ok (.ifCond .ne 25, 3) := by decide +kernel
theorem dX12_isOwnHere_272 : decode cX12_isOwnHere 272 = .ok (.aload_n 0, 1) := by decide +kernel
theorem dX12_isOwnHere_273 : decode cX12_isOwnHere 273 = .ok (.aload_n 0, 1) := by decide +kernel
theorem dX12_isOwnHere_274 : decode cX12_isOwnHere 274 = .ok (.getfield 87, 3) := by decide +kernel
theorem dX12_isOwnHere_277 : decode cX12_isOwnHere 277 = .ok (.invokevirtual 283, 3) := by decide +kernel
theorem dX12_isOwnHere_280 : decode cX12_isOwnHere 280 = .ok (.ifCond .ne 14, 3) := by decide +kernel
theorem dX12_isOwnHere_283 : decode cX12_isOwnHere 283 = .ok (.aload_n 0, 1) := by decide +kernel
theorem dX12_isOwnHere_284 : decode cX12_isOwnHere 284 = .ok (.aload_n 0, 1) := by decide +kernel
theorem dX12_isOwnHere_285 : decode cX12_isOwnHere 285 = .ok (.getfield 90, 3) := by decide +kernel
theorem dX12_isOwnHere_288 : decode cX12_isOwnHere 288 = .ok (.invokevirtual 283, 3) := by decide +kernel
theorem dX12_isOwnHere_291 : decode cX12_isOwnHere 291 = .ok (.ifCond .eq 7, 3) := by decide +kernel
theorem dX12_isOwnHere_294 : decode cX12_isOwnHere 294 = .ok (.iconst 1, 1) := by decide +kernel
theorem dX12_isOwnHere_295 : decode cX12_isOwnHere 295 = .ok (.goto 4, 3) := by decide +kernel
theorem dX12_isOwnHere_298 : decode cX12_isOwnHere 298 = .ok (.iconst 0, 1) := by decide +kernel
theorem dX12_isOwnHere_299 : decode cX12_isOwnHere 299 = .ok (.istore_n 1, 1) := by decide +kernel
theorem dX12_isOwnHere_300 : decode cX12_isOwnHere 300 = .ok (.iload_n 1, 1) := by decide +kernel
theorem dX12_isOwnHere_301 : decode cX12_isOwnHere 301 = .ok (.ireturn, 1) := by decide +kernel
theorem dX12_name_0 : decode cX12_name 0 = .ok (.aload_n 0, 1) := by decide +kernel
theorem dX12_name_1 : decode cX12_name 1 = .ok (.getfield 260, 3) := by decide +kernel
theorem dX12_name_4 : decode cX12_name 4 = .ok (.ifCond .eq 5, 3) := by decide +kernel
theorem dX12_name_7 : decode cX12_name 7 = .ok (.lconst 0, 1) := by decide +kernel
theorem dX12_name_8 : decode cX12_name 8 = .ok (.lreturn, 1) := by decide +kernel
theorem dX12_name_9 : decode cX12_name 9 = .ok (.aload_n 0, 1) := by decide +kernel
theorem dX12_name_10 : decode cX12_name 10 = .ok (.invokevirtual 272, 3) := by decide +kernel
theorem dX12_name_13 : decode cX12_name 13 = .ok (.invokestatic 276, 3) := by decide +kernel
theorem dX12_name_16 : decode cX12_name 16 = .ok (.ifCond .eq 21, 3) := by decide +kernel
theorem dX12_name_19 : decode cX12_name 19 = .ok (.aload_n 0, 1) := by decide +kernel
theorem dX12_name_20 : decode cX12_name 20 = .ok (.getfield 266, 3) := by decide +kernel
theorem dX12_name_23 : decode cX12_name 23 = .ok (.aload_n 0, 1) := by decide +kernel
theorem dX12_name_24 : decode cX12_name 24 = .ok (.getfield 280, 3) := by decide +kernel
theorem dX12_name_27 : decode cX12_name 27 = .ok (.if_icmp .eq 10, 3) := by decide +kernel
theorem dX12_name_30 : decode cX12_name 30 = .ok (.aload_n 0, 1) := by decide +kernel
theorem dX12_name_31 : decode cX12_name 31 = .ok (.invokevirtual 307, 3) := by decide +kernel
theorem dX12_name_34 : decode cX12_name 34 = .ok (.ifCond .eq 14, 3) := by decide +kernel
theorem dX12_name_37 : decode cX12_name 37 = .ok (.aload_n 0, 1) := by decide +kernel
theorem dX12_name_38 : decode cX12_name 38 = .ok (.iconst 1, 1) := by decide +kernel
theorem dX12_name_39 : decode cX12_name 39 = .ok (.aload_n 0, 1) := by decide +kernel
theorem dX12_name_40 : decode cX12_name 40 = .ok (.getfield 266, 3) := by decide +kernel
theorem dX12_name_43 : decode cX12_name 43 = .ok (.invokevirtual 290, 3) := by decide +kernel
theorem dX12_name_46 : decode cX12_name 46 = .ok (.lconst 0, 1) := by decide +kernel
theorem dX12_name_47 : decode cX12_name 47 = .ok (.lreturn, 1) := by decide +kernel
theorem dX12_name_48 : decode cX12_name 48 = .ok (.aload_n 0, 1) := by decide +kernel
theorem dX12_name_49 : decode cX12_name 49 = .ok (.aload_n 0, 1) := by decide +kernel
theorem dX12_name_50 : decode cX12_name 50 = .ok (.getfield 266, 3) := by decide +kernel
theorem dX12_name_53 : decode cX12_name 53 = .ok (.putfield 311, 3) := by decide +kernel
theorem dX12_name_56 : decode cX12_name 56 = .ok (.lconst 0, 1) := by decide +kernel
theorem dX12_name_57 : decode cX12_name 57 = .ok (.lstore_n 1, 1) := by decide +kernel
theorem dX12_name_58 : decode cX12_name 58 = .ok (.aload_n 0, 1) := by decide +kernel
theorem dX12_name_59 : decode cX12_name 59 = .ok (.getfield 266, 3) := by decide +kernel
theorem dX12_name_62 : decode cX12_name 62 = .ok (.aload_n 0, 1) := by decide +kernel
theorem dX12_name_63 : decode cX12_name 63 = .ok (.getfield 269, 3) := by decide +kernel
theorem dX12_name_66 : decode cX12_name 66 = .ok (.if_icmp .ge 79, 3) := by decide +kernel
theorem dX12_name_69 : decode cX12_name 69 = .ok (.aload_n 0, 1) := by decide +kernel
theorem dX12_name_70 : decode cX12_name 70 = .ok (.getfield 7, 3) := by decide +kernel
theorem dX12_name_73 : decode cX12_name 73 = .ok (.aload_n 0, 1) := by decide +kernel
theorem dX12_name_74 : decode cX12_name 74 = .ok (.getfield 266, 3) := by decide +kernel
theorem dX12_name_77 : decode cX12_name 77 = .ok (.iaload, 1) := by decide +kernel
theorem dX12_name_78 : decode cX12_name 78 = .ok (.invokestatic 276, 3) := by decide +kernel
theorem dX12_name_81 : decode cX12_name 81 = .ok (.ifCond .eq 64, 3) := by decide +kernel
theorem dX12_name_84 : decode cX12_name 84 = .ok (.aload_n 0, 1) := by decide +kernel
theorem dX12_name_85 : decode cX12_name 85 = .ok (.getfield 266, 3) := by decide +kernel
theorem dX12_name_88 : decode cX12_name 88 = .ok (.aload_n 0, 1) := by decide +kernel
theorem dX12_name_89 : decode cX12_name 89 = .ok (.getfield 311, 3) := by decide +kernel
theorem dX12_name_92 : decode cX12_name 92 = .ok (.isub, 1) := by decide +kernel
theorem dX12_name_93 : decode cX12_name 93 = .ok (.bipush 6, 2) := by decide +kernel
theorem dX12_name_95 : decode cX12_name 95 = .ok (.if_icmp .ne 14, 3) := by decide +kernel
theorem dX12_name_98 : decode cX12_name 98 = .ok (.aload_n 0, 1) := by decide +kernel
theorem dX12_name_99 : decode cX12_name 99 = .ok (.iconst 1, 1) := by decide +kernel
theorem dX12_name_100 : decode cX12_name 100 = .ok (.aload_n 0, 1) := by decide +kernel
theorem dX12_name_101 : decode cX12_name 101 = .ok (.getfield 266, 3) := by decide +kernel
theorem dX12_name_104 : decode cX12_name 104 = .ok (.invokevirtual 290, 3) := by decide +kernel
theorem dX12_name_107 : decode cX12_name 107 = .ok (.lconst 0, 1) := by decide +kernel
theorem dX12_name_108 : decode cX12_name 108 = .ok (.lreturn, 1) := by decide +kernel
theorem dX12_name_109 : decode cX12_name 109 = .ok (.ldc2_w 314, 3) := by decide +kernel
theorem dX12_name_112 : decode cX12_name 112 = .ok (.lload_n 1, 1) := by decide +kernel
theorem dX12_name_113 : decode cX12_name 113 = .ok (.lmul, 1) := by decide +kernel
theorem dX12_name_114 : decode cX12_name 114 = .ok (.aload_n 0, 1) := by decide +kernel
theorem dX12_name_115 : decode cX12_name 115 = .ok (.getfield 7, 3) := by decide +kernel
theorem dX12_name_118 : decode cX12_name 118 = .ok (.aload_n 0, 1) := by decide +kernel
theorem dX12_name_119 : decode cX12_name 119 = .ok (.getfield 266, 3) := by decide +kernel
theorem dX12_name_122 : decode cX12_name 122 = .ok (.iaload, 1) := by decide +kernel
theorem dX12_name_123 : decode cX12_name 123 = .ok (.i2l, 1) := by decide +kernel
theorem dX12_name_124 : decode cX12_name 124 = .ok (.ladd, 1) := by decide +kernel
theorem dX12_name_125 : decode cX12_name 125 = .ok (.ldc2_w 316, 3) := by decide +kernel
theorem dX12_name_128 : decode cX12_name 128 = .ok (.lsub, 1) := by decide +kernel
theorem dX12_name_129 : decode cX12_name 129 = .ok (.lconst 1, 1) := by decide +kernel
theorem dX12_name_130 : decode cX12_name 130 = .ok (.ladd, 1) := by decide +kernel
theorem dX12_name_131 : decode cX12_name 131 = .ok (.lstore_n 1, 1) := by decide +kernel
theorem dX12_name_132 : decode cX12_name 132 = .ok (.aload_n 0, 1) := by decide +kernel
theorem dX12_name_133 : decode cX12_name 133 = .ok (.dup, 1) := by decide +kernel
theorem dX12_name_134 : decode cX12_name 134 = .ok (.getfield 266, 3) := by decide +kernel
theorem dX12_name_137 : decode cX12_name 137 = .ok (.iconst 1, 1) := by decide +kernel
theorem dX12_name_138 : decode cX12_name 138 = .ok (.iadd, 1) := by decide +kernel
theorem dX12_name_139 : decode cX12_name 139 = .ok (.putfield 266, 3) := by decide +kernel
theorem dX12_name_142 : decode cX12_name 142 = .ok (.goto (-84), 3) := by decide +kernel
theorem dX12_name_145 : decode cX12_name 145 = .ok (.aload_n 0, 1) := by decide +kernel
theorem dX12_name_146 : decode cX12_name 146 = .ok (.aload_n 0, 1) := by decide +kernel
theorem dX12_name_147 : decode cX12_name 147 = .ok (.getfield 266, 3) := by decide +kernel
theorem dX12_name_150 : decode cX12_name 150 = .ok (.putfield 280, 3) := by decide +kernel
theorem dX12_name_153 : decode cX12_name 153 = .ok (.lload_n 1, 1) := by decide +kernel
theorem dX12_name_154 : decode cX12_name 154 = .ok (.lreturn, 1) := by decide +kernel
theorem dX12_kindOf_0 : decode cX12_kindOf 0 = .ok (.iload_n 0, 1) := by decide +kernel
theorem dX12_kindOf_1 : decode cX12_kindOf 1 = .ok (.iconst 2, 1) := by decide +kernel
theorem dX12_kindOf_2 : decode cX12_kindOf 2 = .ok (.if_icmp .ge 7, 3) := by decide +kernel
theorem dX12_kindOf_5 : decode cX12_kindOf 5 = .ok (.iconst 0, 1) := by decide +kernel
theorem dX12_kindOf_6 : decode cX12_kindOf 6 = .ok (.goto 13, 3) := by decide +kernel
theorem dX12_kindOf_9 : decode cX12_kindOf 9 = .ok (.iload_n 0, 1) := by decide +kernel
theorem dX12_kindOf_10 : decode cX12_kindOf 10 = .ok (.iconst 3, 1) := by decide +kernel
theorem dX12_kindOf_11 : decode cX12_kindOf 11 = .ok (.if_icmp .ne 7, 3) := by decide +kernel
theorem dX12_kindOf_14 : decode cX12_kindOf 14 = .ok (.iconst 2, 1) := by decide +kernel
theorem dX12_kindOf_15 : decode cX12_kindOf 15 = .ok (.goto 4, 3) := by decide +kernel
theorem dX12_kindOf_18 : decode cX12_kindOf 18 = .ok (.iconst 1, 1) := by decide +kernel
theorem dX12_kindOf_19 : decode cX12_kindOf 19 = .ok (.ireturn, 1) := by decide +kernel
theorem dX12_isAllowed_0 : decode cX12_isAllowed 0 = .ok (.aload_n 0, 1) := by decide +kernel
theorem dX12_isAllowed_1 : decode cX12_isAllowed 1 = .ok (.getfield 318, 3) := by decide +kernel
theorem dX12_isAllowed_4 : decode cX12_isAllowed 4 = .ok (.tableswitch 62 0 2 #[28, 39, 50], 28) := by decide +kernel
theorem dX12_isAllowed_32 : decode cX12_isAllowed 32 = .ok (.iload_n 1, 1) := by decide +kernel
theorem dX12_isAllowed_33 : decode cX12_isAllowed 33 = .ok (.iconst 5, 1) := by decide +kernel
theorem dX12_isAllowed_34 : decode cX12_isAllowed 34 = .ok (.if_icmp .ge 7, 3) := by decide +kernel
theorem dX12_isAllowed_37 : decode cX12_isAllowed 37 = .ok (.iconst 1, 1) := by decide +kernel
theorem dX12_isAllowed_38 : decode cX12_isAllowed 38 = .ok (.goto 4, 3) := by decide +kernel
theorem dX12_isAllowed_41 : decode cX12_isAllowed 41 = .ok (.iconst 0, 1) := by decide +kernel
theorem dX12_isAllowed_42 : decode cX12_isAllowed 42 = .ok (.ireturn, 1) := by decide +kernel
theorem dX12_isAllowed_43 : decode cX12_isAllowed 43 = .ok (.iload_n 1, 1) := by decide +kernel
theorem dX12_isAllowed_44 : decode cX12_isAllowed 44 = .ok (.iconst 4, 1) := by decide +kernel
theorem dX12_isAllowed_45 : decode cX12_isAllowed 45 = .ok (.if_icmp .ge 7, 3) := by decide +kernel
theorem dX12_isAllowed_48 : decode cX12_isAllowed 48 = .ok (.iconst 1, 1) := by decide +kernel
theorem dX12_isAllowed_49 : decode cX12_isAllowed 49 = .ok (.goto 4, 3) := by decide +kernel
theorem dX12_isAllowed_52 : decode cX12_isAllowed 52 = .ok (.iconst 0, 1) := by decide +kernel
theorem dX12_isAllowed_53 : decode cX12_isAllowed 53 = .ok (.ireturn, 1) := by decide +kernel
theorem dX12_isAllowed_54 : decode cX12_isAllowed 54 = .ok (.iload_n 1, 1) := by decide +kernel
theorem dX12_isAllowed_55 : decode cX12_isAllowed 55 = .ok (.i2l, 1) := by decide +kernel
theorem dX12_isAllowed_56 : decode cX12_isAllowed 56 = .ok (.ldc2_w 321, 3) := by decide +kernel
theorem dX12_isAllowed_59 : decode cX12_isAllowed 59 = .ok (.ldc2_w 323, 3) := by decide +kernel
theorem dX12_isAllowed_62 : decode cX12_isAllowed 62 = .ok (.invokestatic 303, 3) := by decide +kernel
theorem dX12_isAllowed_65 : decode cX12_isAllowed 65 = .ok (.ireturn, 1) := by decide +kernel
theorem dX12_isAllowed_66 : decode cX12_isAllowed 66 = .ok (.iload_n 1, 1) := by decide +kernel
theorem dX12_isAllowed_67 : decode cX12_isAllowed 67 = .ok (.iconst 4, 1) := by decide +kernel
theorem dX12_isAllowed_68 : decode cX12_isAllowed 68 = .ok (.if_icmp .lt 8, 3) := by decide +kernel
theorem dX12_isAllowed_71 : decode cX12_isAllowed 71 = .ok (.iload_n 1, 1) := by decide +kernel
theorem dX12_isAllowed_72 : decode cX12_isAllowed 72 = .ok (.iconst 5, 1) := by decide +kernel
theorem dX12_isAllowed_73 : decode cX12_isAllowed 73 = .ok (.if_icmp .le 7, 3) := by decide +kernel
theorem dX12_isAllowed_76 : decode cX12_isAllowed 76 = .ok (.iconst 1, 1) := by decide +kernel
theorem dX12_isAllowed_77 : decode cX12_isAllowed 77 = .ok (.goto 4, 3) := by decide +kernel
theorem dX12_isAllowed_80 : decode cX12_isAllowed 80 = .ok (.iconst 0, 1) := by decide +kernel
theorem dX12_isAllowed_81 : decode cX12_isAllowed 81 = .ok (.ireturn, 1) := by decide +kernel
theorem dX12_pairOf_0 : decode cX12_pairOf 0 = .ok (.iload_n 0, 1) := by decide +kernel
theorem dX12_pairOf_1 : decode cX12_pairOf 1 = .ok (.iload_n 1, 1) := by decide +kernel
theorem dX12_pairOf_2 : decode cX12_pairOf 2 = .ok (.if_icmp .ge 7, 3) := by decide +kernel
theorem dX12_pairOf_5 : decode cX12_pairOf 5 = .ok (.iload_n 0, 1) := by decide +kernel
theorem dX12_pairOf_6 : decode cX12_pairOf 6 = .ok (.goto 4, 3) := by decide +kernel
theorem dX12_pairOf_9 : decode cX12_pairOf 9 = .ok (.iload_n 1, 1) := by decide +kernel
theorem dX12_pairOf_10 : decode cX12_pairOf 10 = .ok (.istore_n 2, 1) := by decide +kernel
theorem dX12_pairOf_11 : decode cX12_pairOf 11 = .ok (.iload_n 0, 1) := by decide +kernel
theorem dX12_pairOf_12 : decode cX12_pairOf 12 = .ok (.iload_n 1, 1) := by decide +kernel
theorem dX12_pairOf_13 : decode cX12_pairOf 13 = .ok (.if_icmp .ge 7, 3) := by decide +kernel
theorem dX12_pairOf_16 : decode cX12_pairOf 16 = .ok (.iload_n 1, 1) := by decide +kernel
theorem dX12_pairOf_17 : decode cX12_pairOf 17 = .ok (.goto 4, 3) := by decide +kernel
theorem dX12_pairOf_20 : decode cX12_pairOf 20 = .ok (.iload_n 0, 1) := by decide +kernel
theorem dX12_pairOf_21 : decode cX12_pairOf 21 = .ok (.istore_n 3, 1) := by decide +kernel
theorem dX12_pairOf_22 : decode cX12_pairOf 22 = .ok (.iload_n 2, 1) := by decide +kernel
theorem dX12_pairOf_23 : decode cX12_pairOf 23 = .ok (.bipush 13, 2) := by decide +kernel
theorem dX12_pairOf_25 : decode cX12_pairOf 25 = .ok (.iload_n 2, 1) := by decide +kernel
theorem dX12_pairOf_26 : decode cX12_pairOf 26 = .ok (.isub, 1) := by decide +kernel
theorem dX12_pairOf_27 : decode cX12_pairOf 27 = .ok (.imul, 1) := by decide +kernel
theorem dX12_pairOf_28 : decode cX12_pairOf 28 = .ok (.iconst 2, 1) := by decide +kernel
theorem dX12_pairOf_29 : decode cX12_pairOf 29 = .ok (.idiv, 1) := by decide +kernel
theorem dX12_pairOf_30 : decode cX12_pairOf 30 = .ok (.iload_n 3, 1) := by decide +kernel
theorem dX12_pairOf_31 : decode cX12_pairOf 31 = .ok (.iadd, 1) := by decide +kernel
theorem dX12_pairOf_32 : decode cX12_pairOf 32 = .ok (.iload_n 2, 1) := by decide +kernel
theorem dX12_pairOf_33 : decode cX12_pairOf 33 = .ok (.isub, 1) := by decide +kernel
theorem dX12_pairOf_34 : decode cX12_pairOf 34 = .ok (.iconst 1, 1) := by decide +kernel
theorem dX12_pairOf_35 : decode cX12_pairOf 35 = .ok (.isub, 1) := by decide +kernel
theorem dX12_pairOf_36 : decode cX12_pairOf 36 = .ok (.ireturn, 1) := by decide +kernel
theorem dX12_duchyTold_0 : decode cX12_duchyTold 0 = .ok (.aload_n 0, 1) := by decide +kernel
theorem dX12_duchyTold_1 : decode cX12_duchyTold 1 = .ok (.aload_n 0, 1) := by decide +kernel
theorem dX12_duchyTold_2 : decode cX12_duchyTold 2 = .ok (.getfield 20, 3) := by decide +kernel
theorem dX12_duchyTold_5 : decode cX12_duchyTold 5 = .ok (.invokevirtual 325, 3) := by decide +kernel
theorem dX12_duchyTold_8 : decode cX12_duchyTold 8 = .ok (.aload_n 0, 1) := by decide +kernel
theorem dX12_duchyTold_9 : decode cX12_duchyTold 9 = .ok (.getfield 93, 3) := by decide +kernel
theorem dX12_duchyTold_12 : decode cX12_duchyTold 12 = .ok (.iconst 0, 1) := by decide +kernel
theorem dX12_duchyTold_13 : decode cX12_duchyTold 13 = .ok (.aload_n 0, 1) := by decide +kernel
theorem dX12_duchyTold_14 : decode cX12_duchyTold 14 = .ok (.iconst 1, 1) := by decide +kernel
theorem dX12_duchyTold_15 : decode cX12_duchyTold 15 = .ok (.bipush 20, 2) := by decide +kernel
theorem dX12_duchyTold_17 : decode cX12_duchyTold 17 = .ok (.invokevirtual 329, 3) := by decide +kernel
theorem dX12_duchyTold_20 : decode cX12_duchyTold 20 = .ok (.iastore, 1) := by decide +kernel
theorem dX12_duchyTold_21 : decode cX12_duchyTold 21 = .ok (.aload_n 0, 1) := by decide +kernel
theorem dX12_duchyTold_22 : decode cX12_duchyTold 22 = .ok (.bipush 59, 2) := by decide +kernel
theorem dX12_duchyTold_24 : decode cX12_duchyTold 24 = .ok (.invokevirtual 333, 3) := by decide +kernel
theorem dX12_duchyTold_27 : decode cX12_duchyTold 27 = .ok (.return_, 1) := by decide +kernel
theorem dX12_houseTold_0 : decode cX12_houseTold 0 = .ok (.aload_n 0, 1) := by decide +kernel
theorem dX12_houseTold_1 : decode cX12_houseTold 1 = .ok (.getfield 260, 3) := by decide +kernel
theorem dX12_houseTold_4 : decode cX12_houseTold 4 = .ok (.ifCond .ne 18, 3) := by decide +kernel
theorem dX12_houseTold_7 : decode cX12_houseTold 7 = .ok (.aload_n 0, 1) := by decide +kernel
theorem dX12_houseTold_8 : decode cX12_houseTold 8 = .ok (.getfield 337, 3) := by decide +kernel
theorem dX12_houseTold_11 : decode cX12_houseTold 11 = .ok (.bipush 7, 2) := by decide +kernel
theorem dX12_houseTold_13 : decode cX12_houseTold 13 = .ok (.if_icmp .ne 9, 3) := by decide +kernel
theorem dX12_houseTold_16 : decode cX12_houseTold 16 = .ok (.aload_n 0, 1) := by decide +kernel
theorem dX12_houseTold_17 : decode cX12_houseTold 17 = .ok (.iconst 5, 1) := by decide +kernel
theorem dX12_houseTold_18 : decode cX12_houseTold 18 = .ok (.iload_n 1, 1) := by decide +kernel
theorem dX12_houseTold_19 : decode cX12_houseTold 19 = .ok (.invokevirtual 290, 3) := by decide +kernel
theorem dX12_houseTold_22 : decode cX12_houseTold 22 = .ok (.aload_n 0, 1) := by decide +kernel
theorem dX12_houseTold_23 : decode cX12_houseTold 23 = .ok (.getfield 260, 3) := by decide +kernel
theorem dX12_houseTold_26 : decode cX12_houseTold 26 = .ok (.ifCond .eq 4, 3) := by decide +kernel
theorem dX12_houseTold_29 : decode cX12_houseTold 29 = .ok (.return_, 1) := by decide +kernel
theorem dX12_houseTold_30 : decode cX12_houseTold 30 = .ok (.aload_n 0, 1) := by decide +kernel
theorem dX12_houseTold_31 : decode cX12_houseTold 31 = .ok (.invokevirtual 340, 3) := by decide +kernel
theorem dX12_houseTold_34 : decode cX12_houseTold 34 = .ok (.lstore_n 2, 1) := by decide +kernel
theorem dX12_houseTold_35 : decode cX12_houseTold 35 = .ok (.iconst 0, 1) := by decide +kernel
theorem dX12_houseTold_36 : decode cX12_houseTold 36 = .ok (.istore 4, 2) := by decide +kernel
theorem dX12_houseTold_38 : decode cX12_houseTold 38 = .ok (.iload 4, 2) := by decide +kernel
theorem dX12_houseTold_40 : decode cX12_houseTold 40 = .ok (.aload_n 0, 1) := by decide +kernel
theorem dX12_houseTold_41 : decode cX12_houseTold 41 = .ok (.getfield 337, 3) := by decide +kernel
theorem dX12_houseTold_44 : decode cX12_houseTold 44 = .ok (.if_icmp .ge 37, 3) := by decide +kernel
theorem dX12_houseTold_47 : decode cX12_houseTold 47 = .ok (.aload_n 0, 1) := by decide +kernel
theorem dX12_houseTold_48 : decode cX12_houseTold 48 = .ok (.getfield 260, 3) := by decide +kernel
theorem dX12_houseTold_51 : decode cX12_houseTold 51 = .ok (.ifCond .ne 24, 3) := by decide +kernel
theorem dX12_houseTold_54 : decode cX12_houseTold 54 = .ok (.aload_n 0, 1) := by decide +kernel
theorem dX12_houseTold_55 : decode cX12_houseTold 55 = .ok (.getfield 96, 3) := by decide +kernel
theorem dX12_houseTold_58 : decode cX12_houseTold 58 = .ok (.iload 4, 2) := by decide +kernel
theorem dX12_houseTold_60 : decode cX12_houseTold 60 = .ok (.laload, 1) := by decide +kernel
theorem dX12_houseTold_61 : decode cX12_houseTold 61 = .ok (.lload_n 2, 1) := by decide +kernel
theorem dX12_houseTold_62 : decode cX12_houseTold 62 = .ok (.lcmp, 1) := by decide +kernel
theorem dX12_houseTold_63 : decode cX12_houseTold 63 = .ok (.ifCond .ne 12, 3) := by decide +kernel
theorem dX12_houseTold_66 : decode cX12_houseTold 66 = .ok (.aload_n 0, 1) := by decide +kernel
theorem dX12_houseTold_67 : decode cX12_houseTold 67 = .ok (.iconst 3, 1) := by decide +kernel
theorem dX12_houseTold_68 : decode cX12_houseTold 68 = .ok (.aload_n 0, 1) := by decide +kernel
theorem dX12_houseTold_69 : decode cX12_houseTold 69 = .ok (.getfield 311, 3) := by decide +kernel
theorem dX12_houseTold_72 : decode cX12_houseTold 72 = .ok (.invokevirtual 290, 3) := by decide +kernel
theorem dX12_houseTold_75 : decode cX12_houseTold 75 = .ok (.iinc 4 1, 3) := by decide +kernel
theorem dX12_houseTold_78 : decode cX12_houseTold 78 = .ok (.goto (-40), 3) := by decide +kernel
theorem dX12_houseTold_81 : decode cX12_houseTold 81 = .ok (.aload_n 0, 1) := by decide +kernel
theorem dX12_houseTold_82 : decode cX12_houseTold 82 = .ok (.aload_n 0, 1) := by decide +kernel
theorem dX12_houseTold_83 : decode cX12_houseTold 83 = .ok (.getfield 27, 3) := by decide +kernel
theorem dX12_houseTold_86 : decode cX12_houseTold 86 = .ok (.invokevirtual 325, 3) := by decide +kernel
theorem dX12_houseTold_89 : decode cX12_houseTold 89 = .ok (.aload_n 0, 1) := by decide +kernel
theorem dX12_houseTold_90 : decode cX12_houseTold 90 = .ok (.iconst 0, 1) := by decide +kernel
theorem dX12_houseTold_91 : decode cX12_houseTold 91 = .ok (.bipush 99, 2) := by decide +kernel
theorem dX12_houseTold_93 : decode cX12_houseTold 93 = .ok (.invokevirtual 329, 3) := by decide +kernel
theorem dX12_houseTold_96 : decode cX12_houseTold 96 = .ok (.istore 4, 2) := by decide +kernel
theorem dX12_houseTold_98 : decode cX12_houseTold 98 = .ok (.aload_n 0, 1) := by decide +kernel
theorem dX12_houseTold_99 : decode cX12_houseTold 99 = .ok (.aload_n 0, 1) := by decide +kernel
theorem dX12_houseTold_100 : decode cX12_houseTold 100 = .ok (.getfield 30, 3) := by decide +kernel
theorem dX12_houseTold_103 : decode cX12_houseTold 103 = .ok (.invokevirtual 325, 3) := by decide +kernel
theorem dX12_houseTold_106 : decode cX12_houseTold 106 = .ok (.aload_n 0, 1) := by decide +kernel
theorem dX12_houseTold_107 : decode cX12_houseTold 107 = .ok (.iconst 0, 1) := by decide +kernel
theorem dX12_houseTold_108 : decode cX12_houseTold 108 = .ok (.bipush 9, 2) := by decide +kernel
theorem dX12_houseTold_110 : decode cX12_houseTold 110 = .ok (.invokevirtual 329, 3) := by decide +kernel
theorem dX12_houseTold_113 : decode cX12_houseTold 113 = .ok (.istore 5, 2) := by decide +kernel
theorem dX12_houseTold_115 : decode cX12_houseTold 115 = .ok (.aload_n 0, 1) := by decide +kernel
theorem dX12_houseTold_116 : decode cX12_houseTold 116 = .ok (.getfield 260, 3) := by decide +kernel
theorem dX12_houseTold_119 : decode cX12_houseTold 119 = .ok (.ifCond .eq 4, 3) := by decide +kernel
theorem dX12_houseTold_122 : decode cX12_houseTold 122 = .ok (.return_, 1) := by decide +kernel
theorem dX12_houseTold_123 : decode cX12_houseTold 123 = .ok (.aload_n 0, 1) := by decide +kernel
theorem dX12_houseTold_124 : decode cX12_houseTold 124 = .ok (.getfield 96, 3) := by decide +kernel
theorem dX12_houseTold_127 : decode cX12_houseTold 127 = .ok (.aload_n 0, 1) := by decide +kernel
theorem dX12_houseTold_128 : decode cX12_houseTold 128 = .ok (.getfield 337, 3) := by decide +kernel
theorem dX12_houseTold_131 : decode cX12_houseTold 131 = .ok (.lload_n 2, 1) := by decide +kernel
theorem dX12_houseTold_132 : decode cX12_houseTold 132 = .ok (.lastore, 1) := by decide +kernel
theorem dX12_houseTold_133 : decode cX12_houseTold 133 = .ok (.aload_n 0, 1) := by decide +kernel
theorem dX12_houseTold_134 : decode cX12_houseTold 134 = .ok (.getfield 100, 3) := by decide +kernel
theorem dX12_houseTold_137 : decode cX12_houseTold 137 = .ok (.aload_n 0, 1) := by decide +kernel
theorem dX12_houseTold_138 : decode cX12_houseTold 138 = .ok (.getfield 337, 3) := by decide +kernel
theorem dX12_houseTold_141 : decode cX12_houseTold 141 = .ok (.iload 4, 2) := by decide +kernel
theorem dX12_houseTold_143 : decode cX12_houseTold 143 = .ok (.iastore, 1) := by decide +kernel
theorem dX12_houseTold_144 : decode cX12_houseTold 144 = .ok (.aload_n 0, 1) := by decide +kernel
theorem dX12_houseTold_145 : decode cX12_houseTold 145 = .ok (.getfield 103, 3) := by decide +kernel
theorem dX12_houseTold_148 : decode cX12_houseTold 148 = .ok (.aload_n 0, 1) := by decide +kernel
theorem dX12_houseTold_149 : decode cX12_houseTold 149 = .ok (.getfield 337, 3) := by decide +kernel
theorem dX12_houseTold_152 : decode cX12_houseTold 152 = .ok (.iload 5, 2) := by decide +kernel
theorem dX12_houseTold_154 : decode cX12_houseTold 154 = .ok (.iastore, 1) := by decide +kernel
theorem dX12_houseTold_155 : decode cX12_houseTold 155 = .ok (.aload_n 0, 1) := by decide +kernel
theorem dX12_houseTold_156 : decode cX12_houseTold 156 = .ok (.dup, 1) := by decide +kernel
theorem dX12_houseTold_157 : decode cX12_houseTold 157 = .ok (.getfield 337, 3) := by decide +kernel
theorem dX12_houseTold_160 : decode cX12_houseTold 160 = .ok (.iconst 1, 1) := by decide +kernel
theorem dX12_houseTold_161 : decode cX12_houseTold 161 = .ok (.iadd, 1) := by decide +kernel
theorem dX12_houseTold_162 : decode cX12_houseTold 162 = .ok (.putfield 337, 3) := by decide +kernel
theorem dX12_houseTold_165 : decode cX12_houseTold 165 = .ok (.return_, 1) := by decide +kernel
theorem dX12_houseNamed_0 : decode cX12_houseNamed 0 = .ok (.aload_n 0, 1) := by decide +kernel
theorem dX12_houseNamed_1 : decode cX12_houseNamed 1 = .ok (.invokevirtual 340, 3) := by decide +kernel
theorem dX12_houseNamed_4 : decode cX12_houseNamed 4 = .ok (.lstore_n 1, 1) := by decide +kernel
theorem dX12_houseNamed_5 : decode cX12_houseNamed 5 = .ok (.iconst 0, 1) := by decide +kernel
theorem dX12_houseNamed_6 : decode cX12_houseNamed 6 = .ok (.istore_n 3, 1) := by decide +kernel
theorem dX12_houseNamed_7 : decode cX12_houseNamed 7 = .ok (.iload_n 3, 1) := by decide +kernel
theorem dX12_houseNamed_8 : decode cX12_houseNamed 8 = .ok (.aload_n 0, 1) := by decide +kernel
theorem dX12_houseNamed_9 : decode cX12_houseNamed 9 = .ok (.getfield 337, 3) := by decide +kernel
theorem dX12_houseNamed_12 : decode cX12_houseNamed 12 = .ok (.if_icmp .ge 22, 3) := by decide +kernel
theorem dX12_houseNamed_15 : decode cX12_houseNamed 15 = .ok (.aload_n 0, 1) := by decide +kernel
theorem dX12_houseNamed_16 : decode cX12_houseNamed 16 = .ok (.getfield 96, 3) := by decide +kernel
theorem dX12_houseNamed_19 : decode cX12_houseNamed 19 = .ok (.iload_n 3, 1) := by decide +kernel
theorem dX12_houseNamed_20 : decode cX12_houseNamed 20 = .ok (.laload, 1) := by decide +kernel
theorem dX12_houseNamed_21 : decode cX12_houseNamed 21 = .ok (.lload_n 1, 1) := by decide +kernel
theorem dX12_houseNamed_22 : decode cX12_houseNamed 22 = .ok (.lcmp, 1) := by decide +kernel
theorem dX12_houseNamed_23 : decode cX12_houseNamed 23 = .ok (.ifCond .ne 5, 3) := by decide +kernel
theorem dX12_houseNamed_26 : decode cX12_houseNamed 26 = .ok (.iload_n 3, 1) := by decide +kernel
theorem dX12_houseNamed_27 : decode cX12_houseNamed 27 = .ok (.ireturn, 1) := by decide +kernel
theorem dX12_houseNamed_28 : decode cX12_houseNamed 28 = .ok (.iinc 3 1, 3) := by decide +kernel
theorem dX12_houseNamed_31 : decode cX12_houseNamed 31 = .ok (.goto (-24), 3) := by decide +kernel
theorem dX12_houseNamed_34 : decode cX12_houseNamed 34 = .ok (.aload_n 0, 1) := by decide +kernel
theorem dX12_houseNamed_35 : decode cX12_houseNamed 35 = .ok (.getfield 260, 3) := by decide +kernel
theorem dX12_houseNamed_38 : decode cX12_houseNamed 38 = .ok (.ifCond .ne 12, 3) := by decide +kernel
theorem dX12_houseNamed_41 : decode cX12_houseNamed 41 = .ok (.aload_n 0, 1) := by decide +kernel
theorem dX12_houseNamed_42 : decode cX12_houseNamed 42 = .ok (.iconst 3, 1) := by decide +kernel
theorem dX12_houseNamed_43 : decode cX12_houseNamed 43 = .ok (.aload_n 0, 1) := by decide +kernel
theorem dX12_houseNamed_44 : decode cX12_houseNamed 44 = .ok (.getfield 311, 3) := by decide +kernel
theorem dX12_houseNamed_47 : decode cX12_houseNamed 47 = .ok (.invokevirtual 290, 3) := by decide +kernel
theorem dX12_houseNamed_50 : decode cX12_houseNamed 50 = .ok (.iconst 0, 1) := by decide +kernel
theorem dX12_houseNamed_51 : decode cX12_houseNamed 51 = .ok (.ireturn, 1) := by decide +kernel
theorem dX12_feudTold_0 : decode cX12_feudTold 0 = .ok (.aload_n 0, 1) := by decide +kernel
theorem dX12_feudTold_1 : decode cX12_feudTold 1 = .ok (.invokevirtual 344, 3) := by decide +kernel
theorem dX12_feudTold_4 : decode cX12_feudTold 4 = .ok (.istore_n 1, 1) := by decide +kernel
theorem dX12_feudTold_5 : decode cX12_feudTold 5 = .ok (.aload_n 0, 1) := by decide +kernel
theorem dX12_feudTold_6 : decode cX12_feudTold 6 = .ok (.aload_n 0, 1) := by decide +kernel
theorem dX12_feudTold_7 : decode cX12_feudTold 7 = .ok (.getfield 36, 3) := by decide +kernel
theorem dX12_feudTold_10 : decode cX12_feudTold 10 = .ok (.invokevirtual 325, 3) := by decide +kernel
theorem dX12_feudTold_13 : decode cX12_feudTold 13 = .ok (.aload_n 0, 1) := by decide +kernel
theorem dX12_feudTold_14 : decode cX12_feudTold 14 = .ok (.invokevirtual 344, 3) := by decide +kernel
theorem dX12_feudTold_17 : decode cX12_feudTold 17 = .ok (.istore_n 2, 1) := by decide +kernel
theorem dX12_feudTold_18 : decode cX12_feudTold 18 = .ok (.aload_n 0, 1) := by decide +kernel
theorem dX12_feudTold_19 : decode cX12_feudTold 19 = .ok (.getfield 260, 3) := by decide +kernel
theorem dX12_feudTold_22 : decode cX12_feudTold 22 = .ok (.ifCond .ne 30, 3) := by decide +kernel
theorem dX12_feudTold_25 : decode cX12_feudTold 25 = .ok (.iload_n 1, 1) := by decide +kernel
theorem dX12_feudTold_26 : decode cX12_feudTold 26 = .ok (.iload_n 2, 1) := by decide +kernel
theorem dX12_feudTold_27 : decode cX12_feudTold 27 = .ok (.if_icmp .eq 16, 3) := by decide +kernel
theorem dX12_feudTold_30 : decode cX12_feudTold 30 = .ok (.aload_n 0, 1) := by decide +kernel
theorem dX12_feudTold_31 : decode cX12_feudTold 31 = .ok (.getfield 106, 3) := by decide +kernel
theorem dX12_feudTold_34 : decode cX12_feudTold 34 = .ok (.iload_n 1, 1) := by decide +kernel
theorem dX12_feudTold_35 : decode cX12_feudTold 35 = .ok (.iload_n 2, 1) := by decide +kernel
theorem dX12_feudTold_36 : decode cX12_feudTold 36 = .ok (.invokestatic 347, 3) := by decide +kernel
theorem dX12_feudTold_39 : decode cX12_feudTold 39 = .ok (.iaload, 1) := by decide +kernel
theorem dX12_feudTold_40 : decode cX12_feudTold 40 = .ok (.ifCond .eq 12, 3) := by decide +kernel
theorem dX12_feudTold_43 : decode cX12_feudTold 43 = .ok (.aload_n 0, 1) := by decide +kernel
theorem dX12_feudTold_44 : decode cX12_feudTold 44 = .ok (.iconst 3, 1) := by decide +kernel
theorem dX12_feudTold_45 : decode cX12_feudTold 45 = .ok (.aload_n 0, 1) := by decide +kernel
theorem dX12_feudTold_46 : decode cX12_feudTold 46 = .ok (.getfield 311, 3) := by decide +kernel
theorem dX12_feudTold_49 : decode cX12_feudTold 49 = .ok (.invokevirtual 290, 3) := by decide +kernel
theorem dX12_feudTold_52 : decode cX12_feudTold 52 = .ok (.aload_n 0, 1) := by decide +kernel
theorem dX12_feudTold_53 : decode cX12_feudTold 53 = .ok (.aload_n 0, 1) := by decide +kernel
theorem dX12_feudTold_54 : decode cX12_feudTold 54 = .ok (.getfield 39, 3) := by decide +kernel
theorem dX12_feudTold_57 : decode cX12_feudTold 57 = .ok (.invokevirtual 325, 3) := by decide +kernel
theorem dX12_feudTold_60 : decode cX12_feudTold 60 = .ok (.aload_n 0, 1) := by decide +kernel
theorem dX12_feudTold_61 : decode cX12_feudTold 61 = .ok (.iconst 1, 1) := by decide +kernel
theorem dX12_feudTold_62 : decode cX12_feudTold 62 = .ok (.bipush 99, 2) := by decide +kernel
theorem dX12_feudTold_64 : decode cX12_feudTold 64 = .ok (.invokevirtual 329, 3) := by decide +kernel
theorem dX12_feudTold_67 : decode cX12_feudTold 67 = .ok (.istore_n 3, 1) := by decide +kernel
theorem dX12_feudTold_68 : decode cX12_feudTold 68 = .ok (.aload_n 0, 1) := by decide +kernel
theorem dX12_feudTold_69 : decode cX12_feudTold 69 = .ok (.getfield 260, 3) := by decide +kernel
theorem dX12_feudTold_72 : decode cX12_feudTold 72 = .ok (.ifCond .ne 14, 3) := by decide +kernel
theorem dX12_feudTold_75 : decode cX12_feudTold 75 = .ok (.aload_n 0, 1) := by decide +kernel
theorem dX12_feudTold_76 : decode cX12_feudTold 76 = .ok (.getfield 106, 3) := by decide +kernel
theorem dX12_feudTold_79 : decode cX12_feudTold 79 = .ok (.iload_n 1, 1) := by decide +kernel
theorem dX12_feudTold_80 : decode cX12_feudTold 80 = .ok (.iload_n 2, 1) := by decide +kernel
theorem dX12_feudTold_81 : decode cX12_feudTold 81 = .ok (.invokestatic 347, 3) := by decide +kernel
theorem dX12_feudTold_84 : decode cX12_feudTold 84 = .ok (.iload_n 3, 1) := by decide +kernel
theorem dX12_feudTold_85 : decode cX12_feudTold 85 = .ok (.iastore, 1) := by decide +kernel
theorem dX12_feudTold_86 : decode cX12_feudTold 86 = .ok (.return_, 1) := by decide +kernel
theorem dX12_codesTold_0 : decode cX12_codesTold 0 = .ok (.aload_n 0, 1) := by decide +kernel
theorem dX12_codesTold_1 : decode cX12_codesTold 1 = .ok (.getfield 260, 3) := by decide +kernel
theorem dX12_codesTold_4 : decode cX12_codesTold 4 = .ok (.ifCond .ne 19, 3) := by decide +kernel
theorem dX12_codesTold_7 : decode cX12_codesTold 7 = .ok (.aload_n 0, 1) := by decide +kernel
theorem dX12_codesTold_8 : decode cX12_codesTold 8 = .ok (.getfield 109, 3) := by decide +kernel
theorem dX12_codesTold_11 : decode cX12_codesTold 11 = .ok (.iload_n 1, 1) := by decide +kernel
theorem dX12_codesTold_12 : decode cX12_codesTold 12 = .ok (.iaload, 1) := by decide +kernel
theorem dX12_codesTold_13 : decode cX12_codesTold 13 = .ok (.iconst (-1), 1) := by decide +kernel
theorem dX12_codesTold_14 : decode cX12_codesTold 14 = .ok (.if_icmp .eq 9, 3) := by decide +kernel
theorem dX12_codesTold_17 : decode cX12_codesTold 17 = .ok (.aload_n 0, 1) := by decide +kernel
theorem dX12_codesTold_18 : decode cX12_codesTold 18 = .ok (.iconst 5, 1) := by decide +kernel
theorem dX12_codesTold_19 : decode cX12_codesTold 19 = .ok (.iload_n 2, 1) := by decide +kernel
theorem dX12_codesTold_20 : decode cX12_codesTold 20 = .ok (.invokevirtual 290, 3) := by decide +kernel
theorem dX12_codesTold_23 : decode cX12_codesTold 23 = .ok (.aload_n 0, 1) := by decide +kernel
theorem dX12_codesTold_24 : decode cX12_codesTold 24 = .ok (.getfield 260, 3) := by decide +kernel
theorem dX12_codesTold_27 : decode cX12_codesTold 27 = .ok (.ifCond .eq 4, 3) := by decide +kernel
theorem dX12_codesTold_30 : decode cX12_codesTold 30 = .ok (.return_, 1) := by decide +kernel
theorem dX12_codesTold_31 : decode cX12_codesTold 31 = .ok (.aload_n 0, 1) := by decide +kernel
theorem dX12_codesTold_32 : decode cX12_codesTold 32 = .ok (.iload_n 1, 1) := by decide +kernel
theorem dX12_codesTold_33 : decode cX12_codesTold 33 = .ok (.invokestatic 350, 3) := by decide +kernel
theorem dX12_codesTold_36 : decode cX12_codesTold 36 = .ok (.putfield 318, 3) := by decide +kernel
theorem dX12_codesTold_39 : decode cX12_codesTold 39 = .ok (.aload_n 0, 1) := by decide +kernel
theorem dX12_codesTold_40 : decode cX12_codesTold 40 = .ok (.iconst 0, 1) := by decide +kernel
theorem dX12_codesTold_41 : decode cX12_codesTold 41 = .ok (.putfield 354, 3) := by decide +kernel
theorem dX12_codesTold_44 : decode cX12_codesTold 44 = .ok (.aload_n 0, 1) := by decide +kernel
theorem dX12_codesTold_45 : decode cX12_codesTold 45 = .ok (.iconst 0, 1) := by decide +kernel
theorem dX12_codesTold_46 : decode cX12_codesTold 46 = .ok (.putfield 357, 3) := by decide +kernel
theorem dX12_codesTold_49 : decode cX12_codesTold 49 = .ok (.aload_n 0, 1) := by decide +kernel
theorem dX12_codesTold_50 : decode cX12_codesTold 50 = .ok (.iconst 0, 1) := by decide +kernel
theorem dX12_codesTold_51 : decode cX12_codesTold 51 = .ok (.putfield 360, 3) := by decide +kernel
theorem dX12_codesTold_54 : decode cX12_codesTold 54 = .ok (.aload_n 0, 1) := by decide +kernel
theorem dX12_codesTold_55 : decode cX12_codesTold 55 = .ok (.iconst 0, 1) := by decide +kernel
theorem dX12_codesTold_56 : decode cX12_codesTold 56 = .ok (.putfield 363, 3) := by decide +kernel
theorem dX12_codesTold_59 : decode cX12_codesTold 59 = .ok (.iload_n 1, 1) := by decide +kernel
theorem dX12_codesTold_60 : decode cX12_codesTold 60 = .ok (.iconst 2, 1) := by decide +kernel
theorem dX12_codesTold_61 : decode cX12_codesTold 61 = .ok (.if_icmp .ne 10, 3) := by decide +kernel
theorem dX12_codesTold_64 : decode cX12_codesTold 64 = .ok (.aload_n 0, 1) := by decide +kernel
theorem dX12_codesTold_65 : decode cX12_codesTold 65 = .ok (.invokevirtual 366, 3) := by decide +kernel
theorem dX12_codesTold_68 : decode cX12_codesTold 68 = .ok (.goto 7, 3) := by decide +kernel
theorem dX12_codesTold_71 : decode cX12_codesTold 71 = .ok (.aload_n 0, 1) := by decide +kernel
theorem dX12_codesTold_72 : decode cX12_codesTold 72 = .ok (.invokevirtual 369, 3) := by decide +kernel
theorem dX12_codesTold_75 : decode cX12_codesTold 75 = .ok (.aload_n 0, 1) := by decide +kernel
theorem dX12_codesTold_76 : decode cX12_codesTold 76 = .ok (.getfield 260, 3) := by decide +kernel
theorem dX12_codesTold_79 : decode cX12_codesTold 79 = .ok (.ifCond .eq 4, 3) := by decide +kernel
theorem dX12_codesTold_82 : decode cX12_codesTold 82 = .ok (.return_, 1) := by decide +kernel
theorem dX12_codesTold_83 : decode cX12_codesTold 83 = .ok (.aload_n 0, 1) := by decide +kernel
theorem dX12_codesTold_84 : decode cX12_codesTold 84 = .ok (.getfield 109, 3) := by decide +kernel
theorem dX12_codesTold_87 : decode cX12_codesTold 87 = .ok (.iload_n 1, 1) := by decide +kernel
theorem dX12_codesTold_88 : decode cX12_codesTold 88 = .ok (.aload_n 0, 1) := by decide +kernel
theorem dX12_codesTold_89 : decode cX12_codesTold 89 = .ok (.getfield 372, 3) := by decide +kernel
theorem dX12_codesTold_92 : decode cX12_codesTold 92 = .ok (.iastore, 1) := by decide +kernel
theorem dX12_codesTold_93 : decode cX12_codesTold 93 = .ok (.iconst 0, 1) := by decide +kernel
theorem dX12_codesTold_94 : decode cX12_codesTold 94 = .ok (.istore_n 3, 1) := by decide +kernel
theorem dX12_codesTold_95 : decode cX12_codesTold 95 = .ok (.iload_n 3, 1) := by decide +kernel
theorem dX12_codesTold_96 : decode cX12_codesTold 96 = .ok (.aload_n 0, 1) := by decide +kernel
theorem dX12_codesTold_97 : decode cX12_codesTold 97 = .ok (.getfield 354, 3) := by decide +kernel
theorem dX12_codesTold_100 : decode cX12_codesTold 100 = .ok (.if_icmp .ge 34, 3) := by decide +kernel
theorem dX12_codesTold_103 : decode cX12_codesTold 103 = .ok (.aload_n 0, 1) := by decide +kernel
theorem dX12_codesTold_104 : decode cX12_codesTold 104 = .ok (.getfield 115, 3) := by decide +kernel
theorem dX12_codesTold_107 : decode cX12_codesTold 107 = .ok (.aload_n 0, 1) := by decide +kernel
theorem dX12_codesTold_108 : decode cX12_codesTold 108 = .ok (.getfield 372, 3) := by decide +kernel
theorem dX12_codesTold_111 : decode cX12_codesTold 111 = .ok (.aload_n 0, 1) := by decide +kernel
theorem dX12_codesTold_112 : decode cX12_codesTold 112 = .ok (.getfield 243, 3) := by decide +kernel
theorem dX12_codesTold_115 : decode cX12_codesTold 115 = .ok (.iload_n 3, 1) := by decide +kernel
theorem dX12_codesTold_116 : decode cX12_codesTold 116 = .ok (.iaload, 1) := by decide +kernel
theorem dX12_codesTold_117 : decode cX12_codesTold 117 = .ok (.iastore, 1) := by decide +kernel
theorem dX12_codesTold_118 : decode cX12_codesTold 118 = .ok (.aload_n 0, 1) := by decide +kernel
theorem dX12_codesTold_119 : decode cX12_codesTold 119 = .ok (.dup, 1) := by decide +kernel
theorem dX12_codesTold_120 : decode cX12_codesTold 120 = .ok (.getfield 372, 3) := by decide +kernel
theorem dX12_codesTold_123 : decode cX12_codesTold 123 = .ok (.iconst 1, 1) := by decide +kernel
theorem dX12_codesTold_124 : decode cX12_codesTold 124 = .ok (.iadd, 1) := by decide +kernel
theorem dX12_codesTold_125 : decode cX12_codesTold 125 = .ok (.putfield 372, 3) := by decide +kernel
theorem dX12_codesTold_128 : decode cX12_codesTold 128 = .ok (.iinc 3 1, 3) := by decide +kernel
theorem dX12_codesTold_131 : decode cX12_codesTold 131 = .ok (.goto (-36), 3) := by decide +kernel
theorem dX12_codesTold_134 : decode cX12_codesTold 134 = .ok (.aload_n 0, 1) := by decide +kernel
theorem dX12_codesTold_135 : decode cX12_codesTold 135 = .ok (.getfield 112, 3) := by decide +kernel
theorem dX12_codesTold_138 : decode cX12_codesTold 138 = .ok (.iload_n 1, 1) := by decide +kernel
theorem dX12_codesTold_139 : decode cX12_codesTold 139 = .ok (.aload_n 0, 1) := by decide +kernel
theorem dX12_codesTold_140 : decode cX12_codesTold 140 = .ok (.getfield 372, 3) := by decide +kernel
theorem dX12_codesTold_143 : decode cX12_codesTold 143 = .ok (.iastore, 1) := by decide +kernel
theorem dX12_codesTold_144 : decode cX12_codesTold 144 = .ok (.return_, 1) := by decide +kernel
theorem dX12_statementTold_0 : decode cX12_statementTold 0 = .ok (.aload_n 0, 1) := by decide +kernel
theorem dX12_statementTold_1 : decode cX12_statementTold 1 = .ok (.getfield 266, 3) := by decide +kernel
theorem dX12_statementTold_4 : decode cX12_statementTold 4 = .ok (.istore_n 1, 1) := by decide +kernel
theorem dX12_statementTold_5 : decode cX12_statementTold 5 = .ok (.aload_n 0, 1) := by decide +kernel
theorem dX12_statementTold_6 : decode cX12_statementTold 6 = .ok (.getfield 375, 3) := by decide +kernel
theorem dX12_statementTold_9 : decode cX12_statementTold 9 = .ok (.bipush 60, 2) := by decide +kernel
theorem dX12_statementTold_11 : decode cX12_statementTold 11 = .ok (.if_icmp .ne 10, 3) := by decide +kernel
theorem dX12_statementTold_14 : decode cX12_statementTold 14 = .ok (.aload_n 0, 1) := by decide +kernel
theorem dX12_statementTold_15 : decode cX12_statementTold 15 = .ok (.iconst 5, 1) := by decide +kernel
theorem dX12_statementTold_16 : decode cX12_statementTold 16 = .ok (.iload_n 1, 1) := by decide +kernel
theorem dX12_statementTold_17 : decode cX12_statementTold 17 = .ok (.invokevirtual 290, 3) := by decide +kernel
theorem dX12_statementTold_20 : decode cX12_statementTold 20 = .ok (.return_, 1) := by decide +kernel
theorem dX12_statementTold_21 : decode cX12_statementTold 21 = .ok (.aload_n 0, 1) := by decide +kernel
theorem dX12_statementTold_22 : decode cX12_statementTold 22 = .ok (.aload_n 0, 1) := by decide +kernel
theorem dX12_statementTold_23 : decode cX12_statementTold 23 = .ok (.getfield 24, 3) := by decide +kernel
theorem dX12_statementTold_26 : decode cX12_statementTold 26 = .ok (.invokevirtual 287, 3) := by decide +kernel
theorem dX12_statementTold_29 : decode cX12_statementTold 29 = .ok (.ifCond .eq 11, 3) := by decide +kernel
theorem dX12_statementTold_32 : decode cX12_statementTold 32 = .ok (.aload_n 0, 1) := by decide +kernel
theorem dX12_statementTold_33 : decode cX12_statementTold 33 = .ok (.iload_n 1, 1) := by decide +kernel
theorem dX12_statementTold_34 : decode cX12_statementTold 34 = .ok (.invokevirtual 378, 3) := by decide +kernel
theorem dX12_statementTold_37 : decode cX12_statementTold 37 = .ok (.goto 142, 3) := by decide +kernel
theorem dX12_statementTold_40 : decode cX12_statementTold 40 = .ok (.aload_n 0, 1) := by decide +kernel
theorem dX12_statementTold_41 : decode cX12_statementTold 41 = .ok (.aload_n 0, 1) := by decide +kernel
theorem dX12_statementTold_42 : decode cX12_statementTold 42 = .ok (.getfield 33, 3) := by decide +kernel
theorem dX12_statementTold_45 : decode cX12_statementTold 45 = .ok (.invokevirtual 287, 3) := by decide +kernel
theorem dX12_statementTold_48 : decode cX12_statementTold 48 = .ok (.ifCond .eq 10, 3) := by decide +kernel
theorem dX12_statementTold_51 : decode cX12_statementTold 51 = .ok (.aload_n 0, 1) := by decide +kernel
theorem dX12_statementTold_52 : decode cX12_statementTold 52 = .ok (.invokevirtual 381, 3) := by decide +kernel
theorem dX12_statementTold_55 : decode cX12_statementTold 55 = .ok (.goto 124, 3) := by decide +kernel
theorem dX12_statementTold_58 : decode cX12_statementTold 58 = .ok (.aload_n 0, 1) := by decide +kernel
theorem dX12_statementTold_59 : decode cX12_statementTold 59 = .ok (.aload_n 0, 1) := by decide +kernel
theorem dX12_statementTold_60 : decode cX12_statementTold 60 = .ok (.getfield 42, 3) := by decide +kernel
theorem dX12_statementTold_63 : decode cX12_statementTold 63 = .ok (.invokevirtual 287, 3) := by decide +kernel
theorem dX12_statementTold_66 : decode cX12_statementTold 66 = .ok (.ifCond .eq 12, 3) := by decide +kernel
theorem dX12_statementTold_69 : decode cX12_statementTold 69 = .ok (.aload_n 0, 1) := by decide +kernel
theorem dX12_statementTold_70 : decode cX12_statementTold 70 = .ok (.iconst 0, 1) := by decide +kernel
theorem dX12_statementTold_71 : decode cX12_statementTold 71 = .ok (.iload_n 1, 1) := by decide +kernel
theorem dX12_statementTold_72 : decode cX12_statementTold 72 = .ok (.invokevirtual 384, 3) := by decide +kernel
theorem dX12_statementTold_75 : decode cX12_statementTold 75 = .ok (.goto 104, 3) := by decide +kernel
theorem dX12_statementTold_78 : decode cX12_statementTold 78 = .ok (.aload_n 0, 1) := by decide +kernel
theorem dX12_statementTold_79 : decode cX12_statementTold 79 = .ok (.aload_n 0, 1) := by decide +kernel
theorem dX12_statementTold_80 : decode cX12_statementTold 80 = .ok (.getfield 45, 3) := by decide +kernel
theorem dX12_statementTold_83 : decode cX12_statementTold 83 = .ok (.invokevirtual 287, 3) := by decide +kernel
theorem dX12_statementTold_86 : decode cX12_statementTold 86 = .ok (.ifCond .eq 12, 3) := by decide +kernel
theorem dX12_statementTold_89 : decode cX12_statementTold 89 = .ok (.aload_n 0, 1) := by decide +kernel
theorem dX12_statementTold_90 : decode cX12_statementTold 90 = .ok (.iconst 1, 1) := by decide +kernel
theorem dX12_statementTold_91 : decode cX12_statementTold 91 = .ok (.iload_n 1, 1) := by decide +kernel
theorem dX12_statementTold_92 : decode cX12_statementTold 92 = .ok (.invokevirtual 384, 3) := by decide +kernel
theorem dX12_statementTold_95 : decode cX12_statementTold 95 = .ok (.goto 84, 3) := by decide +kernel
theorem dX12_statementTold_98 : decode cX12_statementTold 98 = .ok (.aload_n 0, 1) := by decide +kernel
theorem dX12_statementTold_99 : decode cX12_statementTold 99 = .ok (.aload_n 0, 1) := by decide +kernel
theorem dX12_statementTold_100 : decode cX12_statementTold 100 = .ok (.getfield 48, 3) := by decide +kernel
theorem dX12_statementTold_103 : decode cX12_statementTold 103 = .ok (.invokevirtual 287, 3) := by decide +kernel
theorem dX12_statementTold_106 : decode cX12_statementTold 106 = .ok (.ifCond .eq 12, 3) := by decide +kernel
theorem dX12_statementTold_109 : decode cX12_statementTold 109 = .ok (.aload_n 0, 1) := by decide +kernel
theorem dX12_statementTold_110 : decode cX12_statementTold 110 = .ok (.iconst 2, 1) := by decide +kernel
theorem dX12_statementTold_111 : decode cX12_statementTold 111 = .ok (.iload_n 1, 1) := by decide +kernel
theorem dX12_statementTold_112 : decode cX12_statementTold 112 = .ok (.invokevirtual 384, 3) := by decide +kernel
theorem dX12_statementTold_115 : decode cX12_statementTold 115 = .ok (.goto 64, 3) := by decide +kernel
theorem dX12_statementTold_118 : decode cX12_statementTold 118 = .ok (.aload_n 0, 1) := by decide +kernel
theorem dX12_statementTold_119 : decode cX12_statementTold 119 = .ok (.aload_n 0, 1) := by decide +kernel
theorem dX12_statementTold_120 : decode cX12_statementTold 120 = .ok (.getfield 51, 3) := by decide +kernel
theorem dX12_statementTold_123 : decode cX12_statementTold 123 = .ok (.invokevirtual 287, 3) := by decide +kernel
theorem dX12_statementTold_126 : decode cX12_statementTold 126 = .ok (.ifCond .eq 12, 3) := by decide +kernel
theorem dX12_statementTold_129 : decode cX12_statementTold 129 = .ok (.aload_n 0, 1) := by decide +kernel
theorem dX12_statementTold_130 : decode cX12_statementTold 130 = .ok (.iconst 3, 1) := by decide +kernel
theorem dX12_statementTold_131 : decode cX12_statementTold 131 = .ok (.iload_n 1, 1) := by decide +kernel
theorem dX12_statementTold_132 : decode cX12_statementTold 132 = .ok (.invokevirtual 384, 3) := by decide +kernel
theorem dX12_statementTold_135 : decode cX12_statementTold 135 = .ok (.goto 44, 3) := by decide +kernel
theorem dX12_statementTold_138 : decode cX12_statementTold 138 = .ok (.aload_n 0, 1) := by decide +kernel
theorem dX12_statementTold_139 : decode cX12_statementTold 139 = .ok (.aload_n 0, 1) := by decide +kernel
theorem dX12_statementTold_140 : decode cX12_statementTold 140 = .ok (.getfield 54, 3) := by decide +kernel
theorem dX12_statementTold_143 : decode cX12_statementTold 143 = .ok (.invokevirtual 287, 3) := by decide +kernel
theorem dX12_statementTold_146 : decode cX12_statementTold 146 = .ok (.ifCond .eq 12, 3) := by decide +kernel
theorem dX12_statementTold_149 : decode cX12_statementTold 149 = .ok (.aload_n 0, 1) := by decide +kernel
theorem dX12_statementTold_150 : decode cX12_statementTold 150 = .ok (.iconst 4, 1) := by decide +kernel
theorem dX12_statementTold_151 : decode cX12_statementTold 151 = .ok (.iload_n 1, 1) := by decide +kernel
theorem dX12_statementTold_152 : decode cX12_statementTold 152 = .ok (.invokevirtual 384, 3) := by decide +kernel
theorem dX12_statementTold_155 : decode cX12_statementTold 155 = .ok (.goto 24, 3) := by decide +kernel
theorem dX12_statementTold_158 : decode cX12_statementTold 158 = .ok (.aload_n 0, 1) := by decide +kernel
theorem dX12_statementTold_159 : decode cX12_statementTold 159 = .ok (.aload_n 0, 1) := by decide +kernel
theorem dX12_statementTold_160 : decode cX12_statementTold 160 = .ok (.getfield 57, 3) := by decide +kernel
theorem dX12_statementTold_163 : decode cX12_statementTold 163 = .ok (.invokevirtual 325, 3) := by decide +kernel
theorem dX12_statementTold_166 : decode cX12_statementTold 166 = .ok (.aload_n 0, 1) := by decide +kernel
theorem dX12_statementTold_167 : decode cX12_statementTold 167 = .ok (.getfield 93, 3) := by decide +kernel
theorem dX12_statementTold_170 : decode cX12_statementTold 170 = .ok (.iconst 1, 1) := by decide +kernel
theorem dX12_statementTold_171 : decode cX12_statementTold 171 = .ok (.aload_n 0, 1) := by decide +kernel
theorem dX12_statementTold_172 : decode cX12_statementTold 172 = .ok (.iconst 0, 1) := by decide +kernel
theorem dX12_statementTold_173 : decode cX12_statementTold 173 = .ok (.bipush 100, 2) := by decide +kernel
theorem dX12_statementTold_175 : decode cX12_statementTold 175 = .ok (.invokevirtual 329, 3) := by decide +kernel
theorem dX12_statementTold_178 : decode cX12_statementTold 178 = .ok (.iastore, 1) := by decide +kernel
theorem dX12_statementTold_179 : decode cX12_statementTold 179 = .ok (.aload_n 0, 1) := by decide +kernel
theorem dX12_statementTold_180 : decode cX12_statementTold 180 = .ok (.bipush 59, 2) := by decide +kernel
theorem dX12_statementTold_182 : decode cX12_statementTold 182 = .ok (.invokevirtual 333, 3) := by decide +kernel
theorem dX12_statementTold_185 : decode cX12_statementTold 185 = .ok (.aload_n 0, 1) := by decide +kernel
theorem dX12_statementTold_186 : decode cX12_statementTold 186 = .ok (.dup, 1) := by decide +kernel
theorem dX12_statementTold_187 : decode cX12_statementTold 187 = .ok (.getfield 375, 3) := by decide +kernel
theorem dX12_statementTold_190 : decode cX12_statementTold 190 = .ok (.iconst 1, 1) := by decide +kernel
theorem dX12_statementTold_191 : decode cX12_statementTold 191 = .ok (.iadd, 1) := by decide +kernel
theorem dX12_statementTold_192 : decode cX12_statementTold 192 = .ok (.putfield 375, 3) := by decide +kernel
theorem dX12_statementTold_195 : decode cX12_statementTold 195 = .ok (.return_, 1) := by decide +kernel
theorem dX12_duchy_0 : decode cX12_duchy 0 = .ok (.aload_n 0, 1) := by decide +kernel
theorem dX12_duchy_1 : decode cX12_duchy 1 = .ok (.aload_n 0, 1) := by decide +kernel
theorem dX12_duchy_2 : decode cX12_duchy 2 = .ok (.getfield 257, 3) := by decide +kernel
theorem dX12_duchy_5 : decode cX12_duchy 5 = .ok (.putfield 269, 3) := by decide +kernel
theorem dX12_duchy_8 : decode cX12_duchy 8 = .ok (.aload_n 0, 1) := by decide +kernel
theorem dX12_duchy_9 : decode cX12_duchy 9 = .ok (.iconst 0, 1) := by decide +kernel
theorem dX12_duchy_10 : decode cX12_duchy 10 = .ok (.putfield 257, 3) := by decide +kernel
theorem dX12_duchy_13 : decode cX12_duchy 13 = .ok (.aload_n 0, 1) := by decide +kernel
theorem dX12_duchy_14 : decode cX12_duchy 14 = .ok (.iconst 0, 1) := by decide +kernel
theorem dX12_duchy_15 : decode cX12_duchy 15 = .ok (.putfield 266, 3) := by decide +kernel
theorem dX12_duchy_18 : decode cX12_duchy 18 = .ok (.aload_n 0, 1) := by decide +kernel
theorem dX12_duchy_19 : decode cX12_duchy 19 = .ok (.iconst (-1), 1) := by decide +kernel
theorem dX12_duchy_20 : decode cX12_duchy 20 = .ok (.putfield 280, 3) := by decide +kernel
theorem dX12_duchy_23 : decode cX12_duchy 23 = .ok (.aload_n 0, 1) := by decide +kernel
theorem dX12_duchy_24 : decode cX12_duchy 24 = .ok (.iconst 0, 1) := by decide +kernel
theorem dX12_duchy_25 : decode cX12_duchy 25 = .ok (.putfield 260, 3) := by decide +kernel
theorem dX12_duchy_28 : decode cX12_duchy 28 = .ok (.aload_n 0, 1) := by decide +kernel
theorem dX12_duchy_29 : decode cX12_duchy 29 = .ok (.iconst (-1), 1) := by decide +kernel
theorem dX12_duchy_30 : decode cX12_duchy 30 = .ok (.putfield 263, 3) := by decide +kernel
theorem dX12_duchy_33 : decode cX12_duchy 33 = .ok (.aload_n 0, 1) := by decide +kernel
theorem dX12_duchy_34 : decode cX12_duchy 34 = .ok (.iconst 0, 1) := by decide +kernel
theorem dX12_duchy_35 : decode cX12_duchy 35 = .ok (.putfield 372, 3) := by decide +kernel
theorem dX12_duchy_38 : decode cX12_duchy 38 = .ok (.aload_n 0, 1) := by decide +kernel
theorem dX12_duchy_39 : decode cX12_duchy 39 = .ok (.iconst 0, 1) := by decide +kernel
theorem dX12_duchy_40 : decode cX12_duchy 40 = .ok (.putfield 337, 3) := by decide +kernel
theorem dX12_duchy_43 : decode cX12_duchy 43 = .ok (.aload_n 0, 1) := by decide +kernel
theorem dX12_duchy_44 : decode cX12_duchy 44 = .ok (.getfield 93, 3) := by decide +kernel
theorem dX12_duchy_47 : decode cX12_duchy 47 = .ok (.iconst 1, 1) := by decide +kernel
theorem dX12_duchy_48 : decode cX12_duchy 48 = .ok (.iconst 0, 1) := by decide +kernel
theorem dX12_duchy_49 : decode cX12_duchy 49 = .ok (.iastore, 1) := by decide +kernel
theorem dX12_duchy_50 : decode cX12_duchy 50 = .ok (.iconst 0, 1) := by decide +kernel
theorem dX12_duchy_51 : decode cX12_duchy 51 = .ok (.istore_n 1, 1) := by decide +kernel
theorem dX12_duchy_52 : decode cX12_duchy 52 = .ok (.iload_n 1, 1) := by decide +kernel
theorem dX12_duchy_53 : decode cX12_duchy 53 = .ok (.bipush 21, 2) := by decide +kernel
theorem dX12_duchy_55 : decode cX12_duchy 55 = .ok (.if_icmp .ge 16, 3) := by decide +kernel
theorem dX12_duchy_58 : decode cX12_duchy 58 = .ok (.aload_n 0, 1) := by decide +kernel
theorem dX12_duchy_59 : decode cX12_duchy 59 = .ok (.getfield 106, 3) := by decide +kernel
theorem dX12_duchy_62 : decode cX12_duchy 62 = .ok (.iload_n 1, 1) := by decide +kernel
theorem dX12_duchy_63 : decode cX12_duchy 63 = .ok (.iconst 0, 1) := by decide +kernel
theorem dX12_duchy_64 : decode cX12_duchy 64 = .ok (.iastore, 1) := by decide +kernel
theorem dX12_duchy_65 : decode cX12_duchy 65 = .ok (.iinc 1 1, 3) := by decide +kernel
theorem dX12_duchy_68 : decode cX12_duchy 68 = .ok (.goto (-16), 3) := by decide +kernel
theorem dX12_duchy_71 : decode cX12_duchy 71 = .ok (.iconst 0, 1) := by decide +kernel
theorem dX12_duchy_72 : decode cX12_duchy 72 = .ok (.istore_n 1, 1) := by decide +kernel
theorem dX12_duchy_73 : decode cX12_duchy 73 = .ok (.iload_n 1, 1) := by decide +kernel
theorem dX12_duchy_74 : decode cX12_duchy 74 = .ok (.iconst 5, 1) := by decide +kernel
theorem dX12_duchy_75 : decode cX12_duchy 75 = .ok (.if_icmp .ge 16, 3) := by decide +kernel
theorem dX12_duchy_78 : decode cX12_duchy 78 = .ok (.aload_n 0, 1) := by decide +kernel
theorem dX12_duchy_79 : decode cX12_duchy 79 = .ok (.getfield 109, 3) := by decide +kernel
theorem dX12_duchy_82 : decode cX12_duchy 82 = .ok (.iload_n 1, 1) := by decide +kernel
theorem dX12_duchy_83 : decode cX12_duchy 83 = .ok (.iconst (-1), 1) := by decide +kernel
theorem dX12_duchy_84 : decode cX12_duchy 84 = .ok (.iastore, 1) := by decide +kernel
theorem dX12_duchy_85 : decode cX12_duchy 85 = .ok (.iinc 1 1, 3) := by decide +kernel
theorem dX12_duchy_88 : decode cX12_duchy 88 = .ok (.goto (-15), 3) := by decide +kernel
theorem dX12_duchy_91 : decode cX12_duchy 91 = .ok (.aload_n 0, 1) := by decide +kernel
theorem dX12_duchy_92 : decode cX12_duchy 92 = .ok (.invokevirtual 387, 3) := by decide +kernel
theorem dX12_duchy_95 : decode cX12_duchy 95 = .ok (.aload_n 0, 1) := by decide +kernel
theorem dX12_duchy_96 : decode cX12_duchy 96 = .ok (.iconst 1, 1) := by decide +kernel
theorem dX12_duchy_97 : decode cX12_duchy 97 = .ok (.putfield 375, 3) := by decide +kernel
theorem dX12_duchy_100 : decode cX12_duchy 100 = .ok (.aload_n 0, 1) := by decide +kernel
theorem dX12_duchy_101 : decode cX12_duchy 101 = .ok (.getfield 260, 3) := by decide +kernel
theorem dX12_duchy_104 : decode cX12_duchy 104 = .ok (.ifCond .ne 18, 3) := by decide +kernel
theorem dX12_duchy_107 : decode cX12_duchy 107 = .ok (.aload_n 0, 1) := by decide +kernel
theorem dX12_duchy_108 : decode cX12_duchy 108 = .ok (.invokevirtual 272, 3) := by decide +kernel
theorem dX12_duchy_111 : decode cX12_duchy 111 = .ok (.iconst (-1), 1) := by decide +kernel
theorem dX12_duchy_112 : decode cX12_duchy 112 = .ok (.if_icmp .eq 10, 3) := by decide +kernel
theorem dX12_duchy_115 : decode cX12_duchy 115 = .ok (.aload_n 0, 1) := by decide +kernel
theorem dX12_duchy_116 : decode cX12_duchy 116 = .ok (.invokevirtual 390, 3) := by decide +kernel
theorem dX12_duchy_119 : decode cX12_duchy 119 = .ok (.goto (-19), 3) := by decide +kernel
theorem dX12_duchy_122 : decode cX12_duchy 122 = .ok (.aload_n 0, 1) := by decide +kernel
theorem dX12_duchy_123 : decode cX12_duchy 123 = .ok (.aload_n 0, 1) := by decide +kernel
theorem dX12_duchy_124 : decode cX12_duchy 124 = .ok (.getfield 260, 3) := by decide +kernel
theorem dX12_duchy_127 : decode cX12_duchy 127 = .ok (.putfield 393, 3) := by decide +kernel
theorem dX12_duchy_130 : decode cX12_duchy 130 = .ok (.aload_n 0, 1) := by decide +kernel
theorem dX12_duchy_131 : decode cX12_duchy 131 = .ok (.aload_n 0, 1) := by decide +kernel
theorem dX12_duchy_132 : decode cX12_duchy 132 = .ok (.getfield 263, 3) := by decide +kernel
theorem dX12_duchy_135 : decode cX12_duchy 135 = .ok (.putfield 13, 3) := by decide +kernel
theorem dX12_duchy_138 : decode cX12_duchy 138 = .ok (.aload_n 0, 1) := by decide +kernel
theorem dX12_duchy_139 : decode cX12_duchy 139 = .ok (.getfield 260, 3) := by decide +kernel
theorem dX12_duchy_142 : decode cX12_duchy 142 = .ok (.ifCond .eq 15, 3) := by decide +kernel
theorem dX12_duchy_145 : decode cX12_duchy 145 = .ok (.aload_n 0, 1) := by decide +kernel
theorem dX12_duchy_146 : decode cX12_duchy 146 = .ok (.getfield 17, 3) := by decide +kernel
theorem dX12_duchy_149 : decode cX12_duchy 149 = .ok (.iconst 1, 1) := by decide +kernel
theorem dX12_duchy_150 : decode cX12_duchy 150 = .ok (.dup2, 1) := by decide +kernel
theorem dX12_duchy_151 : decode cX12_duchy 151 = .ok (.iaload, 1) := by decide +kernel
theorem dX12_duchy_152 : decode cX12_duchy 152 = .ok (.iconst 1, 1) := by decide +kernel
theorem dX12_duchy_153 : decode cX12_duchy 153 = .ok (.iadd, 1) := by decide +kernel
theorem dX12_duchy_154 : decode cX12_duchy 154 = .ok (.iastore, 1) := by decide +kernel
theorem dX12_duchy_155 : decode cX12_duchy 155 = .ok (.iconst (-1), 1) := by decide +kernel
theorem dX12_duchy_156 : decode cX12_duchy 156 = .ok (.ireturn, 1) := by decide +kernel
theorem dX12_duchy_157 : decode cX12_duchy 157 = .ok (.aload_n 0, 1) := by decide +kernel
theorem dX12_duchy_158 : decode cX12_duchy 158 = .ok (.invokevirtual 396, 3) := by decide +kernel
theorem dX12_duchy_161 : decode cX12_duchy 161 = .ok (.aload_n 0, 1) := by decide +kernel
theorem dX12_duchy_162 : decode cX12_duchy 162 = .ok (.getfield 375, 3) := by decide +kernel
theorem dX12_duchy_165 : decode cX12_duchy 165 = .ok (.ireturn, 1) := by decide +kernel
theorem dX12_stands_0 : decode cX12_stands 0 = .ok (.aload_n 0, 1) := by decide +kernel
theorem dX12_stands_1 : decode cX12_stands 1 = .ok (.iconst 1, 1) := by decide +kernel
theorem dX12_stands_2 : decode cX12_stands 2 = .ok (.putfield 399, 3) := by decide +kernel
theorem dX12_stands_5 : decode cX12_stands 5 = .ok (.aload_n 0, 1) := by decide +kernel
theorem dX12_stands_6 : decode cX12_stands 6 = .ok (.aload_n 0, 1) := by decide +kernel
theorem dX12_stands_7 : decode cX12_stands 7 = .ok (.getfield 337, 3) := by decide +kernel
theorem dX12_stands_10 : decode cX12_stands 10 = .ok (.putfield 403, 3) := by decide +kernel
theorem dX12_stands_13 : decode cX12_stands 13 = .ok (.iconst 0, 1) := by decide +kernel
theorem dX12_stands_14 : decode cX12_stands 14 = .ok (.istore_n 1, 1) := by decide +kernel
theorem dX12_stands_15 : decode cX12_stands 15 = .ok (.iload_n 1, 1) := by decide +kernel
theorem dX12_stands_16 : decode cX12_stands 16 = .ok (.iconst 2, 1) := by decide +kernel
theorem dX12_stands_17 : decode cX12_stands 17 = .ok (.if_icmp .ge 23, 3) := by decide +kernel
theorem dX12_stands_20 : decode cX12_stands 20 = .ok (.aload_n 0, 1) := by decide +kernel
theorem dX12_stands_21 : decode cX12_stands 21 = .ok (.getfield 93, 3) := by decide +kernel
theorem dX12_stands_24 : decode cX12_stands 24 = .ok (.iconst 2, 1) := by decide +kernel
theorem dX12_stands_25 : decode cX12_stands 25 = .ok (.iload_n 1, 1) := by decide +kernel
theorem dX12_stands_26 : decode cX12_stands 26 = .ok (.iadd, 1) := by decide +kernel
theorem dX12_stands_27 : decode cX12_stands 27 = .ok (.aload_n 0, 1) := by decide +kernel
theorem dX12_stands_28 : decode cX12_stands 28 = .ok (.getfield 93, 3) := by decide +kernel
theorem dX12_stands_31 : decode cX12_stands 31 = .ok (.iload_n 1, 1) := by decide +kernel
theorem dX12_stands_32 : decode cX12_stands 32 = .ok (.iaload, 1) := by decide +kernel
theorem dX12_stands_33 : decode cX12_stands 33 = .ok (.iastore, 1) := by decide +kernel
theorem dX12_stands_34 : decode cX12_stands 34 = .ok (.iinc 1 1, 3) := by decide +kernel
theorem dX12_stands_37 : decode cX12_stands 37 = .ok (.goto (-22), 3) := by decide +kernel
theorem dX12_stands_40 : decode cX12_stands 40 = .ok (.iconst 0, 1) := by decide +kernel
theorem dX12_stands_41 : decode cX12_stands 41 = .ok (.istore_n 1, 1) := by decide +kernel
theorem dX12_stands_42 : decode cX12_stands 42 = .ok (.iload_n 1, 1) := by decide +kernel
theorem dX12_stands_43 : decode cX12_stands 43 = .ok (.iconst 5, 1) := by decide +kernel
theorem dX12_stands_44 : decode cX12_stands 44 = .ok (.if_icmp .ge 37, 3) := by decide +kernel
theorem dX12_stands_47 : decode cX12_stands 47 = .ok (.aload_n 0, 1) := by decide +kernel
theorem dX12_stands_48 : decode cX12_stands 48 = .ok (.getfield 109, 3) := by decide +kernel
theorem dX12_stands_51 : decode cX12_stands 51 = .ok (.iconst 5, 1) := by decide +kernel
theorem dX12_stands_52 : decode cX12_stands 52 = .ok (.iload_n 1, 1) := by decide +kernel
theorem dX12_stands_53 : decode cX12_stands 53 = .ok (.iadd, 1) := by decide +kernel
theorem dX12_stands_54 : decode cX12_stands 54 = .ok (.aload_n 0, 1) := by decide +kernel
theorem dX12_stands_55 : decode cX12_stands 55 = .ok (.getfield 109, 3) := by decide +kernel
theorem dX12_stands_58 : decode cX12_stands 58 = .ok (.iload_n 1, 1) := by decide +kernel
theorem dX12_stands_59 : decode cX12_stands 59 = .ok (.iaload, 1) := by decide +kernel
theorem dX12_stands_60 : decode cX12_stands 60 = .ok (.iastore, 1) := by decide +kernel
theorem dX12_stands_61 : decode cX12_stands 61 = .ok (.aload_n 0, 1) := by decide +kernel
theorem dX12_stands_62 : decode cX12_stands 62 = .ok (.getfield 112, 3) := by decide +kernel
theorem dX12_stands_65 : decode cX12_stands 65 = .ok (.iconst 5, 1) := by decide +kernel
theorem dX12_stands_66 : decode cX12_stands 66 = .ok (.iload_n 1, 1) := by decide +kernel
theorem dX12_stands_67 : decode cX12_stands 67 = .ok (.iadd, 1) := by decide +kernel
theorem dX12_stands_68 : decode cX12_stands 68 = .ok (.aload_n 0, 1) := by decide +kernel
theorem dX12_stands_69 : decode cX12_stands 69 = .ok (.getfield 112, 3) := by decide +kernel
theorem dX12_stands_72 : decode cX12_stands 72 = .ok (.iload_n 1, 1) := by decide +kernel
theorem dX12_stands_73 : decode cX12_stands 73 = .ok (.iaload, 1) := by decide +kernel
theorem dX12_stands_74 : decode cX12_stands 74 = .ok (.iastore, 1) := by decide +kernel
theorem dX12_stands_75 : decode cX12_stands 75 = .ok (.iinc 1 1, 3) := by decide +kernel
theorem dX12_stands_78 : decode cX12_stands 78 = .ok (.goto (-36), 3) := by decide +kernel
theorem dX12_stands_81 : decode cX12_stands 81 = .ok (.iconst 0, 1) := by decide +kernel
theorem dX12_stands_82 : decode cX12_stands 82 = .ok (.istore_n 1, 1) := by decide +kernel
theorem dX12_stands_83 : decode cX12_stands 83 = .ok (.iload_n 1, 1) := by decide +kernel
theorem dX12_stands_84 : decode cX12_stands 84 = .ok (.bipush 7, 2) := by decide +kernel
theorem dX12_stands_86 : decode cX12_stands 86 = .ok (.if_icmp .ge 39, 3) := by decide +kernel
theorem dX12_stands_89 : decode cX12_stands 89 = .ok (.aload_n 0, 1) := by decide +kernel
theorem dX12_stands_90 : decode cX12_stands 90 = .ok (.getfield 96, 3) := by decide +kernel
theorem dX12_stands_93 : decode cX12_stands 93 = .ok (.bipush 7, 2) := by decide +kernel
theorem dX12_stands_95 : decode cX12_stands 95 = .ok (.iload_n 1, 1) := by decide +kernel
theorem dX12_stands_96 : decode cX12_stands 96 = .ok (.iadd, 1) := by decide +kernel
theorem dX12_stands_97 : decode cX12_stands 97 = .ok (.aload_n 0, 1) := by decide +kernel
theorem dX12_stands_98 : decode cX12_stands 98 = .ok (.getfield 96, 3) := by decide +kernel
theorem dX12_stands_101 : decode cX12_stands 101 = .ok (.iload_n 1, 1) := by decide +kernel
theorem dX12_stands_102 : decode cX12_stands 102 = .ok (.laload, 1) := by decide +kernel
theorem dX12_stands_103 : decode cX12_stands 103 = .ok (.lastore, 1) := by decide +kernel
theorem dX12_stands_104 : decode cX12_stands 104 = .ok (.aload_n 0, 1) := by decide +kernel
theorem dX12_stands_105 : decode cX12_stands 105 = .ok (.getfield 103, 3) := by decide +kernel
theorem dX12_stands_108 : decode cX12_stands 108 = .ok (.bipush 7, 2) := by decide +kernel
theorem dX12_stands_110 : decode cX12_stands 110 = .ok (.iload_n 1, 1) := by decide +kernel
theorem dX12_stands_111 : decode cX12_stands 111 = .ok (.iadd, 1) := by decide +kernel
theorem dX12_stands_112 : decode cX12_stands 112 = .ok (.aload_n 0, 1) := by decide +kernel
theorem dX12_stands_113 : decode cX12_stands 113 = .ok (.getfield 103, 3) := by decide +kernel
theorem dX12_stands_116 : decode cX12_stands 116 = .ok (.iload_n 1, 1) := by decide +kernel
theorem dX12_stands_117 : decode cX12_stands 117 = .ok (.iaload, 1) := by decide +kernel
theorem dX12_stands_118 : decode cX12_stands 118 = .ok (.iastore, 1) := by decide +kernel
theorem dX12_stands_119 : decode cX12_stands 119 = .ok (.iinc 1 1, 3) := by decide +kernel
theorem dX12_stands_122 : decode cX12_stands 122 = .ok (.goto (-39), 3) := by decide +kernel
theorem dX12_stands_125 : decode cX12_stands 125 = .ok (.iconst 0, 1) := by decide +kernel
theorem dX12_stands_126 : decode cX12_stands 126 = .ok (.istore_n 1, 1) := by decide +kernel
theorem dX12_stands_127 : decode cX12_stands 127 = .ok (.iload_n 1, 1) := by decide +kernel
theorem dX12_stands_128 : decode cX12_stands 128 = .ok (.aload_n 0, 1) := by decide +kernel
theorem dX12_stands_129 : decode cX12_stands 129 = .ok (.getfield 372, 3) := by decide +kernel
theorem dX12_stands_132 : decode cX12_stands 132 = .ok (.if_icmp .ge 25, 3) := by decide +kernel
theorem dX12_stands_135 : decode cX12_stands 135 = .ok (.aload_n 0, 1) := by decide +kernel
theorem dX12_stands_136 : decode cX12_stands 136 = .ok (.getfield 115, 3) := by decide +kernel
theorem dX12_stands_139 : decode cX12_stands 139 = .ok (.sipush 1600, 3) := by decide +kernel
theorem dX12_stands_142 : decode cX12_stands 142 = .ok (.iload_n 1, 1) := by decide +kernel
theorem dX12_stands_143 : decode cX12_stands 143 = .ok (.iadd, 1) := by decide +kernel
theorem dX12_stands_144 : decode cX12_stands 144 = .ok (.aload_n 0, 1) := by decide +kernel
theorem dX12_stands_145 : decode cX12_stands 145 = .ok (.getfield 115, 3) := by decide +kernel
theorem dX12_stands_148 : decode cX12_stands 148 = .ok (.iload_n 1, 1) := by decide +kernel
theorem dX12_stands_149 : decode cX12_stands 149 = .ok (.iaload, 1) := by decide +kernel
theorem dX12_stands_150 : decode cX12_stands 150 = .ok (.iastore, 1) := by decide +kernel
theorem dX12_stands_151 : decode cX12_stands 151 = .ok (.iinc 1 1, 3) := by decide +kernel
theorem dX12_stands_154 : decode cX12_stands 154 = .ok (.goto (-27), 3) := by decide +kernel
theorem dX12_stands_157 : decode cX12_stands 157 = .ok (.iconst 0, 1) := by decide +kernel
theorem dX12_stands_158 : decode cX12_stands 158 = .ok (.istore_n 1, 1) := by decide +kernel
theorem dX12_stands_159 : decode cX12_stands 159 = .ok (.iload_n 1, 1) := by decide +kernel
theorem dX12_stands_160 : decode cX12_stands 160 = .ok (.sipush 204, 3) := by decide +kernel
theorem dX12_stands_163 : decode cX12_stands 163 = .ok (.if_icmp .ge 16, 3) := by decide +kernel
theorem dX12_stands_166 : decode cX12_stands 166 = .ok (.aload_n 0, 1) := by decide +kernel
theorem dX12_stands_167 : decode cX12_stands 167 = .ok (.getfield 118, 3) := by decide +kernel
theorem dX12_stands_170 : decode cX12_stands 170 = .ok (.iload_n 1, 1) := by decide +kernel
theorem dX12_stands_171 : decode cX12_stands 171 = .ok (.iconst 0, 1) := by decide +kernel
theorem dX12_stands_172 : decode cX12_stands 172 = .ok (.iastore, 1) := by decide +kernel
theorem dX12_stands_173 : decode cX12_stands 173 = .ok (.iinc 1 1, 3) := by decide +kernel
theorem dX12_stands_176 : decode cX12_stands 176 = .ok (.goto (-17), 3) := by decide +kernel
theorem dX12_stands_179 : decode cX12_stands 179 = .ok (.iconst 0, 1) := by decide +kernel
theorem dX12_stands_180 : decode cX12_stands 180 = .ok (.istore_n 1, 1) := by decide +kernel
theorem dX12_stands_181 : decode cX12_stands 181 = .ok (.iload_n 1, 1) := by decide +kernel
theorem dX12_stands_182 : decode cX12_stands 182 = .ok (.aload_n 0, 1) := by decide +kernel
theorem dX12_stands_183 : decode cX12_stands 183 = .ok (.getfield 403, 3) := by decide +kernel
theorem dX12_stands_186 : decode cX12_stands 186 = .ok (.if_icmp .ge 36, 3) := by decide +kernel
theorem dX12_stands_189 : decode cX12_stands 189 = .ok (.aload_n 0, 1) := by decide +kernel
theorem dX12_stands_190 : decode cX12_stands 190 = .ok (.getfield 118, 3) := by decide +kernel
theorem dX12_stands_193 : decode cX12_stands 193 = .ok (.iconst 1, 1) := by decide +kernel
theorem dX12_stands_194 : decode cX12_stands 194 = .ok (.iconst 3, 1) := by decide +kernel
theorem dX12_stands_195 : decode cX12_stands 195 = .ok (.iload_n 1, 1) := by decide +kernel
theorem dX12_stands_196 : decode cX12_stands 196 = .ok (.imul, 1) := by decide +kernel
theorem dX12_stands_197 : decode cX12_stands 197 = .ok (.iadd, 1) := by decide +kernel
theorem dX12_stands_198 : decode cX12_stands 198 = .ok (.iconst 1, 1) := by decide +kernel
theorem dX12_stands_199 : decode cX12_stands 199 = .ok (.iastore, 1) := by decide +kernel
theorem dX12_stands_200 : decode cX12_stands 200 = .ok (.aload_n 0, 1) := by decide +kernel
theorem dX12_stands_201 : decode cX12_stands 201 = .ok (.getfield 118, 3) := by decide +kernel
theorem dX12_stands_204 : decode cX12_stands 204 = .ok (.iconst 2, 1) := by decide +kernel
theorem dX12_stands_205 : decode cX12_stands 205 = .ok (.iconst 3, 1) := by decide +kernel
theorem dX12_stands_206 : decode cX12_stands 206 = .ok (.iload_n 1, 1) := by decide +kernel
theorem dX12_stands_207 : decode cX12_stands 207 = .ok (.imul, 1) := by decide +kernel
theorem dX12_stands_208 : decode cX12_stands 208 = .ok (.iadd, 1) := by decide +kernel
theorem dX12_stands_209 : decode cX12_stands 209 = .ok (.aload_n 0, 1) := by decide +kernel
theorem dX12_stands_210 : decode cX12_stands 210 = .ok (.getfield 100, 3) := by decide +kernel
theorem dX12_stands_213 : decode cX12_stands 213 = .ok (.iload_n 1, 1) := by decide +kernel
theorem dX12_stands_214 : decode cX12_stands 214 = .ok (.iaload, 1) := by decide +kernel
theorem dX12_stands_215 : decode cX12_stands 215 = .ok (.iastore, 1) := by decide +kernel
theorem dX12_stands_216 : decode cX12_stands 216 = .ok (.iinc 1 1, 3) := by decide +kernel
theorem dX12_stands_219 : decode cX12_stands 219 = .ok (.goto (-38), 3) := by decide +kernel
theorem dX12_stands_222 : decode cX12_stands 222 = .ok (.iconst 0, 1) := by decide +kernel
theorem dX12_stands_223 : decode cX12_stands 223 = .ok (.istore_n 1, 1) := by decide +kernel
theorem dX12_stands_224 : decode cX12_stands 224 = .ok (.iload_n 1, 1) := by decide +kernel
theorem dX12_stands_225 : decode cX12_stands 225 = .ok (.bipush 21, 2) := by decide +kernel
theorem dX12_stands_227 : decode cX12_stands 227 = .ok (.if_icmp .ge 24, 3) := by decide +kernel
theorem dX12_stands_230 : decode cX12_stands 230 = .ok (.aload_n 0, 1) := by decide +kernel
theorem dX12_stands_231 : decode cX12_stands 231 = .ok (.getfield 118, 3) := by decide +kernel
theorem dX12_stands_234 : decode cX12_stands 234 = .ok (.bipush 22, 2) := by decide +kernel
theorem dX12_stands_236 : decode cX12_stands 236 = .ok (.iload_n 1, 1) := by decide +kernel
theorem dX12_stands_237 : decode cX12_stands 237 = .ok (.iadd, 1) := by decide +kernel
theorem dX12_stands_238 : decode cX12_stands 238 = .ok (.aload_n 0, 1) := by decide +kernel
theorem dX12_stands_239 : decode cX12_stands 239 = .ok (.getfield 106, 3) := by decide +kernel
theorem dX12_stands_242 : decode cX12_stands 242 = .ok (.iload_n 1, 1) := by decide +kernel
theorem dX12_stands_243 : decode cX12_stands 243 = .ok (.iaload, 1) := by decide +kernel
theorem dX12_stands_244 : decode cX12_stands 244 = .ok (.iastore, 1) := by decide +kernel
theorem dX12_stands_245 : decode cX12_stands 245 = .ok (.iinc 1 1, 3) := by decide +kernel
theorem dX12_stands_248 : decode cX12_stands 248 = .ok (.goto (-24), 3) := by decide +kernel
theorem dX12_stands_251 : decode cX12_stands 251 = .ok (.aload_n 0, 1) := by decide +kernel
theorem dX12_stands_252 : decode cX12_stands 252 = .ok (.iconst 0, 1) := by decide +kernel
theorem dX12_stands_253 : decode cX12_stands 253 = .ok (.putfield 406, 3) := by decide +kernel
theorem dX12_stands_256 : decode cX12_stands 256 = .ok (.aload_n 0, 1) := by decide +kernel
theorem dX12_stands_257 : decode cX12_stands 257 = .ok (.iconst 0, 1) := by decide +kernel
theorem dX12_stands_258 : decode cX12_stands 258 = .ok (.putfield 409, 3) := by decide +kernel
theorem dX12_stands_261 : decode cX12_stands 261 = .ok (.return_, 1) := by decide +kernel
theorem dX12_fault_0 : decode cX12_fault 0 = .ok (.iload_n 1, 1) := by decide +kernel
theorem dX12_fault_1 : decode cX12_fault 1 = .ok (.ifCond .ne 10, 3) := by decide +kernel
theorem dX12_fault_4 : decode cX12_fault 4 = .ok (.aload_n 0, 1) := by decide +kernel
theorem dX12_fault_5 : decode cX12_fault 5 = .ok (.getfield 393, 3) := by decide +kernel
theorem dX12_fault_8 : decode cX12_fault 8 = .ok (.goto 16, 3) := by decide +kernel
theorem dX12_fault_11 : decode cX12_fault 11 = .ok (.iload_n 1, 1) := by decide +kernel
theorem dX12_fault_12 : decode cX12_fault 12 = .ok (.iconst 1, 1) := by decide +kernel
theorem dX12_fault_13 : decode cX12_fault 13 = .ok (.if_icmp .ne 10, 3) := by decide +kernel
theorem dX12_fault_16 : decode cX12_fault 16 = .ok (.aload_n 0, 1) := by decide +kernel
theorem dX12_fault_17 : decode cX12_fault 17 = .ok (.getfield 13, 3) := by decide +kernel
theorem dX12_fault_20 : decode cX12_fault 20 = .ok (.goto 4, 3) := by decide +kernel
theorem dX12_fault_23 : decode cX12_fault 23 = .ok (.iconst (-1), 1) := by decide +kernel
theorem dX12_fault_24 : decode cX12_fault 24 = .ok (.ireturn, 1) := by decide +kernel
theorem dX12_houseMany_0 : decode cX12_houseMany 0 = .ok (.aload_n 0, 1) := by decide +kernel
theorem dX12_houseMany_1 : decode cX12_houseMany 1 = .ok (.getfield 403, 3) := by decide +kernel
theorem dX12_houseMany_4 : decode cX12_houseMany 4 = .ok (.ireturn, 1) := by decide +kernel
theorem dX12_isHouse_0 : decode cX12_isHouse 0 = .ok (.lload_n 1, 1) := by decide +kernel
theorem dX12_isHouse_1 : decode cX12_isHouse 1 = .ok (.lconst 0, 1) := by decide +kernel
theorem dX12_isHouse_2 : decode cX12_isHouse 2 = .ok (.aload_n 0, 1) := by decide +kernel
theorem dX12_isHouse_3 : decode cX12_isHouse 3 = .ok (.invokevirtual 412, 3) := by decide +kernel
theorem dX12_isHouse_6 : decode cX12_isHouse 6 = .ok (.iconst 1, 1) := by decide +kernel
theorem dX12_isHouse_7 : decode cX12_isHouse 7 = .ok (.isub, 1) := by decide +kernel
theorem dX12_isHouse_8 : decode cX12_isHouse 8 = .ok (.i2l, 1) := by decide +kernel
theorem dX12_isHouse_9 : decode cX12_isHouse 9 = .ok (.invokestatic 303, 3) := by decide +kernel
theorem dX12_isHouse_12 : decode cX12_isHouse 12 = .ok (.ireturn, 1) := by decide +kernel
theorem dX12_isThere_0 : decode cX12_isThere 0 = .ok (.aload_n 0, 1) := by decide +kernel
theorem dX12_isThere_1 : decode cX12_isThere 1 = .ok (.getfield 118, 3) := by decide +kernel
theorem dX12_isThere_4 : decode cX12_isThere 4 = .ok (.iconst 1, 1) := by decide +kernel
theorem dX12_isThere_5 : decode cX12_isThere 5 = .ok (.iconst 3, 1) := by decide +kernel
theorem dX12_isThere_6 : decode cX12_isThere 6 = .ok (.iload_n 1, 1) := by decide +kernel
theorem dX12_isThere_7 : decode cX12_isThere 7 = .ok (.imul, 1) := by decide +kernel
theorem dX12_isThere_8 : decode cX12_isThere 8 = .ok (.iadd, 1) := by decide +kernel
theorem dX12_isThere_9 : decode cX12_isThere 9 = .ok (.iaload, 1) := by decide +kernel
theorem dX12_isThere_10 : decode cX12_isThere 10 = .ok (.iconst 1, 1) := by decide +kernel
theorem dX12_isThere_11 : decode cX12_isThere 11 = .ok (.if_icmp .ne 7, 3) := by decide +kernel
theorem dX12_isThere_14 : decode cX12_isThere 14 = .ok (.iconst 1, 1) := by decide +kernel
theorem dX12_isThere_15 : decode cX12_isThere 15 = .ok (.goto 4, 3) := by decide +kernel
theorem dX12_isThere_18 : decode cX12_isThere 18 = .ok (.iconst 0, 1) := by decide +kernel
theorem dX12_isThere_19 : decode cX12_isThere 19 = .ok (.ireturn, 1) := by decide +kernel
theorem dX12_flourOf_0 : decode cX12_flourOf 0 = .ok (.aload_n 0, 1) := by decide +kernel
theorem dX12_flourOf_1 : decode cX12_flourOf 1 = .ok (.getfield 118, 3) := by decide +kernel
theorem dX12_flourOf_4 : decode cX12_flourOf 4 = .ok (.iconst 2, 1) := by decide +kernel
theorem dX12_flourOf_5 : decode cX12_flourOf 5 = .ok (.iconst 3, 1) := by decide +kernel
theorem dX12_flourOf_6 : decode cX12_flourOf 6 = .ok (.iload_n 1, 1) := by decide +kernel
theorem dX12_flourOf_7 : decode cX12_flourOf 7 = .ok (.imul, 1) := by decide +kernel
theorem dX12_flourOf_8 : decode cX12_flourOf 8 = .ok (.iadd, 1) := by decide +kernel
theorem dX12_flourOf_9 : decode cX12_flourOf 9 = .ok (.iaload, 1) := by decide +kernel
theorem dX12_flourOf_10 : decode cX12_flourOf 10 = .ok (.ireturn, 1) := by decide +kernel
theorem dX12_hungerOf_0 : decode cX12_hungerOf 0 = .ok (.aload_n 0, 1) := by decide +kernel
theorem dX12_hungerOf_1 : decode cX12_hungerOf 1 = .ok (.getfield 118, 3) := by decide +kernel
theorem dX12_hungerOf_4 : decode cX12_hungerOf 4 = .ok (.iconst 3, 1) := by decide +kernel
theorem dX12_hungerOf_5 : decode cX12_hungerOf 5 = .ok (.iconst 3, 1) := by decide +kernel
theorem dX12_hungerOf_6 : decode cX12_hungerOf 6 = .ok (.iload_n 1, 1) := by decide +kernel
theorem dX12_hungerOf_7 : decode cX12_hungerOf 7 = .ok (.imul, 1) := by decide +kernel
theorem dX12_hungerOf_8 : decode cX12_hungerOf 8 = .ok (.iadd, 1) := by decide +kernel
theorem dX12_hungerOf_9 : decode cX12_hungerOf 9 = .ok (.iaload, 1) := by decide +kernel
theorem dX12_hungerOf_10 : decode cX12_hungerOf 10 = .ok (.ireturn, 1) := by decide +kernel
theorem dX12_hateOf_0 : decode cX12_hateOf 0 = .ok (.aload_n 0, 1) := by decide +kernel
theorem dX12_hateOf_1 : decode cX12_hateOf 1 = .ok (.getfield 118, 3) := by decide +kernel
theorem dX12_hateOf_4 : decode cX12_hateOf 4 = .ok (.bipush 22, 2) := by decide +kernel
theorem dX12_hateOf_6 : decode cX12_hateOf 6 = .ok (.iload_n 1, 1) := by decide +kernel
theorem dX12_hateOf_7 : decode cX12_hateOf 7 = .ok (.iload_n 2, 1) := by decide +kernel
theorem dX12_hateOf_8 : decode cX12_hateOf 8 = .ok (.invokestatic 347, 3) := by decide +kernel
theorem dX12_hateOf_11 : decode cX12_hateOf 11 = .ok (.iadd, 1) := by decide +kernel
theorem dX12_hateOf_12 : decode cX12_hateOf 12 = .ok (.iaload, 1) := by decide +kernel
theorem dX12_hateOf_13 : decode cX12_hateOf 13 = .ok (.ireturn, 1) := by decide +kernel
theorem dX12_areEnemies_0 : decode cX12_areEnemies 0 = .ok (.iload_n 1, 1) := by decide +kernel
theorem dX12_areEnemies_1 : decode cX12_areEnemies 1 = .ok (.iload_n 2, 1) := by decide +kernel
theorem dX12_areEnemies_2 : decode cX12_areEnemies 2 = .ok (.if_icmp .eq 16, 3) := by decide +kernel
theorem dX12_areEnemies_5 : decode cX12_areEnemies 5 = .ok (.aload_n 0, 1) := by decide +kernel
theorem dX12_areEnemies_6 : decode cX12_areEnemies 6 = .ok (.iload_n 1, 1) := by decide +kernel
theorem dX12_areEnemies_7 : decode cX12_areEnemies 7 = .ok (.iload_n 2, 1) := by decide +kernel
theorem dX12_areEnemies_8 : decode cX12_areEnemies 8 = .ok (.invokevirtual 415, 3) := by decide +kernel
theorem dX12_areEnemies_11 : decode cX12_areEnemies 11 = .ok (.ifCond .le 7, 3) := by decide +kernel
theorem dX12_areEnemies_14 : decode cX12_areEnemies 14 = .ok (.iconst 1, 1) := by decide +kernel
theorem dX12_areEnemies_15 : decode cX12_areEnemies 15 = .ok (.goto 4, 3) := by decide +kernel
theorem dX12_areEnemies_18 : decode cX12_areEnemies 18 = .ok (.iconst 0, 1) := by decide +kernel
theorem dX12_areEnemies_19 : decode cX12_areEnemies 19 = .ok (.ireturn, 1) := by decide +kernel
theorem dX12_enemyMany_0 : decode cX12_enemyMany 0 = .ok (.iconst 0, 1) := by decide +kernel
theorem dX12_enemyMany_1 : decode cX12_enemyMany 1 = .ok (.istore_n 2, 1) := by decide +kernel
theorem dX12_enemyMany_2 : decode cX12_enemyMany 2 = .ok (.iconst 0, 1) := by decide +kernel
theorem dX12_enemyMany_3 : decode cX12_enemyMany 3 = .ok (.istore_n 3, 1) := by decide +kernel
theorem dX12_enemyMany_4 : decode cX12_enemyMany 4 = .ok (.iload_n 3, 1) := by decide +kernel
theorem dX12_enemyMany_5 : decode cX12_enemyMany 5 = .ok (.aload_n 0, 1) := by decide +kernel
theorem dX12_enemyMany_6 : decode cX12_enemyMany 6 = .ok (.invokevirtual 412, 3) := by decide +kernel
theorem dX12_enemyMany_9 : decode cX12_enemyMany 9 = .ok (.if_icmp .ge 21, 3) := by decide +kernel
theorem dX12_enemyMany_12 : decode cX12_enemyMany 12 = .ok (.aload_n 0, 1) := by decide +kernel
theorem dX12_enemyMany_13 : decode cX12_enemyMany 13 = .ok (.iload_n 1, 1) := by decide +kernel
theorem dX12_enemyMany_14 : decode cX12_enemyMany 14 = .ok (.iload_n 3, 1) := by decide +kernel
theorem dX12_enemyMany_15 : decode cX12_enemyMany 15 = .ok (.invokevirtual 418, 3) := by decide +kernel
theorem dX12_enemyMany_18 : decode cX12_enemyMany 18 = .ok (.ifCond .eq 6, 3) := by decide +kernel
theorem dX12_enemyMany_21 : decode cX12_enemyMany 21 = .ok (.iinc 2 1, 3) := by decide +kernel
theorem dX12_enemyMany_24 : decode cX12_enemyMany 24 = .ok (.iinc 3 1, 3) := by decide +kernel
theorem dX12_enemyMany_27 : decode cX12_enemyMany 27 = .ok (.goto (-23), 3) := by decide +kernel
theorem dX12_enemyMany_30 : decode cX12_enemyMany 30 = .ok (.iload_n 2, 1) := by decide +kernel
theorem dX12_enemyMany_31 : decode cX12_enemyMany 31 = .ok (.ireturn, 1) := by decide +kernel
theorem dX12_isTold_0 : decode cX12_isTold 0 = .ok (.aload_n 0, 1) := by decide +kernel
theorem dX12_isTold_1 : decode cX12_isTold 1 = .ok (.getfield 109, 3) := by decide +kernel
theorem dX12_isTold_4 : decode cX12_isTold 4 = .ok (.iconst 5, 1) := by decide +kernel
theorem dX12_isTold_5 : decode cX12_isTold 5 = .ok (.iload_n 1, 1) := by decide +kernel
theorem dX12_isTold_6 : decode cX12_isTold 6 = .ok (.iadd, 1) := by decide +kernel
theorem dX12_isTold_7 : decode cX12_isTold 7 = .ok (.iaload, 1) := by decide +kernel
theorem dX12_isTold_8 : decode cX12_isTold 8 = .ok (.iconst (-1), 1) := by decide +kernel
theorem dX12_isTold_9 : decode cX12_isTold 9 = .ok (.if_icmp .eq 7, 3) := by decide +kernel
theorem dX12_isTold_12 : decode cX12_isTold 12 = .ok (.iconst 1, 1) := by decide +kernel
theorem dX12_isTold_13 : decode cX12_isTold 13 = .ok (.goto 4, 3) := by decide +kernel
theorem dX12_isTold_16 : decode cX12_isTold 16 = .ok (.iconst 0, 1) := by decide +kernel
theorem dX12_isTold_17 : decode cX12_isTold 17 = .ok (.ireturn, 1) := by decide +kernel
theorem dX12_codesTell_0 : decode cX12_codesTell 0 = .ok (.aload_n 0, 1) := by decide +kernel
theorem dX12_codesTell_1 : decode cX12_codesTell 1 = .ok (.iload_n 1, 1) := by decide +kernel
theorem dX12_codesTell_2 : decode cX12_codesTell 2 = .ok (.invokestatic 350, 3) := by decide +kernel
theorem dX12_codesTell_5 : decode cX12_codesTell 5 = .ok (.putfield 318, 3) := by decide +kernel
theorem dX12_codesTell_8 : decode cX12_codesTell 8 = .ok (.aload_n 0, 1) := by decide +kernel
theorem dX12_codesTell_9 : decode cX12_codesTell 9 = .ok (.iconst 0, 1) := by decide +kernel
theorem dX12_codesTell_10 : decode cX12_codesTell 10 = .ok (.putfield 422, 3) := by decide +kernel
theorem dX12_codesTell_13 : decode cX12_codesTell 13 = .ok (.aload_n 0, 1) := by decide +kernel
theorem dX12_codesTell_14 : decode cX12_codesTell 14 = .ok (.getfield 109, 3) := by decide +kernel
theorem dX12_codesTell_17 : decode cX12_codesTell 17 = .ok (.iconst 5, 1) := by decide +kernel
theorem dX12_codesTell_18 : decode cX12_codesTell 18 = .ok (.iload_n 1, 1) := by decide +kernel
theorem dX12_codesTell_19 : decode cX12_codesTell 19 = .ok (.iadd, 1) := by decide +kernel
theorem dX12_codesTell_20 : decode cX12_codesTell 20 = .ok (.iaload, 1) := by decide +kernel
theorem dX12_codesTell_21 : decode cX12_codesTell 21 = .ok (.istore_n 2, 1) := by decide +kernel
theorem dX12_codesTell_22 : decode cX12_codesTell 22 = .ok (.iload_n 2, 1) := by decide +kernel
theorem dX12_codesTell_23 : decode cX12_codesTell 23 = .ok (.aload_n 0, 1) := by decide +kernel
theorem dX12_codesTell_24 : decode cX12_codesTell 24 = .ok (.getfield 112, 3) := by decide +kernel
theorem dX12_codesTell_27 : decode cX12_codesTell 27 = .ok (.iconst 5, 1) := by decide +kernel
theorem dX12_codesTell_28 : decode cX12_codesTell 28 = .ok (.iload_n 1, 1) := by decide +kernel
theorem dX12_codesTell_29 : decode cX12_codesTell 29 = .ok (.iadd, 1) := by decide +kernel
theorem dX12_codesTell_30 : decode cX12_codesTell 30 = .ok (.iaload, 1) := by decide +kernel
theorem dX12_codesTell_31 : decode cX12_codesTell 31 = .ok (.if_icmp .ge 117, 3) := by decide +kernel
theorem dX12_codesTell_34 : decode cX12_codesTell 34 = .ok (.aload_n 0, 1) := by decide +kernel
theorem dX12_codesTell_35 : decode cX12_codesTell 35 = .ok (.getfield 115, 3) := by decide +kernel
theorem dX12_codesTell_38 : decode cX12_codesTell 38 = .ok (.sipush 1600, 3) := by decide +kernel
theorem dX12_codesTell_41 : decode cX12_codesTell 41 = .ok (.iload_n 2, 1) := by decide +kernel
theorem dX12_codesTell_42 : decode cX12_codesTell 42 = .ok (.iadd, 1) := by decide +kernel
theorem dX12_codesTell_43 : decode cX12_codesTell 43 = .ok (.iaload, 1) := by decide +kernel
theorem dX12_codesTell_44 : decode cX12_codesTell 44 = .ok (.istore_n 3, 1) := by decide +kernel
theorem dX12_codesTell_45 : decode cX12_codesTell 45 = .ok (.iload_n 3, 1) := by decide +kernel
theorem dX12_codesTell_46 : decode cX12_codesTell 46 = .ok (.sipush 1000, 3) := by decide +kernel
theorem dX12_codesTell_49 : decode cX12_codesTell 49 = .ok (.if_icmp .lt 16, 3) := by decide +kernel
theorem dX12_codesTell_52 : decode cX12_codesTell 52 = .ok (.aload_n 0, 1) := by decide +kernel
theorem dX12_codesTell_53 : decode cX12_codesTell 53 = .ok (.iload_n 3, 1) := by decide +kernel
theorem dX12_codesTell_54 : decode cX12_codesTell 54 = .ok (.sipush 1000, 3) := by decide +kernel
theorem dX12_codesTell_57 : decode cX12_codesTell 57 = .ok (.isub, 1) := by decide +kernel
theorem dX12_codesTell_58 : decode cX12_codesTell 58 = .ok (.i2l, 1) := by decide +kernel
theorem dX12_codesTell_59 : decode cX12_codesTell 59 = .ok (.invokevirtual 425, 3) := by decide +kernel
theorem dX12_codesTell_62 : decode cX12_codesTell 62 = .ok (.goto 80, 3) := by decide +kernel
theorem dX12_codesTell_65 : decode cX12_codesTell 65 = .ok (.iload_n 3, 1) := by decide +kernel
theorem dX12_codesTell_66 : decode cX12_codesTell 66 = .ok (.bipush 40, 2) := by decide +kernel
theorem dX12_codesTell_68 : decode cX12_codesTell 68 = .ok (.if_icmp .lt 22, 3) := by decide +kernel
theorem dX12_codesTell_71 : decode cX12_codesTell 71 = .ok (.aload_n 0, 1) := by decide +kernel
theorem dX12_codesTell_72 : decode cX12_codesTell 72 = .ok (.aload_n 0, 1) := by decide +kernel
theorem dX12_codesTell_73 : decode cX12_codesTell 73 = .ok (.iload_n 3, 1) := by decide +kernel
theorem dX12_codesTell_74 : decode cX12_codesTell 74 = .ok (.bipush 40, 2) := by decide +kernel
theorem dX12_codesTell_76 : decode cX12_codesTell 76 = .ok (.isub, 1) := by decide +kernel
theorem dX12_codesTell_77 : decode cX12_codesTell 77 = .ok (.aload_n 0, 1) := by decide +kernel
theorem dX12_codesTell_78 : decode cX12_codesTell 78 = .ok (.getfield 429, 3) := by decide +kernel
theorem dX12_codesTell_81 : decode cX12_codesTell 81 = .ok (.invokevirtual 432, 3) := by decide +kernel
theorem dX12_codesTell_84 : decode cX12_codesTell 84 = .ok (.invokevirtual 425, 3) := by decide +kernel
theorem dX12_codesTell_87 : decode cX12_codesTell 87 = .ok (.goto 55, 3) := by decide +kernel
theorem dX12_codesTell_90 : decode cX12_codesTell 90 = .ok (.iload_n 3, 1) := by decide +kernel
theorem dX12_codesTell_91 : decode cX12_codesTell 91 = .ok (.bipush 13, 2) := by decide +kernel
theorem dX12_codesTell_93 : decode cX12_codesTell 93 = .ok (.if_icmp .ne 11, 3) := by decide +kernel
theorem dX12_codesTell_96 : decode cX12_codesTell 96 = .ok (.aload_n 0, 1) := by decide +kernel
theorem dX12_codesTell_97 : decode cX12_codesTell 97 = .ok (.lconst 1, 1) := by decide +kernel
theorem dX12_codesTell_98 : decode cX12_codesTell 98 = .ok (.invokevirtual 425, 3) := by decide +kernel
theorem dX12_codesTell_101 : decode cX12_codesTell 101 = .ok (.goto 41, 3) := by decide +kernel
theorem dX12_codesTell_104 : decode cX12_codesTell 104 = .ok (.iload_n 3, 1) := by decide +kernel
theorem dX12_codesTell_105 : decode cX12_codesTell 105 = .ok (.bipush 12, 2) := by decide +kernel
theorem dX12_codesTell_107 : decode cX12_codesTell 107 = .ok (.if_icmp .ne 30, 3) := by decide +kernel
theorem dX12_codesTell_110 : decode cX12_codesTell 110 = .ok (.aload_n 0, 1) := by decide +kernel
theorem dX12_codesTell_111 : decode cX12_codesTell 111 = .ok (.getfield 249, 3) := by decide +kernel
theorem dX12_codesTell_114 : decode cX12_codesTell 114 = .ok (.aload_n 0, 1) := by decide +kernel
theorem dX12_codesTell_115 : decode cX12_codesTell 115 = .ok (.getfield 422, 3) := by decide +kernel
theorem dX12_codesTell_118 : decode cX12_codesTell 118 = .ok (.iconst 1, 1) := by decide +kernel
theorem dX12_codesTell_119 : decode cX12_codesTell 119 = .ok (.isub, 1) := by decide +kernel
theorem dX12_codesTell_120 : decode cX12_codesTell 120 = .ok (.lconst 1, 1) := by decide +kernel
theorem dX12_codesTell_121 : decode cX12_codesTell 121 = .ok (.aload_n 0, 1) := by decide +kernel
theorem dX12_codesTell_122 : decode cX12_codesTell 122 = .ok (.getfield 249, 3) := by decide +kernel
theorem dX12_codesTell_125 : decode cX12_codesTell 125 = .ok (.aload_n 0, 1) := by decide +kernel
theorem dX12_codesTell_126 : decode cX12_codesTell 126 = .ok (.getfield 422, 3) := by decide +kernel
theorem dX12_codesTell_129 : decode cX12_codesTell 129 = .ok (.iconst 1, 1) := by decide +kernel
theorem dX12_codesTell_130 : decode cX12_codesTell 130 = .ok (.isub, 1) := by decide +kernel
theorem dX12_codesTell_131 : decode cX12_codesTell 131 = .ok (.laload, 1) := by decide +kernel
theorem dX12_codesTell_132 : decode cX12_codesTell 132 = .ok (.lsub, 1) := by decide +kernel
theorem dX12_codesTell_133 : decode cX12_codesTell 133 = .ok (.lastore, 1) := by decide +kernel
theorem dX12_codesTell_134 : decode cX12_codesTell 134 = .ok (.goto 8, 3) := by decide +kernel
theorem dX12_codesTell_137 : decode cX12_codesTell 137 = .ok (.aload_n 0, 1) := by decide +kernel
theorem dX12_codesTell_138 : decode cX12_codesTell 138 = .ok (.iload_n 3, 1) := by decide +kernel
theorem dX12_codesTell_139 : decode cX12_codesTell 139 = .ok (.invokevirtual 436, 3) := by decide +kernel
theorem dX12_codesTell_142 : decode cX12_codesTell 142 = .ok (.iinc 2 1, 3) := by decide +kernel
theorem dX12_codesTell_145 : decode cX12_codesTell 145 = .ok (.goto (-123), 3) := by decide +kernel
theorem dX12_codesTell_148 : decode cX12_codesTell 148 = .ok (.aload_n 0, 1) := by decide +kernel
theorem dX12_codesTell_149 : decode cX12_codesTell 149 = .ok (.getfield 249, 3) := by decide +kernel
theorem dX12_codesTell_152 : decode cX12_codesTell 152 = .ok (.iconst 0, 1) := by decide +kernel
theorem dX12_codesTell_153 : decode cX12_codesTell 153 = .ok (.laload, 1) := by decide +kernel
theorem dX12_codesTell_154 : decode cX12_codesTell 154 = .ok (.lreturn, 1) := by decide +kernel
theorem dX12_asksOf_0 : decode cX12_asksOf 0 = .ok (.aload_n 0, 1) := by decide +kernel
theorem dX12_asksOf_1 : decode cX12_asksOf 1 = .ok (.iload_n 1, 1) := by decide +kernel
theorem dX12_asksOf_2 : decode cX12_asksOf 2 = .ok (.putfield 429, 3) := by decide +kernel
theorem dX12_asksOf_5 : decode cX12_asksOf 5 = .ok (.aload_n 0, 1) := by decide +kernel
theorem dX12_asksOf_6 : decode cX12_asksOf 6 = .ok (.iload_n 2, 1) := by decide +kernel
theorem dX12_asksOf_7 : decode cX12_asksOf 7 = .ok (.putfield 439, 3) := by decide +kernel
theorem dX12_asksOf_10 : decode cX12_asksOf 10 = .ok (.aload_n 0, 1) := by decide +kernel
theorem dX12_asksOf_11 : decode cX12_asksOf 11 = .ok (.aload_n 0, 1) := by decide +kernel
theorem dX12_asksOf_12 : decode cX12_asksOf 12 = .ok (.iload_n 1, 1) := by decide +kernel
theorem dX12_asksOf_13 : decode cX12_asksOf 13 = .ok (.iload_n 2, 1) := by decide +kernel
theorem dX12_asksOf_14 : decode cX12_asksOf 14 = .ok (.invokevirtual 415, 3) := by decide +kernel
theorem dX12_asksOf_17 : decode cX12_asksOf 17 = .ok (.i2l, 1) := by decide +kernel
theorem dX12_asksOf_18 : decode cX12_asksOf 18 = .ok (.putfield 442, 3) := by decide +kernel
theorem dX12_asksOf_21 : decode cX12_asksOf 21 = .ok (.return_, 1) := by decide +kernel
theorem dX12_bakesFor_0 : decode cX12_bakesFor 0 = .ok (.aload_n 0, 1) := by decide +kernel
theorem dX12_bakesFor_1 : decode cX12_bakesFor 1 = .ok (.iload_n 1, 1) := by decide +kernel
theorem dX12_bakesFor_2 : decode cX12_bakesFor 2 = .ok (.iload_n 2, 1) := by decide +kernel
theorem dX12_bakesFor_3 : decode cX12_bakesFor 3 = .ok (.invokevirtual 445, 3) := by decide +kernel
theorem dX12_bakesFor_6 : decode cX12_bakesFor 6 = .ok (.aload_n 0, 1) := by decide +kernel
theorem dX12_bakesFor_7 : decode cX12_bakesFor 7 = .ok (.iconst 0, 1) := by decide +kernel
theorem dX12_bakesFor_8 : decode cX12_bakesFor 8 = .ok (.invokevirtual 448, 3) := by decide +kernel
theorem dX12_bakesFor_11 : decode cX12_bakesFor 11 = .ok (.ifCond .eq 11, 3) := by decide +kernel
theorem dX12_bakesFor_14 : decode cX12_bakesFor 14 = .ok (.aload_n 0, 1) := by decide +kernel
theorem dX12_bakesFor_15 : decode cX12_bakesFor 15 = .ok (.iconst 0, 1) := by decide +kernel
theorem dX12_bakesFor_16 : decode cX12_bakesFor 16 = .ok (.invokevirtual 451, 3) := by decide +kernel
theorem dX12_bakesFor_19 : decode cX12_bakesFor 19 = .ok (.goto 7, 3) := by decide +kernel
theorem dX12_bakesFor_22 : decode cX12_bakesFor 22 = .ok (.aload_n 0, 1) := by decide +kernel
theorem dX12_bakesFor_23 : decode cX12_bakesFor 23 = .ok (.getfield 442, 3) := by decide +kernel
theorem dX12_bakesFor_26 : decode cX12_bakesFor 26 = .ok (.lreturn, 1) := by decide +kernel
theorem dX12_tasteOf_0 : decode cX12_tasteOf 0 = .ok (.aload_n 0, 1) := by decide +kernel
theorem dX12_tasteOf_1 : decode cX12_tasteOf 1 = .ok (.iload_n 1, 1) := by decide +kernel
theorem dX12_tasteOf_2 : decode cX12_tasteOf 2 = .ok (.iload_n 2, 1) := by decide +kernel
theorem dX12_tasteOf_3 : decode cX12_tasteOf 3 = .ok (.invokevirtual 445, 3) := by decide +kernel
theorem dX12_tasteOf_6 : decode cX12_tasteOf 6 = .ok (.aload_n 0, 1) := by decide +kernel
theorem dX12_tasteOf_7 : decode cX12_tasteOf 7 = .ok (.iconst 1, 1) := by decide +kernel
theorem dX12_tasteOf_8 : decode cX12_tasteOf 8 = .ok (.invokevirtual 448, 3) := by decide +kernel
theorem dX12_tasteOf_11 : decode cX12_tasteOf 11 = .ok (.ifCond .eq 11, 3) := by decide +kernel
theorem dX12_tasteOf_14 : decode cX12_tasteOf 14 = .ok (.aload_n 0, 1) := by decide +kernel
theorem dX12_tasteOf_15 : decode cX12_tasteOf 15 = .ok (.iconst 1, 1) := by decide +kernel
theorem dX12_tasteOf_16 : decode cX12_tasteOf 16 = .ok (.invokevirtual 451, 3) := by decide +kernel
theorem dX12_tasteOf_19 : decode cX12_tasteOf 19 = .ok (.goto 13, 3) := by decide +kernel
theorem dX12_tasteOf_22 : decode cX12_tasteOf 22 = .ok (.aload_n 0, 1) := by decide +kernel
theorem dX12_tasteOf_23 : decode cX12_tasteOf 23 = .ok (.getfield 103, 3) := by decide +kernel
theorem dX12_tasteOf_26 : decode cX12_tasteOf 26 = .ok (.bipush 7, 2) := by decide +kernel
theorem dX12_tasteOf_28 : decode cX12_tasteOf 28 = .ok (.iload_n 1, 1) := by decide +kernel
theorem dX12_tasteOf_29 : decode cX12_tasteOf 29 = .ok (.iadd, 1) := by decide +kernel
theorem dX12_tasteOf_30 : decode cX12_tasteOf 30 = .ok (.iaload, 1) := by decide +kernel
theorem dX12_tasteOf_31 : decode cX12_tasteOf 31 = .ok (.i2l, 1) := by decide +kernel
theorem dX12_tasteOf_32 : decode cX12_tasteOf 32 = .ok (.invokestatic 455, 3) := by decide +kernel
theorem dX12_tasteOf_35 : decode cX12_tasteOf 35 = .ok (.ireturn, 1) := by decide +kernel
theorem dX12_doesStarve_0 : decode cX12_doesStarve 0 = .ok (.aload_n 0, 1) := by decide +kernel
theorem dX12_doesStarve_1 : decode cX12_doesStarve 1 = .ok (.iconst 2, 1) := by decide +kernel
theorem dX12_doesStarve_2 : decode cX12_doesStarve 2 = .ok (.invokevirtual 448, 3) := by decide +kernel
theorem dX12_doesStarve_5 : decode cX12_doesStarve 5 = .ok (.ifCond .ne 18, 3) := by decide +kernel
theorem dX12_doesStarve_8 : decode cX12_doesStarve 8 = .ok (.aload_n 0, 1) := by decide +kernel
theorem dX12_doesStarve_9 : decode cX12_doesStarve 9 = .ok (.iload_n 1, 1) := by decide +kernel
theorem dX12_doesStarve_10 : decode cX12_doesStarve 10 = .ok (.invokevirtual 459, 3) := by decide +kernel
theorem dX12_doesStarve_13 : decode cX12_doesStarve 13 = .ok (.iconst 5, 1) := by decide +kernel
theorem dX12_doesStarve_14 : decode cX12_doesStarve 14 = .ok (.if_icmp .le 7, 3) := by decide +kernel
theorem dX12_doesStarve_17 : decode cX12_doesStarve 17 = .ok (.iconst 1, 1) := by decide +kernel
theorem dX12_doesStarve_18 : decode cX12_doesStarve 18 = .ok (.goto 4, 3) := by decide +kernel
theorem dX12_doesStarve_21 : decode cX12_doesStarve 21 = .ok (.iconst 0, 1) := by decide +kernel
theorem dX12_doesStarve_22 : decode cX12_doesStarve 22 = .ok (.ireturn, 1) := by decide +kernel
theorem dX12_doesStarve_23 : decode cX12_doesStarve 23 = .ok (.aload_n 0, 1) := by decide +kernel
theorem dX12_doesStarve_24 : decode cX12_doesStarve 24 = .ok (.iload_n 1, 1) := by decide +kernel
theorem dX12_doesStarve_25 : decode cX12_doesStarve 25 = .ok (.putfield 429, 3) := by decide +kernel
theorem dX12_doesStarve_28 : decode cX12_doesStarve 28 = .ok (.aload_n 0, 1) := by decide +kernel
theorem dX12_doesStarve_29 : decode cX12_doesStarve 29 = .ok (.iload_n 1, 1) := by decide +kernel
theorem dX12_doesStarve_30 : decode cX12_doesStarve 30 = .ok (.putfield 439, 3) := by decide +kernel
theorem dX12_doesStarve_33 : decode cX12_doesStarve 33 = .ok (.aload_n 0, 1) := by decide +kernel
theorem dX12_doesStarve_34 : decode cX12_doesStarve 34 = .ok (.iconst 2, 1) := by decide +kernel
theorem dX12_doesStarve_35 : decode cX12_doesStarve 35 = .ok (.invokevirtual 451, 3) := by decide +kernel
theorem dX12_doesStarve_38 : decode cX12_doesStarve 38 = .ok (.lconst 1, 1) := by decide +kernel
theorem dX12_doesStarve_39 : decode cX12_doesStarve 39 = .ok (.lcmp, 1) := by decide +kernel
theorem dX12_doesStarve_40 : decode cX12_doesStarve 40 = .ok (.ifCond .ne 7, 3) := by decide +kernel
theorem dX12_doesStarve_43 : decode cX12_doesStarve 43 = .ok (.iconst 1, 1) := by decide +kernel
theorem dX12_doesStarve_44 : decode cX12_doesStarve 44 = .ok (.goto 4, 3) := by decide +kernel
theorem dX12_doesStarve_47 : decode cX12_doesStarve 47 = .ok (.iconst 0, 1) := by decide +kernel
theorem dX12_doesStarve_48 : decode cX12_doesStarve 48 = .ok (.ireturn, 1) := by decide +kernel
theorem dX12_canBake_0 : decode cX12_canBake 0 = .ok (.aload_n 0, 1) := by decide +kernel
theorem dX12_canBake_1 : decode cX12_canBake 1 = .ok (.iload_n 1, 1) := by decide +kernel
theorem dX12_canBake_2 : decode cX12_canBake 2 = .ok (.invokevirtual 462, 3) := by decide +kernel
theorem dX12_canBake_5 : decode cX12_canBake 5 = .ok (.ifCond .eq 37, 3) := by decide +kernel
theorem dX12_canBake_8 : decode cX12_canBake 8 = .ok (.aload_n 0, 1) := by decide +kernel
theorem dX12_canBake_9 : decode cX12_canBake 9 = .ok (.iload_n 1, 1) := by decide +kernel
theorem dX12_canBake_10 : decode cX12_canBake 10 = .ok (.invokevirtual 465, 3) := by decide +kernel
theorem dX12_canBake_13 : decode cX12_canBake 13 = .ok (.aload_n 0, 1) := by decide +kernel
theorem dX12_canBake_14 : decode cX12_canBake 14 = .ok (.getfield 93, 3) := by decide +kernel
theorem dX12_canBake_17 : decode cX12_canBake 17 = .ok (.iconst 2, 1) := by decide +kernel
theorem dX12_canBake_18 : decode cX12_canBake 18 = .ok (.iaload, 1) := by decide +kernel
theorem dX12_canBake_19 : decode cX12_canBake 19 = .ok (.if_icmp .lt 23, 3) := by decide +kernel
theorem dX12_canBake_22 : decode cX12_canBake 22 = .ok (.aload_n 0, 1) := by decide +kernel
theorem dX12_canBake_23 : decode cX12_canBake 23 = .ok (.getfield 468, 3) := by decide +kernel
theorem dX12_canBake_26 : decode cX12_canBake 26 = .ok (.aload_n 0, 1) := by decide +kernel
theorem dX12_canBake_27 : decode cX12_canBake 27 = .ok (.getfield 471, 3) := by decide +kernel
theorem dX12_canBake_30 : decode cX12_canBake 30 = .ok (.ior, 1) := by decide +kernel
theorem dX12_canBake_31 : decode cX12_canBake 31 = .ok (.iload_n 1, 1) := by decide +kernel
theorem dX12_canBake_32 : decode cX12_canBake 32 = .ok (.ishr, 1) := by decide +kernel
theorem dX12_canBake_33 : decode cX12_canBake 33 = .ok (.iconst 1, 1) := by decide +kernel
theorem dX12_canBake_34 : decode cX12_canBake 34 = .ok (.iand, 1) := by decide +kernel
theorem dX12_canBake_35 : decode cX12_canBake 35 = .ok (.ifCond .ne 7, 3) := by decide +kernel
theorem dX12_canBake_38 : decode cX12_canBake 38 = .ok (.iconst 1, 1) := by decide +kernel
theorem dX12_canBake_39 : decode cX12_canBake 39 = .ok (.goto 4, 3) := by decide +kernel
theorem dX12_canBake_42 : decode cX12_canBake 42 = .ok (.iconst 0, 1) := by decide +kernel
theorem dX12_canBake_43 : decode cX12_canBake 43 = .ok (.ireturn, 1) := by decide +kernel
theorem dX12_bakerFor_0 : decode cX12_bakerFor 0 = .ok (.iconst (-1), 1) := by decide +kernel
theorem dX12_bakerFor_1 : decode cX12_bakerFor 1 = .ok (.istore_n 2, 1) := by decide +kernel
theorem dX12_bakerFor_2 : decode cX12_bakerFor 2 = .ok (.lconst 0, 1) := by decide +kernel
theorem dX12_bakerFor_3 : decode cX12_bakerFor 3 = .ok (.lstore_n 3, 1) := by decide +kernel
theorem dX12_bakerFor_4 : decode cX12_bakerFor 4 = .ok (.iconst 0, 1) := by decide +kernel
theorem dX12_bakerFor_5 : decode cX12_bakerFor 5 = .ok (.istore 5, 2) := by decide +kernel
theorem dX12_bakerFor_7 : decode cX12_bakerFor 7 = .ok (.iload 5, 2) := by decide +kernel
theorem dX12_bakerFor_9 : decode cX12_bakerFor 9 = .ok (.aload_n 0, 1) := by decide +kernel
theorem dX12_bakerFor_10 : decode cX12_bakerFor 10 = .ok (.invokevirtual 412, 3) := by decide +kernel
theorem dX12_bakerFor_13 : decode cX12_bakerFor 13 = .ok (.if_icmp .ge 61, 3) := by decide +kernel
theorem dX12_bakerFor_16 : decode cX12_bakerFor 16 = .ok (.aload_n 0, 1) := by decide +kernel
theorem dX12_bakerFor_17 : decode cX12_bakerFor 17 = .ok (.iload_n 1, 1) := by decide +kernel
theorem dX12_bakerFor_18 : decode cX12_bakerFor 18 = .ok (.iload 5, 2) := by decide +kernel
theorem dX12_bakerFor_20 : decode cX12_bakerFor 20 = .ok (.invokevirtual 418, 3) := by decide +kernel
theorem dX12_bakerFor_23 : decode cX12_bakerFor 23 = .ok (.ifCond .eq 45, 3) := by decide +kernel
theorem dX12_bakerFor_26 : decode cX12_bakerFor 26 = .ok (.aload_n 0, 1) := by decide +kernel
theorem dX12_bakerFor_27 : decode cX12_bakerFor 27 = .ok (.iload 5, 2) := by decide +kernel
theorem dX12_bakerFor_29 : decode cX12_bakerFor 29 = .ok (.invokevirtual 474, 3) := by decide +kernel
theorem dX12_bakerFor_32 : decode cX12_bakerFor 32 = .ok (.ifCond .ne 6, 3) := by decide +kernel
theorem dX12_bakerFor_35 : decode cX12_bakerFor 35 = .ok (.goto 33, 3) := by decide +kernel
theorem dX12_bakerFor_38 : decode cX12_bakerFor 38 = .ok (.aload_n 0, 1) := by decide +kernel
theorem dX12_bakerFor_39 : decode cX12_bakerFor 39 = .ok (.iload 5, 2) := by decide +kernel
theorem dX12_bakerFor_41 : decode cX12_bakerFor 41 = .ok (.iload_n 1, 1) := by decide +kernel
theorem dX12_bakerFor_42 : decode cX12_bakerFor 42 = .ok (.invokevirtual 477, 3) := by decide +kernel
theorem dX12_bakerFor_45 : decode cX12_bakerFor 45 = .ok (.lstore 6, 2) := by decide +kernel
theorem dX12_bakerFor_47 : decode cX12_bakerFor 47 = .ok (.iload_n 2, 1) := by decide +kernel
theorem dX12_bakerFor_48 : decode cX12_bakerFor 48 = .ok (.iconst (-1), 1) := by decide +kernel
theorem dX12_bakerFor_49 : decode cX12_bakerFor 49 = .ok (.if_icmp .eq 13, 3) := by decide +kernel
theorem dX12_bakerFor_52 : decode cX12_bakerFor 52 = .ok (.lload 6, 2) := by decide +kernel
theorem dX12_bakerFor_54 : decode cX12_bakerFor 54 = .ok (.lload_n 3, 1) := by decide +kernel
theorem dX12_bakerFor_55 : decode cX12_bakerFor 55 = .ok (.lcmp, 1) := by decide +kernel
theorem dX12_bakerFor_56 : decode cX12_bakerFor 56 = .ok (.ifCond .gt 6, 3) := by decide +kernel
theorem dX12_bakerFor_59 : decode cX12_bakerFor 59 = .ok (.goto 9, 3) := by decide +kernel
theorem dX12_bakerFor_62 : decode cX12_bakerFor 62 = .ok (.iload 5, 2) := by decide +kernel
theorem dX12_bakerFor_64 : decode cX12_bakerFor 64 = .ok (.istore_n 2, 1) := by decide +kernel
theorem dX12_bakerFor_65 : decode cX12_bakerFor 65 = .ok (.lload 6, 2) := by decide +kernel
theorem dX12_bakerFor_67 : decode cX12_bakerFor 67 = .ok (.lstore_n 3, 1) := by decide +kernel
theorem dX12_bakerFor_68 : decode cX12_bakerFor 68 = .ok (.iinc 5 1, 3) := by decide +kernel
theorem dX12_bakerFor_71 : decode cX12_bakerFor 71 = .ok (.goto (-64), 3) := by decide +kernel
theorem dX12_bakerFor_74 : decode cX12_bakerFor 74 = .ok (.iload_n 2, 1) := by decide +kernel
theorem dX12_bakerFor_75 : decode cX12_bakerFor 75 = .ok (.ireturn, 1) := by decide +kernel
theorem dX12_isKept_0 : decode cX12_isKept 0 = .ok (.aload_n 0, 1) := by decide +kernel
theorem dX12_isKept_1 : decode cX12_isKept 1 = .ok (.getfield 480, 3) := by decide +kernel
theorem dX12_isKept_4 : decode cX12_isKept 4 = .ok (.ifCond .eq 4, 3) := by decide +kernel
theorem dX12_isKept_7 : decode cX12_isKept 7 = .ok (.return_, 1) := by decide +kernel
theorem dX12_isKept_8 : decode cX12_isKept 8 = .ok (.aload_n 0, 1) := by decide +kernel
theorem dX12_isKept_9 : decode cX12_isKept 9 = .ok (.getfield 118, 3) := by decide +kernel
theorem dX12_isKept_12 : decode cX12_isKept 12 = .ok (.bipush 43, 2) := by decide +kernel
theorem dX12_isKept_14 : decode cX12_isKept 14 = .ok (.iaload, 1) := by decide +kernel
theorem dX12_isKept_15 : decode cX12_isKept 15 = .ok (.bipush 40, 2) := by decide +kernel
theorem dX12_isKept_17 : decode cX12_isKept 17 = .ok (.if_icmp .ne 36, 3) := by decide +kernel
theorem dX12_isKept_20 : decode cX12_isKept 20 = .ok (.bipush 44, 2) := by decide +kernel
theorem dX12_isKept_22 : decode cX12_isKept 22 = .ok (.istore_n 3, 1) := by decide +kernel
theorem dX12_isKept_23 : decode cX12_isKept 23 = .ok (.iload_n 3, 1) := by decide +kernel
theorem dX12_isKept_24 : decode cX12_isKept 24 = .ok (.sipush 200, 3) := by decide +kernel
theorem dX12_isKept_27 : decode cX12_isKept 27 = .ok (.if_icmp .ge 23, 3) := by decide +kernel
theorem dX12_isKept_30 : decode cX12_isKept 30 = .ok (.aload_n 0, 1) := by decide +kernel
theorem dX12_isKept_31 : decode cX12_isKept 31 = .ok (.getfield 118, 3) := by decide +kernel
theorem dX12_isKept_34 : decode cX12_isKept 34 = .ok (.iload_n 3, 1) := by decide +kernel
theorem dX12_isKept_35 : decode cX12_isKept 35 = .ok (.aload_n 0, 1) := by decide +kernel
theorem dX12_isKept_36 : decode cX12_isKept 36 = .ok (.getfield 118, 3) := by decide +kernel
theorem dX12_isKept_39 : decode cX12_isKept 39 = .ok (.iload_n 3, 1) := by decide +kernel
theorem dX12_isKept_40 : decode cX12_isKept 40 = .ok (.iconst 4, 1) := by decide +kernel
theorem dX12_isKept_41 : decode cX12_isKept 41 = .ok (.iadd, 1) := by decide +kernel
theorem dX12_isKept_42 : decode cX12_isKept 42 = .ok (.iaload, 1) := by decide +kernel
theorem dX12_isKept_43 : decode cX12_isKept 43 = .ok (.iastore, 1) := by decide +kernel
theorem dX12_isKept_44 : decode cX12_isKept 44 = .ok (.iinc 3 1, 3) := by decide +kernel
theorem dX12_isKept_47 : decode cX12_isKept 47 = .ok (.goto (-24), 3) := by decide +kernel
theorem dX12_isKept_50 : decode cX12_isKept 50 = .ok (.goto 14, 3) := by decide +kernel
theorem dX12_isKept_53 : decode cX12_isKept 53 = .ok (.aload_n 0, 1) := by decide +kernel
theorem dX12_isKept_54 : decode cX12_isKept 54 = .ok (.getfield 118, 3) := by decide +kernel
theorem dX12_isKept_57 : decode cX12_isKept 57 = .ok (.bipush 43, 2) := by decide +kernel
theorem dX12_isKept_59 : decode cX12_isKept 59 = .ok (.dup2, 1) := by decide +kernel
theorem dX12_isKept_60 : decode cX12_isKept 60 = .ok (.iaload, 1) := by decide +kernel
theorem dX12_isKept_61 : decode cX12_isKept 61 = .ok (.iconst 1, 1) := by decide +kernel
theorem dX12_isKept_62 : decode cX12_isKept 62 = .ok (.iadd, 1) := by decide +kernel
theorem dX12_isKept_63 : decode cX12_isKept 63 = .ok (.iastore, 1) := by decide +kernel
theorem dX12_isKept_64 : decode cX12_isKept 64 = .ok (.bipush 44, 2) := by decide +kernel
theorem dX12_isKept_66 : decode cX12_isKept 66 = .ok (.iconst 4, 1) := by decide +kernel
theorem dX12_isKept_67 : decode cX12_isKept 67 = .ok (.aload_n 0, 1) := by decide +kernel
theorem dX12_isKept_68 : decode cX12_isKept 68 = .ok (.getfield 118, 3) := by decide +kernel
theorem dX12_isKept_71 : decode cX12_isKept 71 = .ok (.bipush 43, 2) := by decide +kernel
theorem dX12_isKept_73 : decode cX12_isKept 73 = .ok (.iaload, 1) := by decide +kernel
theorem dX12_isKept_74 : decode cX12_isKept 74 = .ok (.imul, 1) := by decide +kernel
theorem dX12_isKept_75 : decode cX12_isKept 75 = .ok (.iadd, 1) := by decide +kernel
theorem dX12_isKept_76 : decode cX12_isKept 76 = .ok (.iconst 4, 1) := by decide +kernel
theorem dX12_isKept_77 : decode cX12_isKept 77 = .ok (.isub, 1) := by decide +kernel
theorem dX12_isKept_78 : decode cX12_isKept 78 = .ok (.istore_n 3, 1) := by decide +kernel
theorem dX12_isKept_79 : decode cX12_isKept 79 = .ok (.aload_n 0, 1) := by decide +kernel
theorem dX12_isKept_80 : decode cX12_isKept 80 = .ok (.getfield 118, 3) := by decide +kernel
theorem dX12_isKept_83 : decode cX12_isKept 83 = .ok (.iload_n 3, 1) := by decide +kernel
theorem dX12_isKept_84 : decode cX12_isKept 84 = .ok (.aload_n 0, 1) := by decide +kernel
theorem dX12_isKept_85 : decode cX12_isKept 85 = .ok (.getfield 118, 3) := by decide +kernel
theorem dX12_isKept_88 : decode cX12_isKept 88 = .ok (.iconst 0, 1) := by decide +kernel
theorem dX12_isKept_89 : decode cX12_isKept 89 = .ok (.iaload, 1) := by decide +kernel
theorem dX12_isKept_90 : decode cX12_isKept 90 = .ok (.iastore, 1) := by decide +kernel
theorem dX12_isKept_91 : decode cX12_isKept 91 = .ok (.aload_n 0, 1) := by decide +kernel
theorem dX12_isKept_92 : decode cX12_isKept 92 = .ok (.getfield 118, 3) := by decide +kernel
theorem dX12_isKept_95 : decode cX12_isKept 95 = .ok (.iload_n 3, 1) := by decide +kernel
theorem dX12_isKept_96 : decode cX12_isKept 96 = .ok (.iconst 1, 1) := by decide +kernel
theorem dX12_isKept_97 : decode cX12_isKept 97 = .ok (.iadd, 1) := by decide +kernel
theorem dX12_isKept_98 : decode cX12_isKept 98 = .ok (.iload_n 1, 1) := by decide +kernel
theorem dX12_isKept_99 : decode cX12_isKept 99 = .ok (.iastore, 1) := by decide +kernel
theorem dX12_isKept_100 : decode cX12_isKept 100 = .ok (.aload_n 0, 1) := by decide +kernel
theorem dX12_isKept_101 : decode cX12_isKept 101 = .ok (.getfield 118, 3) := by decide +kernel
theorem dX12_isKept_104 : decode cX12_isKept 104 = .ok (.iload_n 3, 1) := by decide +kernel
theorem dX12_isKept_105 : decode cX12_isKept 105 = .ok (.iconst 2, 1) := by decide +kernel
theorem dX12_isKept_106 : decode cX12_isKept 106 = .ok (.iadd, 1) := by decide +kernel
theorem dX12_isKept_107 : decode cX12_isKept 107 = .ok (.iload_n 2, 1) := by decide +kernel
theorem dX12_isKept_108 : decode cX12_isKept 108 = .ok (.iastore, 1) := by decide +kernel
theorem dX12_isKept_109 : decode cX12_isKept 109 = .ok (.aload_n 0, 1) := by decide +kernel
theorem dX12_isKept_110 : decode cX12_isKept 110 = .ok (.getfield 118, 3) := by decide +kernel
theorem dX12_isKept_113 : decode cX12_isKept 113 = .ok (.iload_n 3, 1) := by decide +kernel
theorem dX12_isKept_114 : decode cX12_isKept 114 = .ok (.iconst 3, 1) := by decide +kernel
theorem dX12_isKept_115 : decode cX12_isKept 115 = .ok (.iadd, 1) := by decide +kernel
theorem dX12_isKept_116 : decode cX12_isKept 116 = .ok (.aload_n 0, 1) := by decide +kernel
theorem dX12_isKept_117 : decode cX12_isKept 117 = .ok (.getfield 130, 3) := by decide +kernel
theorem dX12_isKept_120 : decode cX12_isKept 120 = .ok (.iload_n 2, 1) := by decide +kernel
theorem dX12_isKept_121 : decode cX12_isKept 121 = .ok (.iaload, 1) := by decide +kernel
theorem dX12_isKept_122 : decode cX12_isKept 122 = .ok (.iastore, 1) := by decide +kernel
theorem dX12_isKept_123 : decode cX12_isKept 123 = .ok (.return_, 1) := by decide +kernel
