def jX12_stands_15 (d : Nat) (M : mm_M) (K : mm_M → Prop) (y1 : Int32) : Prop := mm_W mX12_stands d 0 0 15 [(0, .ref 164), (1, .int y1)] [] mm_SH M 0 0 (mm_PV K)
def jX12_stands_42 (d : Nat) (M : mm_M) (K : mm_M → Prop) (y1 : Int32) : Prop := mm_W mX12_stands d 0 0 42 [(0, .ref 164), (1, .int y1)] [] mm_SH M 0 0 (mm_PV K)
def jX12_stands_83 (d : Nat) (M : mm_M) (K : mm_M → Prop) (y1 : Int32) : Prop := mm_W mX12_stands d 0 0 83 [(0, .ref 164), (1, .int y1)] [] mm_SH M 0 0 (mm_PV K)
def jX12_stands_127 (d : Nat) (M : mm_M) (K : mm_M → Prop) (y1 : Int32) : Prop := mm_W mX12_stands d 0 0 127 [(0, .ref 164), (1, .int y1)] [] mm_SH M 0 0 (mm_PV K)
def jX12_stands_159 (d : Nat) (M : mm_M) (K : mm_M → Prop) (y1 : Int32) : Prop := mm_W mX12_stands d 0 0 159 [(0, .ref 164), (1, .int y1)] [] mm_SH M 0 0 (mm_PV K)
def jX12_stands_181 (d : Nat) (M : mm_M) (K : mm_M → Prop) (y1 : Int32) : Prop := mm_W mX12_stands d 0 0 181 [(0, .ref 164), (1, .int y1)] [] mm_SH M 0 0 (mm_PV K)
def jX12_stands_224 (d : Nat) (M : mm_M) (K : mm_M → Prop) (y1 : Int32) : Prop := mm_W mX12_stands d 0 0 224 [(0, .ref 164), (1, .int y1)] [] mm_SH M 0 0 (mm_PV K)
set_option maxRecDepth 100000 in
set_option maxHeartbeats 4000000 in
theorem rX12_stands {d : Nat} {M : mm_M} {K : mm_M → Prop} (hG : mm_G M.2.2) (h : jX12_stands_15 d (mm_uI (mm_uI M 164 48 1) 164 38 ((mm_uI M 164 48 1).1 164 37)) K 0) : mm_CV mX12_stands d [.ref 164] M K := by
  show mm_W mX12_stands d 0 0 0 [(0, .ref 164)] [] mm_SH M 0 0 (mm_PV K)
  refine mm_aload_n (pc := 0) (j := 0) dX12_stands_0 rfl rfl ?_
  refine mm_iconst (pc := 1) (x := 1) dX12_stands_1 rfl ?_
  refine mm_putI (pc := 2) (ci := 12) (N := 116) dX12_stands_2 fX12_399 sh_164 (by decide +kernel) rfl rfl rfl ?_
  refine mm_aload_n (pc := 5) (j := 0) dX12_stands_5 rfl rfl ?_
  refine mm_aload_n (pc := 6) (j := 0) dX12_stands_6 rfl rfl ?_
  refine mm_getI (pc := 7) (ci := 12) (N := 116) dX12_stands_7 fX12_337 sh_164 rfl ?_
  refine mm_putI (pc := 10) (ci := 12) (N := 116) dX12_stands_10 fX12_403 sh_164 (by decide +kernel) rfl rfl rfl ?_
  refine mm_iconst (pc := 13) (x := 0) dX12_stands_13 rfl ?_
  refine mm_istore_n (pc := 14) (lv' := [(1, .int 0), (0, .ref 164)]) dX12_stands_14 rfl (by decide) rfl ?_
  exact mm_sub [1, 0] rfl h
set_option maxRecDepth 100000 in
set_option maxHeartbeats 4000000 in
theorem lX12_stands_15 {d : Nat} {M : mm_M} {K : mm_M → Prop} {y1 : Int32} (hG : mm_G M.2.2) (h : if 2 ≤ y1 then (jX12_stands_42 d M K 0) else (vp_in y1 4 ∧ vp_in (2 + y1) 4 ∧ jX12_stands_15 d (mm_uI M 191 (2 + y1).toNatClampNeg (M.1 191 y1.toNatClampNeg)) K (y1 + 1))) : jX12_stands_15 d  M K y1 := by
  unfold jX12_stands_15
  refine mm_iload_n (pc := 15) (j := 1) dX12_stands_15 rfl rfl ?_
  refine mm_iconst (pc := 16) (x := 2) dX12_stands_16 rfl ?_
  refine mm_icmp_ge (pc := 17) (tgt := 40) dX12_stands_17 (by decide) (fun hc => ?_) (fun hc => ?_)
  · have h := mm_ift hc h
    refine mm_iconst (pc := 40) (x := 0) dX12_stands_40 rfl ?_
    refine mm_istore_n (pc := 41) (lv' := [(1, .int 0), (0, .ref 164)]) dX12_stands_41 rfl (by decide) rfl ?_
    exact mm_sub [1, 0] rfl h
  · have h := mm_iff hc h
    refine mm_aload_n (pc := 20) (j := 0) dX12_stands_20 rfl rfl ?_
    refine mm_getR (pc := 21) (ci := 12) (N := 116) (r := 191) dX12_stands_21 fX12_93 sh_164 rfl (g_164_36 hG) ?_
    refine mm_iconst (pc := 24) (x := 2) dX12_stands_24 rfl ?_
    refine mm_iload_n (pc := 25) (j := 1) dX12_stands_25 rfl rfl ?_
    refine mm_iadd (pc := 26) dX12_stands_26 ?_
    refine mm_aload_n (pc := 27) (j := 0) dX12_stands_27 rfl rfl ?_
    refine mm_getR (pc := 28) (ci := 12) (N := 116) (r := 191) dX12_stands_28 fX12_93 sh_164 rfl (g_164_36 hG) ?_
    refine mm_iload_n (pc := 31) (j := 1) dX12_stands_31 rfl rfl ?_
    obtain ⟨hi32, h⟩ := h
    refine mm_iaload (pc := 32) (N := 4) dX12_stands_32 sh_191 hi32 ?_
    obtain ⟨hi33, h⟩ := h
    refine mm_iastore (pc := 33) (N := 4) dX12_stands_33 sh_191 hi33 ?_
    refine mm_iinc (pc := 34) (j := 1) (v := y1 + 1) (lv' := [(1, .int (y1 + 1)), (0, .ref 164)]) dX12_stands_34 rfl rfl (by decide) rfl ?_
    refine mm_goto (pc := 37) (tgt := 15) dX12_stands_37 (by decide) ?_
    exact mm_sub [1, 0] rfl h
set_option maxRecDepth 100000 in
set_option maxHeartbeats 4000000 in
theorem lX12_stands_42 {d : Nat} {M : mm_M} {K : mm_M → Prop} {y1 : Int32} (hG : mm_G M.2.2) (h : if 5 ≤ y1 then (jX12_stands_83 d M K 0) else (vp_in y1 10 ∧ vp_in (5 + y1) 10 ∧ vp_in y1 10 ∧ vp_in (5 + y1) 10 ∧ jX12_stands_42 d (mm_uI (mm_uI M 196 (5 + y1).toNatClampNeg (M.1 196 y1.toNatClampNeg)) 197 (5 + y1).toNatClampNeg ((mm_uI M 196 (5 + y1).toNatClampNeg (M.1 196 y1.toNatClampNeg)).1 197 y1.toNatClampNeg)) K (y1 + 1))) : jX12_stands_42 d  M K y1 := by
  unfold jX12_stands_42
  refine mm_iload_n (pc := 42) (j := 1) dX12_stands_42 rfl rfl ?_
  refine mm_iconst (pc := 43) (x := 5) dX12_stands_43 rfl ?_
  refine mm_icmp_ge (pc := 44) (tgt := 81) dX12_stands_44 (by decide) (fun hc => ?_) (fun hc => ?_)
  · have h := mm_ift hc h
    refine mm_iconst (pc := 81) (x := 0) dX12_stands_81 rfl ?_
    refine mm_istore_n (pc := 82) (lv' := [(1, .int 0), (0, .ref 164)]) dX12_stands_82 rfl (by decide) rfl ?_
    exact mm_sub [1, 0] rfl h
  · have h := mm_iff hc h
    refine mm_aload_n (pc := 47) (j := 0) dX12_stands_47 rfl rfl ?_
    refine mm_getR (pc := 48) (ci := 12) (N := 116) (r := 196) dX12_stands_48 fX12_109 sh_164 rfl (g_164_43 hG) ?_
    refine mm_iconst (pc := 51) (x := 5) dX12_stands_51 rfl ?_
    refine mm_iload_n (pc := 52) (j := 1) dX12_stands_52 rfl rfl ?_
    refine mm_iadd (pc := 53) dX12_stands_53 ?_
    refine mm_aload_n (pc := 54) (j := 0) dX12_stands_54 rfl rfl ?_
    refine mm_getR (pc := 55) (ci := 12) (N := 116) (r := 196) dX12_stands_55 fX12_109 sh_164 rfl (g_164_43 hG) ?_
    refine mm_iload_n (pc := 58) (j := 1) dX12_stands_58 rfl rfl ?_
    obtain ⟨hi59, h⟩ := h
    refine mm_iaload (pc := 59) (N := 10) dX12_stands_59 sh_196 hi59 ?_
    obtain ⟨hi60, h⟩ := h
    refine mm_iastore (pc := 60) (N := 10) dX12_stands_60 sh_196 hi60 ?_
    refine mm_aload_n (pc := 61) (j := 0) dX12_stands_61 rfl rfl ?_
    refine mm_getR (pc := 62) (ci := 12) (N := 116) (r := 197) dX12_stands_62 fX12_112 sh_164 rfl (g_164_44 hG) ?_
    refine mm_iconst (pc := 65) (x := 5) dX12_stands_65 rfl ?_
    refine mm_iload_n (pc := 66) (j := 1) dX12_stands_66 rfl rfl ?_
    refine mm_iadd (pc := 67) dX12_stands_67 ?_
    refine mm_aload_n (pc := 68) (j := 0) dX12_stands_68 rfl rfl ?_
    refine mm_getR (pc := 69) (ci := 12) (N := 116) (r := 197) dX12_stands_69 fX12_112 sh_164 rfl (g_164_44 hG) ?_
    refine mm_iload_n (pc := 72) (j := 1) dX12_stands_72 rfl rfl ?_
    obtain ⟨hi73, h⟩ := h
    refine mm_iaload (pc := 73) (N := 10) dX12_stands_73 sh_197 hi73 ?_
    obtain ⟨hi74, h⟩ := h
    refine mm_iastore (pc := 74) (N := 10) dX12_stands_74 sh_197 hi74 ?_
    refine mm_iinc (pc := 75) (j := 1) (v := y1 + 1) (lv' := [(1, .int (y1 + 1)), (0, .ref 164)]) dX12_stands_75 rfl rfl (by decide) rfl ?_
    refine mm_goto (pc := 78) (tgt := 42) dX12_stands_78 (by decide) ?_
    exact mm_sub [1, 0] rfl h
set_option maxRecDepth 100000 in
set_option maxHeartbeats 4000000 in
theorem lX12_stands_83 {d : Nat} {M : mm_M} {K : mm_M → Prop} {y1 : Int32} (hG : mm_G M.2.2) (h : if 7 ≤ y1 then (jX12_stands_127 d M K 0) else (vp_in y1 14 ∧ vp_in (7 + y1) 14 ∧ vp_in y1 14 ∧ vp_in (7 + y1) 14 ∧ jX12_stands_83 d (mm_uI (mm_uL M 192 (7 + y1).toNatClampNeg (M.2.1 192 y1.toNatClampNeg)) 194 (7 + y1).toNatClampNeg ((mm_uL M 192 (7 + y1).toNatClampNeg (M.2.1 192 y1.toNatClampNeg)).1 194 y1.toNatClampNeg)) K (y1 + 1))) : jX12_stands_83 d  M K y1 := by
  unfold jX12_stands_83
  refine mm_iload_n (pc := 83) (j := 1) dX12_stands_83 rfl rfl ?_
  refine mm_bipush (pc := 84) (x := 7) dX12_stands_84 rfl ?_
  refine mm_icmp_ge (pc := 86) (tgt := 125) dX12_stands_86 (by decide) (fun hc => ?_) (fun hc => ?_)
  · have h := mm_ift hc h
    refine mm_iconst (pc := 125) (x := 0) dX12_stands_125 rfl ?_
    refine mm_istore_n (pc := 126) (lv' := [(1, .int 0), (0, .ref 164)]) dX12_stands_126 rfl (by decide) rfl ?_
    exact mm_sub [1, 0] rfl h
  · have h := mm_iff hc h
    refine mm_aload_n (pc := 89) (j := 0) dX12_stands_89 rfl rfl ?_
    refine mm_getR (pc := 90) (ci := 12) (N := 116) (r := 192) dX12_stands_90 fX12_96 sh_164 rfl (g_164_39 hG) ?_
    refine mm_bipush (pc := 93) (x := 7) dX12_stands_93 rfl ?_
    refine mm_iload_n (pc := 95) (j := 1) dX12_stands_95 rfl rfl ?_
    refine mm_iadd (pc := 96) dX12_stands_96 ?_
    refine mm_aload_n (pc := 97) (j := 0) dX12_stands_97 rfl rfl ?_
    refine mm_getR (pc := 98) (ci := 12) (N := 116) (r := 192) dX12_stands_98 fX12_96 sh_164 rfl (g_164_39 hG) ?_
    refine mm_iload_n (pc := 101) (j := 1) dX12_stands_101 rfl rfl ?_
    obtain ⟨hi102, h⟩ := h
    refine mm_laload (pc := 102) (N := 14) dX12_stands_102 sh_192 hi102 ?_
    obtain ⟨hi103, h⟩ := h
    refine mm_lastore (pc := 103) (N := 14) dX12_stands_103 sh_192 hi103 ?_
    refine mm_aload_n (pc := 104) (j := 0) dX12_stands_104 rfl rfl ?_
    refine mm_getR (pc := 105) (ci := 12) (N := 116) (r := 194) dX12_stands_105 fX12_103 sh_164 rfl (g_164_41 hG) ?_
    refine mm_bipush (pc := 108) (x := 7) dX12_stands_108 rfl ?_
    refine mm_iload_n (pc := 110) (j := 1) dX12_stands_110 rfl rfl ?_
    refine mm_iadd (pc := 111) dX12_stands_111 ?_
    refine mm_aload_n (pc := 112) (j := 0) dX12_stands_112 rfl rfl ?_
    refine mm_getR (pc := 113) (ci := 12) (N := 116) (r := 194) dX12_stands_113 fX12_103 sh_164 rfl (g_164_41 hG) ?_
    refine mm_iload_n (pc := 116) (j := 1) dX12_stands_116 rfl rfl ?_
    obtain ⟨hi117, h⟩ := h
    refine mm_iaload (pc := 117) (N := 14) dX12_stands_117 sh_194 hi117 ?_
    obtain ⟨hi118, h⟩ := h
    refine mm_iastore (pc := 118) (N := 14) dX12_stands_118 sh_194 hi118 ?_
    refine mm_iinc (pc := 119) (j := 1) (v := y1 + 1) (lv' := [(1, .int (y1 + 1)), (0, .ref 164)]) dX12_stands_119 rfl rfl (by decide) rfl ?_
    refine mm_goto (pc := 122) (tgt := 83) dX12_stands_122 (by decide) ?_
    exact mm_sub [1, 0] rfl h
set_option maxRecDepth 100000 in
set_option maxHeartbeats 4000000 in
theorem lX12_stands_127 {d : Nat} {M : mm_M} {K : mm_M → Prop} {y1 : Int32} (hG : mm_G M.2.2) (h : if (M.1 164 46) ≤ y1 then (jX12_stands_159 d M K 0) else (vp_in y1 3200 ∧ vp_in (1600 + y1) 3200 ∧ jX12_stands_127 d (mm_uI M 198 (1600 + y1).toNatClampNeg (M.1 198 y1.toNatClampNeg)) K (y1 + 1))) : jX12_stands_127 d  M K y1 := by
  unfold jX12_stands_127
  refine mm_iload_n (pc := 127) (j := 1) dX12_stands_127 rfl rfl ?_
  refine mm_aload_n (pc := 128) (j := 0) dX12_stands_128 rfl rfl ?_
  refine mm_getI (pc := 129) (ci := 12) (N := 116) dX12_stands_129 fX12_372 sh_164 rfl ?_
  refine mm_icmp_ge (pc := 132) (tgt := 157) dX12_stands_132 (by decide) (fun hc => ?_) (fun hc => ?_)
  · have h := mm_ift hc h
    refine mm_iconst (pc := 157) (x := 0) dX12_stands_157 rfl ?_
    refine mm_istore_n (pc := 158) (lv' := [(1, .int 0), (0, .ref 164)]) dX12_stands_158 rfl (by decide) rfl ?_
    exact mm_sub [1, 0] rfl h
  · have h := mm_iff hc h
    refine mm_aload_n (pc := 135) (j := 0) dX12_stands_135 rfl rfl ?_
    refine mm_getR (pc := 136) (ci := 12) (N := 116) (r := 198) dX12_stands_136 fX12_115 sh_164 rfl (g_164_45 hG) ?_
    refine mm_sipush (pc := 139) (x := 1600) dX12_stands_139 rfl ?_
    refine mm_iload_n (pc := 142) (j := 1) dX12_stands_142 rfl rfl ?_
    refine mm_iadd (pc := 143) dX12_stands_143 ?_
    refine mm_aload_n (pc := 144) (j := 0) dX12_stands_144 rfl rfl ?_
    refine mm_getR (pc := 145) (ci := 12) (N := 116) (r := 198) dX12_stands_145 fX12_115 sh_164 rfl (g_164_45 hG) ?_
    refine mm_iload_n (pc := 148) (j := 1) dX12_stands_148 rfl rfl ?_
    obtain ⟨hi149, h⟩ := h
    refine mm_iaload (pc := 149) (N := 3200) dX12_stands_149 sh_198 hi149 ?_
    obtain ⟨hi150, h⟩ := h
    refine mm_iastore (pc := 150) (N := 3200) dX12_stands_150 sh_198 hi150 ?_
    refine mm_iinc (pc := 151) (j := 1) (v := y1 + 1) (lv' := [(1, .int (y1 + 1)), (0, .ref 164)]) dX12_stands_151 rfl rfl (by decide) rfl ?_
    refine mm_goto (pc := 154) (tgt := 127) dX12_stands_154 (by decide) ?_
    exact mm_sub [1, 0] rfl h
set_option maxRecDepth 100000 in
set_option maxHeartbeats 4000000 in
theorem lX12_stands_159 {d : Nat} {M : mm_M} {K : mm_M → Prop} {y1 : Int32} (hG : mm_G M.2.2) (h : if 204 ≤ y1 then (jX12_stands_181 d M K 0) else (vp_in y1 204 ∧ jX12_stands_159 d (mm_uI M 199 y1.toNatClampNeg 0) K (y1 + 1))) : jX12_stands_159 d  M K y1 := by
  unfold jX12_stands_159
  refine mm_iload_n (pc := 159) (j := 1) dX12_stands_159 rfl rfl ?_
  refine mm_sipush (pc := 160) (x := 204) dX12_stands_160 rfl ?_
  refine mm_icmp_ge (pc := 163) (tgt := 179) dX12_stands_163 (by decide) (fun hc => ?_) (fun hc => ?_)
  · have h := mm_ift hc h
    refine mm_iconst (pc := 179) (x := 0) dX12_stands_179 rfl ?_
    refine mm_istore_n (pc := 180) (lv' := [(1, .int 0), (0, .ref 164)]) dX12_stands_180 rfl (by decide) rfl ?_
    exact mm_sub [1, 0] rfl h
  · have h := mm_iff hc h
    refine mm_aload_n (pc := 166) (j := 0) dX12_stands_166 rfl rfl ?_
    refine mm_getR (pc := 167) (ci := 12) (N := 116) (r := 199) dX12_stands_167 fX12_118 sh_164 rfl (g_164_50 hG) ?_
    refine mm_iload_n (pc := 170) (j := 1) dX12_stands_170 rfl rfl ?_
    refine mm_iconst (pc := 171) (x := 0) dX12_stands_171 rfl ?_
    obtain ⟨hi172, h⟩ := h
    refine mm_iastore (pc := 172) (N := 204) dX12_stands_172 sh_199 hi172 ?_
    refine mm_iinc (pc := 173) (j := 1) (v := y1 + 1) (lv' := [(1, .int (y1 + 1)), (0, .ref 164)]) dX12_stands_173 rfl rfl (by decide) rfl ?_
    refine mm_goto (pc := 176) (tgt := 159) dX12_stands_176 (by decide) ?_
    exact mm_sub [1, 0] rfl h
set_option maxRecDepth 100000 in
set_option maxHeartbeats 4000000 in
theorem lX12_stands_181 {d : Nat} {M : mm_M} {K : mm_M → Prop} {y1 : Int32} (hG : mm_G M.2.2) (h : if (M.1 164 38) ≤ y1 then (jX12_stands_224 d M K 0) else (vp_in (1 + (3 * y1)) 204 ∧ vp_in y1 7 ∧ vp_in (2 + (3 * y1)) 204 ∧ jX12_stands_181 d (mm_uI (mm_uI M 199 (1 + (3 * y1)).toNatClampNeg 1) 199 (2 + (3 * y1)).toNatClampNeg ((mm_uI M 199 (1 + (3 * y1)).toNatClampNeg 1).1 193 y1.toNatClampNeg)) K (y1 + 1))) : jX12_stands_181 d  M K y1 := by
  unfold jX12_stands_181
  refine mm_iload_n (pc := 181) (j := 1) dX12_stands_181 rfl rfl ?_
  refine mm_aload_n (pc := 182) (j := 0) dX12_stands_182 rfl rfl ?_
  refine mm_getI (pc := 183) (ci := 12) (N := 116) dX12_stands_183 fX12_403 sh_164 rfl ?_
  refine mm_icmp_ge (pc := 186) (tgt := 222) dX12_stands_186 (by decide) (fun hc => ?_) (fun hc => ?_)
  · have h := mm_ift hc h
    refine mm_iconst (pc := 222) (x := 0) dX12_stands_222 rfl ?_
    refine mm_istore_n (pc := 223) (lv' := [(1, .int 0), (0, .ref 164)]) dX12_stands_223 rfl (by decide) rfl ?_
    exact mm_sub [1, 0] rfl h
  · have h := mm_iff hc h
    refine mm_aload_n (pc := 189) (j := 0) dX12_stands_189 rfl rfl ?_
    refine mm_getR (pc := 190) (ci := 12) (N := 116) (r := 199) dX12_stands_190 fX12_118 sh_164 rfl (g_164_50 hG) ?_
    refine mm_iconst (pc := 193) (x := 1) dX12_stands_193 rfl ?_
    refine mm_iconst (pc := 194) (x := 3) dX12_stands_194 rfl ?_
    refine mm_iload_n (pc := 195) (j := 1) dX12_stands_195 rfl rfl ?_
    refine mm_imul (pc := 196) dX12_stands_196 ?_
    refine mm_iadd (pc := 197) dX12_stands_197 ?_
    refine mm_iconst (pc := 198) (x := 1) dX12_stands_198 rfl ?_
    obtain ⟨hi199, h⟩ := h
    refine mm_iastore (pc := 199) (N := 204) dX12_stands_199 sh_199 hi199 ?_
    refine mm_aload_n (pc := 200) (j := 0) dX12_stands_200 rfl rfl ?_
    refine mm_getR (pc := 201) (ci := 12) (N := 116) (r := 199) dX12_stands_201 fX12_118 sh_164 rfl (g_164_50 hG) ?_
    refine mm_iconst (pc := 204) (x := 2) dX12_stands_204 rfl ?_
    refine mm_iconst (pc := 205) (x := 3) dX12_stands_205 rfl ?_
    refine mm_iload_n (pc := 206) (j := 1) dX12_stands_206 rfl rfl ?_
    refine mm_imul (pc := 207) dX12_stands_207 ?_
    refine mm_iadd (pc := 208) dX12_stands_208 ?_
    refine mm_aload_n (pc := 209) (j := 0) dX12_stands_209 rfl rfl ?_
    refine mm_getR (pc := 210) (ci := 12) (N := 116) (r := 193) dX12_stands_210 fX12_100 sh_164 rfl (g_164_40 hG) ?_
    refine mm_iload_n (pc := 213) (j := 1) dX12_stands_213 rfl rfl ?_
    obtain ⟨hi214, h⟩ := h
    refine mm_iaload (pc := 214) (N := 7) dX12_stands_214 sh_193 hi214 ?_
    obtain ⟨hi215, h⟩ := h
    refine mm_iastore (pc := 215) (N := 204) dX12_stands_215 sh_199 hi215 ?_
    refine mm_iinc (pc := 216) (j := 1) (v := y1 + 1) (lv' := [(1, .int (y1 + 1)), (0, .ref 164)]) dX12_stands_216 rfl rfl (by decide) rfl ?_
    refine mm_goto (pc := 219) (tgt := 181) dX12_stands_219 (by decide) ?_
    exact mm_sub [1, 0] rfl h
set_option maxRecDepth 100000 in
set_option maxHeartbeats 4000000 in
theorem lX12_stands_224 {d : Nat} {M : mm_M} {K : mm_M → Prop} {y1 : Int32} (hG : mm_G M.2.2) (h : if 21 ≤ y1 then (K (mm_uI (mm_uI M 164 79 0) 164 72 0)) else (vp_in y1 21 ∧ vp_in (22 + y1) 204 ∧ jX12_stands_224 d (mm_uI M 199 (22 + y1).toNatClampNeg (M.1 195 y1.toNatClampNeg)) K (y1 + 1))) : jX12_stands_224 d  M K y1 := by
  unfold jX12_stands_224
  refine mm_iload_n (pc := 224) (j := 1) dX12_stands_224 rfl rfl ?_
  refine mm_bipush (pc := 225) (x := 21) dX12_stands_225 rfl ?_
  refine mm_icmp_ge (pc := 227) (tgt := 251) dX12_stands_227 (by decide) (fun hc => ?_) (fun hc => ?_)
  · have h := mm_ift hc h
    refine mm_aload_n (pc := 251) (j := 0) dX12_stands_251 rfl rfl ?_
    refine mm_iconst (pc := 252) (x := 0) dX12_stands_252 rfl ?_
    refine mm_putI (pc := 253) (ci := 12) (N := 116) dX12_stands_253 fX12_406 sh_164 (by decide +kernel) rfl rfl rfl ?_
    refine mm_aload_n (pc := 256) (j := 0) dX12_stands_256 rfl rfl ?_
    refine mm_iconst (pc := 257) (x := 0) dX12_stands_257 rfl ?_
    refine mm_putI (pc := 258) (ci := 12) (N := 116) dX12_stands_258 fX12_409 sh_164 (by decide +kernel) rfl rfl rfl ?_
    exact mm_vret (pc := 261) dX12_stands_261 rfl (Nat.le_refl 0) (Nat.le_refl 0) ⟨rfl, rfl, hG, h⟩
  · have h := mm_iff hc h
    refine mm_aload_n (pc := 230) (j := 0) dX12_stands_230 rfl rfl ?_
    refine mm_getR (pc := 231) (ci := 12) (N := 116) (r := 199) dX12_stands_231 fX12_118 sh_164 rfl (g_164_50 hG) ?_
    refine mm_bipush (pc := 234) (x := 22) dX12_stands_234 rfl ?_
    refine mm_iload_n (pc := 236) (j := 1) dX12_stands_236 rfl rfl ?_
    refine mm_iadd (pc := 237) dX12_stands_237 ?_
    refine mm_aload_n (pc := 238) (j := 0) dX12_stands_238 rfl rfl ?_
    refine mm_getR (pc := 239) (ci := 12) (N := 116) (r := 195) dX12_stands_239 fX12_106 sh_164 rfl (g_164_42 hG) ?_
    refine mm_iload_n (pc := 242) (j := 1) dX12_stands_242 rfl rfl ?_
    obtain ⟨hi243, h⟩ := h
    refine mm_iaload (pc := 243) (N := 21) dX12_stands_243 sh_195 hi243 ?_
    obtain ⟨hi244, h⟩ := h
    refine mm_iastore (pc := 244) (N := 204) dX12_stands_244 sh_199 hi244 ?_
    refine mm_iinc (pc := 245) (j := 1) (v := y1 + 1) (lv' := [(1, .int (y1 + 1)), (0, .ref 164)]) dX12_stands_245 rfl rfl (by decide) rfl ?_
    refine mm_goto (pc := 248) (tgt := 224) dX12_stands_248 (by decide) ?_
    exact mm_sub [1, 0] rfl h
set_option maxRecDepth 100000 in
set_option maxHeartbeats 4000000 in
theorem rX12_fault {d : Nat} {x1 : Int32} {M : mm_M} {K : Int32 → mm_M → Prop} (hG : mm_G M.2.2) (h : if x1 = 0 then (K (M.1 164 7) M) else (if x1 = 1 then (K (M.1 164 8) M) else (K (-1) M))) : mm_CI mX12_fault d [.ref 164, .int x1] M K := by
  show mm_W mX12_fault d 0 0 0 [(0, .ref 164), (1, .int x1)] [] mm_SH M 0 0 (mm_PI K)
  refine mm_iload_n (pc := 0) (j := 1) dX12_fault_0 rfl rfl ?_
  refine mm_if_ne (pc := 1) (tgt := 11) dX12_fault_1 (by decide) (fun hc => ?_) (fun hc => ?_)
  · have h := mm_iff hc h
    refine mm_iload_n (pc := 11) (j := 1) dX12_fault_11 rfl rfl ?_
    refine mm_iconst (pc := 12) (x := 1) dX12_fault_12 rfl ?_
    refine mm_icmp_ne (pc := 13) (tgt := 23) dX12_fault_13 (by decide) (fun hc => ?_) (fun hc => ?_)
    · have h := mm_iff hc h
      refine mm_iconst (pc := 23) (x := (-1)) dX12_fault_23 rfl ?_
      exact mm_iret (pc := 24) dX12_fault_24 rfl (Nat.le_refl 0) (Nat.le_refl 0) ⟨_, rfl, rfl, hG, h⟩
    · have h := mm_ift hc h
      refine mm_aload_n (pc := 16) (j := 0) dX12_fault_16 rfl rfl ?_
      refine mm_getI (pc := 17) (ci := 12) (N := 116) dX12_fault_17 fX12_13 sh_164 rfl ?_
      refine mm_goto (pc := 20) (tgt := 24) dX12_fault_20 (by decide) ?_
      exact mm_iret (pc := 24) dX12_fault_24 rfl (Nat.le_refl 0) (Nat.le_refl 0) ⟨_, rfl, rfl, hG, h⟩
  · have h := mm_ift hc h
    refine mm_aload_n (pc := 4) (j := 0) dX12_fault_4 rfl rfl ?_
    refine mm_getI (pc := 5) (ci := 12) (N := 116) dX12_fault_5 fX12_393 sh_164 rfl ?_
    refine mm_goto (pc := 8) (tgt := 24) dX12_fault_8 (by decide) ?_
    exact mm_iret (pc := 24) dX12_fault_24 rfl (Nat.le_refl 0) (Nat.le_refl 0) ⟨_, rfl, rfl, hG, h⟩
set_option maxRecDepth 100000 in
set_option maxHeartbeats 4000000 in
theorem rX12_houseMany {d : Nat} {M : mm_M} {K : Int32 → mm_M → Prop} (hG : mm_G M.2.2) (h : K (M.1 164 38) M) : mm_CI mX12_houseMany d [.ref 164] M K := by
  show mm_W mX12_houseMany d 0 0 0 [(0, .ref 164)] [] mm_SH M 0 0 (mm_PI K)
  refine mm_aload_n (pc := 0) (j := 0) dX12_houseMany_0 rfl rfl ?_
  refine mm_getI (pc := 1) (ci := 12) (N := 116) dX12_houseMany_1 fX12_403 sh_164 rfl ?_
  exact mm_iret (pc := 4) dX12_houseMany_4 rfl (Nat.le_refl 0) (Nat.le_refl 0) ⟨_, rfl, rfl, hG, h⟩
set_option maxRecDepth 100000 in
set_option maxHeartbeats 4000000 in
theorem rX12_isHouse {d : Nat} {x1 : Int64} {M : mm_M} {K : Int32 → mm_M → Prop} (hG : mm_G M.2.2) (h : mm_CI mX12_houseMany d [.ref 164] M (fun z3 m3 => mm_CI mX12_isIn d [.long x1, .long 0, .long ((z3 - 1).toInt64)] m3 (fun z9 m9 => (z9 = 0 ∨ z9 = 1) ∧ K z9 m9))) : mm_CI mX12_isHouse (d + 1) [.ref 164, .long x1] M K := by
  show mm_W mX12_isHouse (d + 1) 0 0 0 [(0, .ref 164), (1, .long x1)] [] mm_SH M 0 0 (mm_PI K)
  refine mm_lload_n (pc := 0) (j := 1) dX12_isHouse_0 rfl rfl ?_
  refine mm_lconst (pc := 1) (x := 0) dX12_isHouse_1 rfl ?_
  refine mm_aload_n (pc := 2) (j := 0) dX12_isHouse_2 rfl rfl ?_
  refine mm_kVI (pc := 3) [] dX12_isHouse_3 kX12_412 rfl sh_164 (Nat.le_of_ble_eq_true rfl) (Nat.le_of_ble_eq_true rfl) h (fun z3 m3 hG h => ?_)
  refine mm_iconst (pc := 6) (x := 1) dX12_isHouse_6 rfl ?_
  refine mm_isub (pc := 7) dX12_isHouse_7 ?_
  refine mm_i2l (pc := 8) dX12_isHouse_8 ?_
  refine mm_kSI (pc := 9) [.long x1, .long 0, .long ((z3 - 1).toInt64)] dX12_isHouse_9 kX12_303 rfl (Nat.le_of_ble_eq_true rfl) (Nat.le_of_ble_eq_true rfl) h (fun z9 m9 hG h => ?_)
  obtain ⟨hb, h⟩ := h
  exact mm_zret (pc := 12) dX12_isHouse_12 rfl (mm_nb hb) (Nat.le_refl 0) (Nat.le_refl 0) ⟨_, rfl, rfl, hG, h⟩
set_option maxRecDepth 100000 in
set_option maxHeartbeats 4000000 in
theorem rX12_isThere {d : Nat} {x1 : Int32} {M : mm_M} {K : Int32 → mm_M → Prop} (hG : mm_G M.2.2) (h : vp_in (1 + (3 * x1)) 204 ∧ if (M.1 199 (1 + (3 * x1)).toNatClampNeg) = 1 then (K 1 M) else (K 0 M)) : mm_CI mX12_isThere d [.ref 164, .int x1] M K := by
  show mm_W mX12_isThere d 0 0 0 [(0, .ref 164), (1, .int x1)] [] mm_SH M 0 0 (mm_PI K)
  refine mm_aload_n (pc := 0) (j := 0) dX12_isThere_0 rfl rfl ?_
  refine mm_getR (pc := 1) (ci := 12) (N := 116) (r := 199) dX12_isThere_1 fX12_118 sh_164 rfl (g_164_50 hG) ?_
  refine mm_iconst (pc := 4) (x := 1) dX12_isThere_4 rfl ?_
  refine mm_iconst (pc := 5) (x := 3) dX12_isThere_5 rfl ?_
  refine mm_iload_n (pc := 6) (j := 1) dX12_isThere_6 rfl rfl ?_
  refine mm_imul (pc := 7) dX12_isThere_7 ?_
  refine mm_iadd (pc := 8) dX12_isThere_8 ?_
  obtain ⟨hi9, h⟩ := h
  refine mm_iaload (pc := 9) (N := 204) dX12_isThere_9 sh_199 hi9 ?_
  refine mm_iconst (pc := 10) (x := 1) dX12_isThere_10 rfl ?_
  refine mm_icmp_ne (pc := 11) (tgt := 18) dX12_isThere_11 (by decide) (fun hc => ?_) (fun hc => ?_)
  · have h := mm_iff hc h
    refine mm_iconst (pc := 18) (x := 0) dX12_isThere_18 rfl ?_
    exact mm_zret (pc := 19) dX12_isThere_19 rfl rfl (Nat.le_refl 0) (Nat.le_refl 0) ⟨_, rfl, rfl, hG, h⟩
  · have h := mm_ift hc h
    refine mm_iconst (pc := 14) (x := 1) dX12_isThere_14 rfl ?_
    refine mm_goto (pc := 15) (tgt := 19) dX12_isThere_15 (by decide) ?_
    exact mm_zret (pc := 19) dX12_isThere_19 rfl rfl (Nat.le_refl 0) (Nat.le_refl 0) ⟨_, rfl, rfl, hG, h⟩
set_option maxRecDepth 100000 in
set_option maxHeartbeats 4000000 in
theorem rX12_flourOf {d : Nat} {x1 : Int32} {M : mm_M} {K : Int32 → mm_M → Prop} (hG : mm_G M.2.2) (h : vp_in (2 + (3 * x1)) 204 ∧ K (M.1 199 (2 + (3 * x1)).toNatClampNeg) M) : mm_CI mX12_flourOf d [.ref 164, .int x1] M K := by
  show mm_W mX12_flourOf d 0 0 0 [(0, .ref 164), (1, .int x1)] [] mm_SH M 0 0 (mm_PI K)
  refine mm_aload_n (pc := 0) (j := 0) dX12_flourOf_0 rfl rfl ?_
  refine mm_getR (pc := 1) (ci := 12) (N := 116) (r := 199) dX12_flourOf_1 fX12_118 sh_164 rfl (g_164_50 hG) ?_
  refine mm_iconst (pc := 4) (x := 2) dX12_flourOf_4 rfl ?_
  refine mm_iconst (pc := 5) (x := 3) dX12_flourOf_5 rfl ?_
  refine mm_iload_n (pc := 6) (j := 1) dX12_flourOf_6 rfl rfl ?_
  refine mm_imul (pc := 7) dX12_flourOf_7 ?_
  refine mm_iadd (pc := 8) dX12_flourOf_8 ?_
  obtain ⟨hi9, h⟩ := h
  refine mm_iaload (pc := 9) (N := 204) dX12_flourOf_9 sh_199 hi9 ?_
  exact mm_iret (pc := 10) dX12_flourOf_10 rfl (Nat.le_refl 0) (Nat.le_refl 0) ⟨_, rfl, rfl, hG, h⟩
set_option maxRecDepth 100000 in
set_option maxHeartbeats 4000000 in
theorem rX12_hungerOf {d : Nat} {x1 : Int32} {M : mm_M} {K : Int32 → mm_M → Prop} (hG : mm_G M.2.2) (h : vp_in (3 + (3 * x1)) 204 ∧ K (M.1 199 (3 + (3 * x1)).toNatClampNeg) M) : mm_CI mX12_hungerOf d [.ref 164, .int x1] M K := by
  show mm_W mX12_hungerOf d 0 0 0 [(0, .ref 164), (1, .int x1)] [] mm_SH M 0 0 (mm_PI K)
  refine mm_aload_n (pc := 0) (j := 0) dX12_hungerOf_0 rfl rfl ?_
  refine mm_getR (pc := 1) (ci := 12) (N := 116) (r := 199) dX12_hungerOf_1 fX12_118 sh_164 rfl (g_164_50 hG) ?_
  refine mm_iconst (pc := 4) (x := 3) dX12_hungerOf_4 rfl ?_
  refine mm_iconst (pc := 5) (x := 3) dX12_hungerOf_5 rfl ?_
  refine mm_iload_n (pc := 6) (j := 1) dX12_hungerOf_6 rfl rfl ?_
  refine mm_imul (pc := 7) dX12_hungerOf_7 ?_
  refine mm_iadd (pc := 8) dX12_hungerOf_8 ?_
  obtain ⟨hi9, h⟩ := h
  refine mm_iaload (pc := 9) (N := 204) dX12_hungerOf_9 sh_199 hi9 ?_
  exact mm_iret (pc := 10) dX12_hungerOf_10 rfl (Nat.le_refl 0) (Nat.le_refl 0) ⟨_, rfl, rfl, hG, h⟩
set_option maxRecDepth 100000 in
set_option maxHeartbeats 4000000 in
theorem rX12_hateOf {d : Nat} {x1 : Int32} {x2 : Int32} {M : mm_M} {K : Int32 → mm_M → Prop} (hG : mm_G M.2.2) (h : mm_CI mX12_pairOf d [.int x1, .int x2] M (fun z8 m8 => vp_in (22 + z8) 204 ∧ K (m8.1 199 (22 + z8).toNatClampNeg) m8)) : mm_CI mX12_hateOf (d + 1) [.ref 164, .int x1, .int x2] M K := by
  show mm_W mX12_hateOf (d + 1) 0 0 0 [(0, .ref 164), (1, .int x1), (2, .int x2)] [] mm_SH M 0 0 (mm_PI K)
  refine mm_aload_n (pc := 0) (j := 0) dX12_hateOf_0 rfl rfl ?_
  refine mm_getR (pc := 1) (ci := 12) (N := 116) (r := 199) dX12_hateOf_1 fX12_118 sh_164 rfl (g_164_50 hG) ?_
  refine mm_bipush (pc := 4) (x := 22) dX12_hateOf_4 rfl ?_
  refine mm_iload_n (pc := 6) (j := 1) dX12_hateOf_6 rfl rfl ?_
  refine mm_iload_n (pc := 7) (j := 2) dX12_hateOf_7 rfl rfl ?_
  refine mm_kSI (pc := 8) [.int x1, .int x2] dX12_hateOf_8 kX12_347 rfl (Nat.le_of_ble_eq_true rfl) (Nat.le_of_ble_eq_true rfl) h (fun z8 m8 hG h => ?_)
  refine mm_iadd (pc := 11) dX12_hateOf_11 ?_
  obtain ⟨hi12, h⟩ := h
  refine mm_iaload (pc := 12) (N := 204) dX12_hateOf_12 sh_199 hi12 ?_
  exact mm_iret (pc := 13) dX12_hateOf_13 rfl (Nat.le_refl 0) (Nat.le_refl 0) ⟨_, rfl, rfl, hG, h⟩
set_option maxRecDepth 100000 in
set_option maxHeartbeats 4000000 in
theorem rX12_areEnemies {d : Nat} {x1 : Int32} {x2 : Int32} {M : mm_M} {K : Int32 → mm_M → Prop} (hG : mm_G M.2.2) (h : if x1 = x2 then (K 0 M) else (mm_CI mX12_hateOf d [.ref 164, .int x1, .int x2] M (fun z8 m8 => if z8 ≤ 0 then (K 0 m8) else (K 1 m8)))) : mm_CI mX12_areEnemies (d + 1) [.ref 164, .int x1, .int x2] M K := by
  show mm_W mX12_areEnemies (d + 1) 0 0 0 [(0, .ref 164), (1, .int x1), (2, .int x2)] [] mm_SH M 0 0 (mm_PI K)
  refine mm_iload_n (pc := 0) (j := 1) dX12_areEnemies_0 rfl rfl ?_
  refine mm_iload_n (pc := 1) (j := 2) dX12_areEnemies_1 rfl rfl ?_
  refine mm_icmp_eq (pc := 2) (tgt := 18) dX12_areEnemies_2 (by decide) (fun hc => ?_) (fun hc => ?_)
  · have h := mm_ift hc h
    refine mm_iconst (pc := 18) (x := 0) dX12_areEnemies_18 rfl ?_
    exact mm_zret (pc := 19) dX12_areEnemies_19 rfl rfl (Nat.le_refl 0) (Nat.le_refl 0) ⟨_, rfl, rfl, hG, h⟩
  · have h := mm_iff hc h
    refine mm_aload_n (pc := 5) (j := 0) dX12_areEnemies_5 rfl rfl ?_
    refine mm_iload_n (pc := 6) (j := 1) dX12_areEnemies_6 rfl rfl ?_
    refine mm_iload_n (pc := 7) (j := 2) dX12_areEnemies_7 rfl rfl ?_
    refine mm_kVI (pc := 8) [.int x1, .int x2] dX12_areEnemies_8 kX12_415 rfl sh_164 (Nat.le_of_ble_eq_true rfl) (Nat.le_of_ble_eq_true rfl) h (fun z8 m8 hG h => ?_)
    refine mm_if_le (pc := 11) (tgt := 18) dX12_areEnemies_11 (by decide) (fun hc => ?_) (fun hc => ?_)
    · have h := mm_ift hc h
      refine mm_iconst (pc := 18) (x := 0) dX12_areEnemies_18 rfl ?_
      exact mm_zret (pc := 19) dX12_areEnemies_19 rfl rfl (Nat.le_refl 0) (Nat.le_refl 0) ⟨_, rfl, rfl, hG, h⟩
    · have h := mm_iff hc h
      refine mm_iconst (pc := 14) (x := 1) dX12_areEnemies_14 rfl ?_
      refine mm_goto (pc := 15) (tgt := 19) dX12_areEnemies_15 (by decide) ?_
      exact mm_zret (pc := 19) dX12_areEnemies_19 rfl rfl (Nat.le_refl 0) (Nat.le_refl 0) ⟨_, rfl, rfl, hG, h⟩
def jX12_enemyMany_4 (d : Nat) (x1 : Int32) (M : mm_M) (K : Int32 → mm_M → Prop) (y1 : Int32) (y2 : Int32) (y3 : Int32) : Prop := mm_W mX12_enemyMany (d + 1) 0 0 4 [(0, .ref 164), (1, .int y1), (2, .int y2), (3, .int y3)] [] mm_SH M 0 0 (mm_PI K)
set_option maxRecDepth 100000 in
set_option maxHeartbeats 4000000 in
theorem rX12_enemyMany {d : Nat} {x1 : Int32} {M : mm_M} {K : Int32 → mm_M → Prop} (hG : mm_G M.2.2) (h : jX12_enemyMany_4 d x1 M K x1 0 0) : mm_CI mX12_enemyMany (d + 1) [.ref 164, .int x1] M K := by
  show mm_W mX12_enemyMany (d + 1) 0 0 0 [(0, .ref 164), (1, .int x1)] [] mm_SH M 0 0 (mm_PI K)
  refine mm_iconst (pc := 0) (x := 0) dX12_enemyMany_0 rfl ?_
  refine mm_istore_n (pc := 1) (lv' := [(2, .int 0), (0, .ref 164), (1, .int x1)]) dX12_enemyMany_1 rfl (by decide) rfl ?_
  refine mm_iconst (pc := 2) (x := 0) dX12_enemyMany_2 rfl ?_
  refine mm_istore_n (pc := 3) (lv' := [(3, .int 0), (2, .int 0), (0, .ref 164), (1, .int x1)]) dX12_enemyMany_3 rfl (by decide) rfl ?_
  exact mm_sub [2, 3, 1, 0] rfl h
set_option maxRecDepth 100000 in
set_option maxHeartbeats 4000000 in
theorem lX12_enemyMany_4 {d : Nat} {x1 : Int32} {M : mm_M} {K : Int32 → mm_M → Prop} {y1 : Int32} {y2 : Int32} {y3 : Int32} (hG : mm_G M.2.2) (h : mm_CI mX12_houseMany d [.ref 164] M (fun z6 m6 => if z6 ≤ y3 then (K y2 m6) else (mm_CI mX12_areEnemies d [.ref 164, .int y1, .int y3] m6 (fun z15 m15 => if z15 = 0 then (jX12_enemyMany_4 d x1 m15 K y1 y2 (y3 + 1)) else (jX12_enemyMany_4 d x1 m15 K y1 (y2 + 1) (y3 + 1)))))) : jX12_enemyMany_4 d x1 M K y1 y2 y3 := by
  unfold jX12_enemyMany_4
  refine mm_iload_n (pc := 4) (j := 3) dX12_enemyMany_4 rfl rfl ?_
  refine mm_aload_n (pc := 5) (j := 0) dX12_enemyMany_5 rfl rfl ?_
  refine mm_kVI (pc := 6) [] dX12_enemyMany_6 kX12_412 rfl sh_164 (Nat.le_of_ble_eq_true rfl) (Nat.le_of_ble_eq_true rfl) h (fun z6 m6 hG h => ?_)
  refine mm_icmp_ge (pc := 9) (tgt := 30) dX12_enemyMany_9 (by decide) (fun hc => ?_) (fun hc => ?_)
  · have h := mm_ift hc h
    refine mm_iload_n (pc := 30) (j := 2) dX12_enemyMany_30 rfl rfl ?_
    exact mm_iret (pc := 31) dX12_enemyMany_31 rfl (Nat.le_refl 0) (Nat.le_refl 0) ⟨_, rfl, rfl, hG, h⟩
  · have h := mm_iff hc h
    refine mm_aload_n (pc := 12) (j := 0) dX12_enemyMany_12 rfl rfl ?_
    refine mm_iload_n (pc := 13) (j := 1) dX12_enemyMany_13 rfl rfl ?_
    refine mm_iload_n (pc := 14) (j := 3) dX12_enemyMany_14 rfl rfl ?_
    refine mm_kVI (pc := 15) [.int y1, .int y3] dX12_enemyMany_15 kX12_418 rfl sh_164 (Nat.le_of_ble_eq_true rfl) (Nat.le_of_ble_eq_true rfl) h (fun z15 m15 hG h => ?_)
    refine mm_if_eq (pc := 18) (tgt := 24) dX12_enemyMany_18 (by decide) (fun hc => ?_) (fun hc => ?_)
    · have h := mm_ift hc h
      refine mm_iinc (pc := 24) (j := 3) (v := y3 + 1) (lv' := [(3, .int (y3 + 1)), (0, .ref 164), (1, .int y1), (2, .int y2)]) dX12_enemyMany_24 rfl rfl (by decide) rfl ?_
      refine mm_goto (pc := 27) (tgt := 4) dX12_enemyMany_27 (by decide) ?_
      exact mm_sub [1, 2, 3, 0] rfl h
    · have h := mm_iff hc h
      refine mm_iinc (pc := 21) (j := 2) (v := y2 + 1) (lv' := [(2, .int (y2 + 1)), (0, .ref 164), (1, .int y1), (3, .int y3)]) dX12_enemyMany_21 rfl rfl (by decide) rfl ?_
      refine mm_iinc (pc := 24) (j := 3) (v := y3 + 1) (lv' := [(3, .int (y3 + 1)), (2, .int (y2 + 1)), (0, .ref 164), (1, .int y1)]) dX12_enemyMany_24 rfl rfl (by decide) rfl ?_
      refine mm_goto (pc := 27) (tgt := 4) dX12_enemyMany_27 (by decide) ?_
      exact mm_sub [2, 3, 1, 0] rfl h
set_option maxRecDepth 100000 in
set_option maxHeartbeats 4000000 in
theorem rX12_isTold {d : Nat} {x1 : Int32} {M : mm_M} {K : Int32 → mm_M → Prop} (hG : mm_G M.2.2) (h : vp_in (5 + x1) 10 ∧ if (M.1 196 (5 + x1).toNatClampNeg) = (-1) then (K 0 M) else (K 1 M)) : mm_CI mX12_isTold d [.ref 164, .int x1] M K := by
  show mm_W mX12_isTold d 0 0 0 [(0, .ref 164), (1, .int x1)] [] mm_SH M 0 0 (mm_PI K)
  refine mm_aload_n (pc := 0) (j := 0) dX12_isTold_0 rfl rfl ?_
  refine mm_getR (pc := 1) (ci := 12) (N := 116) (r := 196) dX12_isTold_1 fX12_109 sh_164 rfl (g_164_43 hG) ?_
  refine mm_iconst (pc := 4) (x := 5) dX12_isTold_4 rfl ?_
  refine mm_iload_n (pc := 5) (j := 1) dX12_isTold_5 rfl rfl ?_
  refine mm_iadd (pc := 6) dX12_isTold_6 ?_
  obtain ⟨hi7, h⟩ := h
  refine mm_iaload (pc := 7) (N := 10) dX12_isTold_7 sh_196 hi7 ?_
  refine mm_iconst (pc := 8) (x := (-1)) dX12_isTold_8 rfl ?_
  refine mm_icmp_eq (pc := 9) (tgt := 16) dX12_isTold_9 (by decide) (fun hc => ?_) (fun hc => ?_)
  · have h := mm_ift hc h
    refine mm_iconst (pc := 16) (x := 0) dX12_isTold_16 rfl ?_
    exact mm_zret (pc := 17) dX12_isTold_17 rfl rfl (Nat.le_refl 0) (Nat.le_refl 0) ⟨_, rfl, rfl, hG, h⟩
  · have h := mm_iff hc h
    refine mm_iconst (pc := 12) (x := 1) dX12_isTold_12 rfl ?_
    refine mm_goto (pc := 13) (tgt := 17) dX12_isTold_13 (by decide) ?_
    exact mm_zret (pc := 17) dX12_isTold_17 rfl rfl (Nat.le_refl 0) (Nat.le_refl 0) ⟨_, rfl, rfl, hG, h⟩
def jX12_codesTell_22 (d : Nat) (x1 : Int32) (M : mm_M) (K : Int64 → mm_M → Prop) (y1 : Int32) (y2 : Int32) : Prop := mm_W mX12_codesTell (d + 1) 0 0 22 [(0, .ref 164), (1, .int y1), (2, .int y2)] [] mm_SH M 0 0 (mm_PL K)
set_option maxRecDepth 100000 in
set_option maxHeartbeats 4000000 in
theorem rX12_codesTell {d : Nat} {x1 : Int32} {M : mm_M} {K : Int64 → mm_M → Prop} (hG : mm_G M.2.2) (h : mm_CI mX12_kindOf d [.int x1] M (fun z2 m2 => vp_in (5 + x1) 10 ∧ jX12_codesTell_22 d x1 (mm_uI (mm_uI m2 164 49 z2) 164 111 0) K x1 ((mm_uI (mm_uI m2 164 49 z2) 164 111 0).1 196 (5 + x1).toNatClampNeg))) : mm_CL mX12_codesTell (d + 1) [.ref 164, .int x1] M K := by
  show mm_W mX12_codesTell (d + 1) 0 0 0 [(0, .ref 164), (1, .int x1)] [] mm_SH M 0 0 (mm_PL K)
  refine mm_aload_n (pc := 0) (j := 0) dX12_codesTell_0 rfl rfl ?_
  refine mm_iload_n (pc := 1) (j := 1) dX12_codesTell_1 rfl rfl ?_
  refine mm_kSI (pc := 2) [.int x1] dX12_codesTell_2 kX12_350 rfl (Nat.le_of_ble_eq_true rfl) (Nat.le_of_ble_eq_true rfl) h (fun z2 m2 hG h => ?_)
  refine mm_putI (pc := 5) (ci := 12) (N := 116) dX12_codesTell_5 fX12_318 sh_164 (by decide +kernel) rfl rfl rfl ?_
  refine mm_aload_n (pc := 8) (j := 0) dX12_codesTell_8 rfl rfl ?_
  refine mm_iconst (pc := 9) (x := 0) dX12_codesTell_9 rfl ?_
  refine mm_putI (pc := 10) (ci := 12) (N := 116) dX12_codesTell_10 fX12_422 sh_164 (by decide +kernel) rfl rfl rfl ?_
  refine mm_aload_n (pc := 13) (j := 0) dX12_codesTell_13 rfl rfl ?_
  refine mm_getR (pc := 14) (ci := 12) (N := 116) (r := 196) dX12_codesTell_14 fX12_109 sh_164 rfl (g_164_43 hG) ?_
  refine mm_iconst (pc := 17) (x := 5) dX12_codesTell_17 rfl ?_
  refine mm_iload_n (pc := 18) (j := 1) dX12_codesTell_18 rfl rfl ?_
  refine mm_iadd (pc := 19) dX12_codesTell_19 ?_
  obtain ⟨hi20, h⟩ := h
  refine mm_iaload (pc := 20) (N := 10) dX12_codesTell_20 sh_196 hi20 ?_
  refine mm_istore_n (pc := 21) (lv' := [(2, .int ((mm_uI (mm_uI m2 164 49 z2) 164 111 0).1 196 (5 + x1).toNatClampNeg)), (0, .ref 164), (1, .int x1)]) dX12_codesTell_21 rfl (by decide) rfl ?_
  exact mm_sub [1, 2, 0] rfl h
set_option maxRecDepth 100000 in
set_option maxHeartbeats 4000000 in
theorem lX12_codesTell_22 {d : Nat} {x1 : Int32} {M : mm_M} {K : Int64 → mm_M → Prop} {y1 : Int32} {y2 : Int32} (hG : mm_G M.2.2) (h : vp_in (5 + y1) 10 ∧ if (M.1 197 (5 + y1).toNatClampNeg) ≤ y2 then (K (M.2.1 241 (0 : Int32).toNatClampNeg) M) else (vp_in (1600 + y2) 3200 ∧ if (M.1 198 (1600 + y2).toNatClampNeg) < 1000 then (if (M.1 198 (1600 + y2).toNatClampNeg) < 40 then (if (M.1 198 (1600 + y2).toNatClampNeg) = 13 then (mm_CV mX12_qPuts d [.ref 164, .long 1] M (fun m98 => jX12_codesTell_22 d x1 m98 K y1 (y2 + 1))) else (if (M.1 198 (1600 + y2).toNatClampNeg) = 12 then (vp_in ((M.1 164 111) - 1) 1700 ∧ vp_in ((M.1 164 111) - 1) 1700 ∧ jX12_codesTell_22 d x1 (mm_uL M 241 ((M.1 164 111) - 1).toNatClampNeg (1 - (M.2.1 241 ((M.1 164 111) - 1).toNatClampNeg))) K y1 (y2 + 1)) else (mm_CV mX12_qJoins d [.ref 164, .int (M.1 198 (1600 + y2).toNatClampNeg)] M (fun m139 => jX12_codesTell_22 d x1 m139 K y1 (y2 + 1))))) else (mm_CL mX12_qPartOf d [.ref 164, .int ((M.1 198 (1600 + y2).toNatClampNeg) - 40), .int (M.1 164 52)] M (fun z81 m81 => mm_CV mX12_qPuts d [.ref 164, .long z81] m81 (fun m84 => jX12_codesTell_22 d x1 m84 K y1 (y2 + 1))))) else (mm_CV mX12_qPuts d [.ref 164, .long (((M.1 198 (1600 + y2).toNatClampNeg) - 1000).toInt64)] M (fun m59 => jX12_codesTell_22 d x1 m59 K y1 (y2 + 1))))) : jX12_codesTell_22 d x1 M K y1 y2 := by
  unfold jX12_codesTell_22
  refine mm_iload_n (pc := 22) (j := 2) dX12_codesTell_22 rfl rfl ?_
  refine mm_aload_n (pc := 23) (j := 0) dX12_codesTell_23 rfl rfl ?_
  refine mm_getR (pc := 24) (ci := 12) (N := 116) (r := 197) dX12_codesTell_24 fX12_112 sh_164 rfl (g_164_44 hG) ?_
  refine mm_iconst (pc := 27) (x := 5) dX12_codesTell_27 rfl ?_
  refine mm_iload_n (pc := 28) (j := 1) dX12_codesTell_28 rfl rfl ?_
  refine mm_iadd (pc := 29) dX12_codesTell_29 ?_
  obtain ⟨hi30, h⟩ := h
  refine mm_iaload (pc := 30) (N := 10) dX12_codesTell_30 sh_197 hi30 ?_
  refine mm_icmp_ge (pc := 31) (tgt := 148) dX12_codesTell_31 (by decide) (fun hc => ?_) (fun hc => ?_)
  · have h := mm_ift hc h
    refine mm_aload_n (pc := 148) (j := 0) dX12_codesTell_148 rfl rfl ?_
    refine mm_getR (pc := 149) (ci := 12) (N := 116) (r := 241) dX12_codesTell_149 fX12_249 sh_164 rfl (g_164_110 hG) ?_
    refine mm_iconst (pc := 152) (x := 0) dX12_codesTell_152 rfl ?_
    refine mm_laload (pc := 153) (N := 1700) dX12_codesTell_153 sh_241 (mm_vin (k := 0) rfl (by decide) (by decide)) ?_
    exact mm_lret (pc := 154) dX12_codesTell_154 rfl (Nat.le_refl 0) (Nat.le_refl 0) ⟨_, rfl, rfl, hG, h⟩
  · have h := mm_iff hc h
    refine mm_aload_n (pc := 34) (j := 0) dX12_codesTell_34 rfl rfl ?_
    refine mm_getR (pc := 35) (ci := 12) (N := 116) (r := 198) dX12_codesTell_35 fX12_115 sh_164 rfl (g_164_45 hG) ?_
    refine mm_sipush (pc := 38) (x := 1600) dX12_codesTell_38 rfl ?_
    refine mm_iload_n (pc := 41) (j := 2) dX12_codesTell_41 rfl rfl ?_
    refine mm_iadd (pc := 42) dX12_codesTell_42 ?_
    obtain ⟨hi43, h⟩ := h
    refine mm_iaload (pc := 43) (N := 3200) dX12_codesTell_43 sh_198 hi43 ?_
    refine mm_istore_n (pc := 44) (lv' := [(3, .int (M.1 198 (1600 + y2).toNatClampNeg)), (0, .ref 164), (1, .int y1), (2, .int y2)]) dX12_codesTell_44 rfl (by decide) rfl ?_
    refine mm_iload_n (pc := 45) (j := 0) dX12_codesTell_45 rfl rfl ?_
    refine mm_sipush (pc := 46) (x := 1000) dX12_codesTell_46 rfl ?_
    refine mm_icmp_lt (pc := 49) (tgt := 65) dX12_codesTell_49 (by decide) (fun hc => ?_) (fun hc => ?_)
    · have h := mm_ift hc h
      refine mm_iload_n (pc := 65) (j := 0) dX12_codesTell_65 rfl rfl ?_
      refine mm_bipush (pc := 66) (x := 40) dX12_codesTell_66 rfl ?_
      refine mm_icmp_lt (pc := 68) (tgt := 90) dX12_codesTell_68 (by decide) (fun hc => ?_) (fun hc => ?_)
      · have h := mm_ift hc h
        refine mm_iload_n (pc := 90) (j := 0) dX12_codesTell_90 rfl rfl ?_
        refine mm_bipush (pc := 91) (x := 13) dX12_codesTell_91 rfl ?_
        refine mm_icmp_ne (pc := 93) (tgt := 104) dX12_codesTell_93 (by decide) (fun hc => ?_) (fun hc => ?_)
        · have h := mm_iff hc h
          refine mm_iload_n (pc := 104) (j := 0) dX12_codesTell_104 rfl rfl ?_
          refine mm_bipush (pc := 105) (x := 12) dX12_codesTell_105 rfl ?_
          refine mm_icmp_ne (pc := 107) (tgt := 137) dX12_codesTell_107 (by decide) (fun hc => ?_) (fun hc => ?_)
          · have h := mm_iff hc h
            refine mm_aload_n (pc := 137) (j := 1) dX12_codesTell_137 rfl rfl ?_
            refine mm_iload_n (pc := 138) (j := 0) dX12_codesTell_138 rfl rfl ?_
            refine mm_kVV (pc := 139) [.int (M.1 198 (1600 + y2).toNatClampNeg)] dX12_codesTell_139 kX12_436 rfl sh_164 (Nat.le_of_ble_eq_true rfl) (Nat.le_of_ble_eq_true rfl) h (fun m139 hG h => ?_)
            refine mm_iinc (pc := 142) (j := 3) (v := y2 + 1) (lv' := [(2, .int (y2 + 1)), (3, .int (M.1 198 (1600 + y2).toNatClampNeg)), (0, .ref 164), (1, .int y1)]) dX12_codesTell_142 rfl rfl (by decide) rfl ?_
            refine mm_goto (pc := 145) (tgt := 22) dX12_codesTell_145 (by decide) ?_
            exact mm_sub [2, 3, 0] rfl h
          · have h := mm_ift hc h
            refine mm_aload_n (pc := 110) (j := 1) dX12_codesTell_110 rfl rfl ?_
            refine mm_getR (pc := 111) (ci := 12) (N := 116) (r := 241) dX12_codesTell_111 fX12_249 sh_164 rfl (g_164_110 hG) ?_
            refine mm_aload_n (pc := 114) (j := 1) dX12_codesTell_114 rfl rfl ?_
            refine mm_getI (pc := 115) (ci := 12) (N := 116) dX12_codesTell_115 fX12_422 sh_164 rfl ?_
            refine mm_iconst (pc := 118) (x := 1) dX12_codesTell_118 rfl ?_
            refine mm_isub (pc := 119) dX12_codesTell_119 ?_
            refine mm_lconst (pc := 120) (x := 1) dX12_codesTell_120 rfl ?_
            refine mm_aload_n (pc := 121) (j := 1) dX12_codesTell_121 rfl rfl ?_
            refine mm_getR (pc := 122) (ci := 12) (N := 116) (r := 241) dX12_codesTell_122 fX12_249 sh_164 rfl (g_164_110 hG) ?_
            refine mm_aload_n (pc := 125) (j := 1) dX12_codesTell_125 rfl rfl ?_
            refine mm_getI (pc := 126) (ci := 12) (N := 116) dX12_codesTell_126 fX12_422 sh_164 rfl ?_
            refine mm_iconst (pc := 129) (x := 1) dX12_codesTell_129 rfl ?_
            refine mm_isub (pc := 130) dX12_codesTell_130 ?_
            obtain ⟨hi131, h⟩ := h
            refine mm_laload (pc := 131) (N := 1700) dX12_codesTell_131 sh_241 hi131 ?_
            refine mm_lsub (pc := 132) dX12_codesTell_132 ?_
            obtain ⟨hi133, h⟩ := h
            refine mm_lastore (pc := 133) (N := 1700) dX12_codesTell_133 sh_241 hi133 ?_
            refine mm_goto (pc := 134) (tgt := 142) dX12_codesTell_134 (by decide) ?_
            refine mm_iinc (pc := 142) (j := 3) (v := y2 + 1) (lv' := [(2, .int (y2 + 1)), (3, .int (M.1 198 (1600 + y2).toNatClampNeg)), (0, .ref 164), (1, .int y1)]) dX12_codesTell_142 rfl rfl (by decide) rfl ?_
            refine mm_goto (pc := 145) (tgt := 22) dX12_codesTell_145 (by decide) ?_
            exact mm_sub [2, 3, 0] rfl h
        · have h := mm_ift hc h
          refine mm_aload_n (pc := 96) (j := 1) dX12_codesTell_96 rfl rfl ?_
          refine mm_lconst (pc := 97) (x := 1) dX12_codesTell_97 rfl ?_
          refine mm_kVV (pc := 98) [.long 1] dX12_codesTell_98 kX12_425 rfl sh_164 (Nat.le_of_ble_eq_true rfl) (Nat.le_of_ble_eq_true rfl) h (fun m98 hG h => ?_)
          refine mm_goto (pc := 101) (tgt := 142) dX12_codesTell_101 (by decide) ?_
          refine mm_iinc (pc := 142) (j := 3) (v := y2 + 1) (lv' := [(2, .int (y2 + 1)), (3, .int (M.1 198 (1600 + y2).toNatClampNeg)), (0, .ref 164), (1, .int y1)]) dX12_codesTell_142 rfl rfl (by decide) rfl ?_
          refine mm_goto (pc := 145) (tgt := 22) dX12_codesTell_145 (by decide) ?_
          exact mm_sub [2, 3, 0] rfl h
      · have h := mm_iff hc h
        refine mm_aload_n (pc := 71) (j := 1) dX12_codesTell_71 rfl rfl ?_
        refine mm_aload_n (pc := 72) (j := 1) dX12_codesTell_72 rfl rfl ?_
        refine mm_iload_n (pc := 73) (j := 0) dX12_codesTell_73 rfl rfl ?_
        refine mm_bipush (pc := 74) (x := 40) dX12_codesTell_74 rfl ?_
        refine mm_isub (pc := 76) dX12_codesTell_76 ?_
        refine mm_aload_n (pc := 77) (j := 1) dX12_codesTell_77 rfl rfl ?_
        refine mm_getI (pc := 78) (ci := 12) (N := 116) dX12_codesTell_78 fX12_429 sh_164 rfl ?_
        refine mm_kVL (pc := 81) [.int ((M.1 198 (1600 + y2).toNatClampNeg) - 40), .int (M.1 164 52)] dX12_codesTell_81 kX12_432 rfl sh_164 (Nat.le_of_ble_eq_true rfl) (Nat.le_of_ble_eq_true rfl) h (fun z81 m81 hG h => ?_)
        refine mm_kVV (pc := 84) [.long z81] dX12_codesTell_84 kX12_425 rfl sh_164 (Nat.le_of_ble_eq_true rfl) (Nat.le_of_ble_eq_true rfl) h (fun m84 hG h => ?_)
        refine mm_goto (pc := 87) (tgt := 142) dX12_codesTell_87 (by decide) ?_
        refine mm_iinc (pc := 142) (j := 3) (v := y2 + 1) (lv' := [(2, .int (y2 + 1)), (3, .int (M.1 198 (1600 + y2).toNatClampNeg)), (0, .ref 164), (1, .int y1)]) dX12_codesTell_142 rfl rfl (by decide) rfl ?_
        refine mm_goto (pc := 145) (tgt := 22) dX12_codesTell_145 (by decide) ?_
        exact mm_sub [2, 3, 0] rfl h
    · have h := mm_iff hc h
      refine mm_aload_n (pc := 52) (j := 1) dX12_codesTell_52 rfl rfl ?_
      refine mm_iload_n (pc := 53) (j := 0) dX12_codesTell_53 rfl rfl ?_
      refine mm_sipush (pc := 54) (x := 1000) dX12_codesTell_54 rfl ?_
      refine mm_isub (pc := 57) dX12_codesTell_57 ?_
      refine mm_i2l (pc := 58) dX12_codesTell_58 ?_
      refine mm_kVV (pc := 59) [.long (((M.1 198 (1600 + y2).toNatClampNeg) - 1000).toInt64)] dX12_codesTell_59 kX12_425 rfl sh_164 (Nat.le_of_ble_eq_true rfl) (Nat.le_of_ble_eq_true rfl) h (fun m59 hG h => ?_)
      refine mm_goto (pc := 62) (tgt := 142) dX12_codesTell_62 (by decide) ?_
      refine mm_iinc (pc := 142) (j := 3) (v := y2 + 1) (lv' := [(2, .int (y2 + 1)), (3, .int (M.1 198 (1600 + y2).toNatClampNeg)), (0, .ref 164), (1, .int y1)]) dX12_codesTell_142 rfl rfl (by decide) rfl ?_
      refine mm_goto (pc := 145) (tgt := 22) dX12_codesTell_145 (by decide) ?_
      exact mm_sub [2, 3, 0] rfl h
set_option maxRecDepth 100000 in
set_option maxHeartbeats 4000000 in
theorem rX12_asksOf {d : Nat} {x1 : Int32} {x2 : Int32} {M : mm_M} {K : mm_M → Prop} (hG : mm_G M.2.2) (h : mm_CI mX12_hateOf d [.ref 164, .int x1, .int x2] (mm_uI (mm_uI M 164 52 x1) 164 53 x2) (fun z14 m14 => K (mm_uL m14 164 54 z14.toInt64))) : mm_CV mX12_asksOf (d + 1) [.ref 164, .int x1, .int x2] M K := by
  show mm_W mX12_asksOf (d + 1) 0 0 0 [(0, .ref 164), (1, .int x1), (2, .int x2)] [] mm_SH M 0 0 (mm_PV K)
  refine mm_aload_n (pc := 0) (j := 0) dX12_asksOf_0 rfl rfl ?_
  refine mm_iload_n (pc := 1) (j := 1) dX12_asksOf_1 rfl rfl ?_
  refine mm_putI (pc := 2) (ci := 12) (N := 116) dX12_asksOf_2 fX12_429 sh_164 (by decide +kernel) rfl rfl rfl ?_
  refine mm_aload_n (pc := 5) (j := 0) dX12_asksOf_5 rfl rfl ?_
  refine mm_iload_n (pc := 6) (j := 2) dX12_asksOf_6 rfl rfl ?_
  refine mm_putI (pc := 7) (ci := 12) (N := 116) dX12_asksOf_7 fX12_439 sh_164 (by decide +kernel) rfl rfl rfl ?_
  refine mm_aload_n (pc := 10) (j := 0) dX12_asksOf_10 rfl rfl ?_
  refine mm_aload_n (pc := 11) (j := 0) dX12_asksOf_11 rfl rfl ?_
  refine mm_iload_n (pc := 12) (j := 1) dX12_asksOf_12 rfl rfl ?_
  refine mm_iload_n (pc := 13) (j := 2) dX12_asksOf_13 rfl rfl ?_
  refine mm_kVI (pc := 14) [.int x1, .int x2] dX12_asksOf_14 kX12_415 rfl sh_164 (Nat.le_of_ble_eq_true rfl) (Nat.le_of_ble_eq_true rfl) h (fun z14 m14 hG h => ?_)
  refine mm_i2l (pc := 17) dX12_asksOf_17 ?_
  refine mm_putL (pc := 18) (ci := 12) (N := 116) dX12_asksOf_18 fX12_442 sh_164 (by decide +kernel) rfl ?_
  exact mm_vret (pc := 21) dX12_asksOf_21 rfl (Nat.le_refl 0) (Nat.le_refl 0) ⟨rfl, rfl, hG, h⟩
set_option maxRecDepth 100000 in
set_option maxHeartbeats 4000000 in
theorem rX12_bakesFor {d : Nat} {x1 : Int32} {x2 : Int32} {M : mm_M} {K : Int64 → mm_M → Prop} (hG : mm_G M.2.2) (h : mm_CV mX12_asksOf d [.ref 164, .int x1, .int x2] M (fun m3 => mm_CI mX12_isTold d [.ref 164, .int 0] m3 (fun z8 m8 => if z8 = 0 then (K (m8.2.1 164 54) m8) else (mm_CL mX12_codesTell d [.ref 164, .int 0] m8 (fun z16 m16 => K z16 m16))))) : mm_CL mX12_bakesFor (d + 1) [.ref 164, .int x1, .int x2] M K := by
  show mm_W mX12_bakesFor (d + 1) 0 0 0 [(0, .ref 164), (1, .int x1), (2, .int x2)] [] mm_SH M 0 0 (mm_PL K)
  refine mm_aload_n (pc := 0) (j := 0) dX12_bakesFor_0 rfl rfl ?_
  refine mm_iload_n (pc := 1) (j := 1) dX12_bakesFor_1 rfl rfl ?_
  refine mm_iload_n (pc := 2) (j := 2) dX12_bakesFor_2 rfl rfl ?_
  refine mm_kVV (pc := 3) [.int x1, .int x2] dX12_bakesFor_3 kX12_445 rfl sh_164 (Nat.le_of_ble_eq_true rfl) (Nat.le_of_ble_eq_true rfl) h (fun m3 hG h => ?_)
  refine mm_aload_n (pc := 6) (j := 0) dX12_bakesFor_6 rfl rfl ?_
  refine mm_iconst (pc := 7) (x := 0) dX12_bakesFor_7 rfl ?_
  refine mm_kVI (pc := 8) [.int 0] dX12_bakesFor_8 kX12_448 rfl sh_164 (Nat.le_of_ble_eq_true rfl) (Nat.le_of_ble_eq_true rfl) h (fun z8 m8 hG h => ?_)
  refine mm_if_eq (pc := 11) (tgt := 22) dX12_bakesFor_11 (by decide) (fun hc => ?_) (fun hc => ?_)
  · have h := mm_ift hc h
    refine mm_aload_n (pc := 22) (j := 0) dX12_bakesFor_22 rfl rfl ?_
    refine mm_getL (pc := 23) (ci := 12) (N := 116) dX12_bakesFor_23 fX12_442 sh_164 rfl ?_
    exact mm_lret (pc := 26) dX12_bakesFor_26 rfl (Nat.le_refl 0) (Nat.le_refl 0) ⟨_, rfl, rfl, hG, h⟩
  · have h := mm_iff hc h
    refine mm_aload_n (pc := 14) (j := 0) dX12_bakesFor_14 rfl rfl ?_
    refine mm_iconst (pc := 15) (x := 0) dX12_bakesFor_15 rfl ?_
    refine mm_kVL (pc := 16) [.int 0] dX12_bakesFor_16 kX12_451 rfl sh_164 (Nat.le_of_ble_eq_true rfl) (Nat.le_of_ble_eq_true rfl) h (fun z16 m16 hG h => ?_)
    refine mm_goto (pc := 19) (tgt := 26) dX12_bakesFor_19 (by decide) ?_
    exact mm_lret (pc := 26) dX12_bakesFor_26 rfl (Nat.le_refl 0) (Nat.le_refl 0) ⟨_, rfl, rfl, hG, h⟩
set_option maxRecDepth 100000 in
set_option maxHeartbeats 4000000 in
theorem rX12_tasteOf {d : Nat} {x1 : Int32} {x2 : Int32} {M : mm_M} {K : Int32 → mm_M → Prop} (hG : mm_G M.2.2) (h : mm_CV mX12_asksOf d [.ref 164, .int x1, .int x2] M (fun m3 => mm_CI mX12_isTold d [.ref 164, .int 1] m3 (fun z8 m8 => if z8 = 0 then (vp_in (7 + x1) 14 ∧ mm_CI mX12_cut d [.long ((m8.1 194 (7 + x1).toNatClampNeg).toInt64)] m8 (fun z32 m32 => K z32 m32)) else (mm_CL mX12_codesTell d [.ref 164, .int 1] m8 (fun z16 m16 => mm_CI mX12_cut d [.long z16] m16 (fun z32 m32 => K z32 m32)))))) : mm_CI mX12_tasteOf (d + 1) [.ref 164, .int x1, .int x2] M K := by
  show mm_W mX12_tasteOf (d + 1) 0 0 0 [(0, .ref 164), (1, .int x1), (2, .int x2)] [] mm_SH M 0 0 (mm_PI K)
  refine mm_aload_n (pc := 0) (j := 0) dX12_tasteOf_0 rfl rfl ?_
  refine mm_iload_n (pc := 1) (j := 1) dX12_tasteOf_1 rfl rfl ?_
  refine mm_iload_n (pc := 2) (j := 2) dX12_tasteOf_2 rfl rfl ?_
  refine mm_kVV (pc := 3) [.int x1, .int x2] dX12_tasteOf_3 kX12_445 rfl sh_164 (Nat.le_of_ble_eq_true rfl) (Nat.le_of_ble_eq_true rfl) h (fun m3 hG h => ?_)
  refine mm_aload_n (pc := 6) (j := 0) dX12_tasteOf_6 rfl rfl ?_
  refine mm_iconst (pc := 7) (x := 1) dX12_tasteOf_7 rfl ?_
  refine mm_kVI (pc := 8) [.int 1] dX12_tasteOf_8 kX12_448 rfl sh_164 (Nat.le_of_ble_eq_true rfl) (Nat.le_of_ble_eq_true rfl) h (fun z8 m8 hG h => ?_)
  refine mm_if_eq (pc := 11) (tgt := 22) dX12_tasteOf_11 (by decide) (fun hc => ?_) (fun hc => ?_)
  · have h := mm_ift hc h
    refine mm_aload_n (pc := 22) (j := 0) dX12_tasteOf_22 rfl rfl ?_
    refine mm_getR (pc := 23) (ci := 12) (N := 116) (r := 194) dX12_tasteOf_23 fX12_103 sh_164 rfl (g_164_41 hG) ?_
    refine mm_bipush (pc := 26) (x := 7) dX12_tasteOf_26 rfl ?_
    refine mm_iload_n (pc := 28) (j := 1) dX12_tasteOf_28 rfl rfl ?_
    refine mm_iadd (pc := 29) dX12_tasteOf_29 ?_
    obtain ⟨hi30, h⟩ := h
    refine mm_iaload (pc := 30) (N := 14) dX12_tasteOf_30 sh_194 hi30 ?_
    refine mm_i2l (pc := 31) dX12_tasteOf_31 ?_
    refine mm_kSI (pc := 32) [.long ((m8.1 194 (7 + x1).toNatClampNeg).toInt64)] dX12_tasteOf_32 kX12_455 rfl (Nat.le_of_ble_eq_true rfl) (Nat.le_of_ble_eq_true rfl) h (fun z32 m32 hG h => ?_)
    exact mm_iret (pc := 35) dX12_tasteOf_35 rfl (Nat.le_refl 0) (Nat.le_refl 0) ⟨_, rfl, rfl, hG, h⟩
  · have h := mm_iff hc h
    refine mm_aload_n (pc := 14) (j := 0) dX12_tasteOf_14 rfl rfl ?_
    refine mm_iconst (pc := 15) (x := 1) dX12_tasteOf_15 rfl ?_
    refine mm_kVL (pc := 16) [.int 1] dX12_tasteOf_16 kX12_451 rfl sh_164 (Nat.le_of_ble_eq_true rfl) (Nat.le_of_ble_eq_true rfl) h (fun z16 m16 hG h => ?_)
    refine mm_goto (pc := 19) (tgt := 32) dX12_tasteOf_19 (by decide) ?_
    refine mm_kSI (pc := 32) [.long z16] dX12_tasteOf_32 kX12_455 rfl (Nat.le_of_ble_eq_true rfl) (Nat.le_of_ble_eq_true rfl) h (fun z32 m32 hG h => ?_)
    exact mm_iret (pc := 35) dX12_tasteOf_35 rfl (Nat.le_refl 0) (Nat.le_refl 0) ⟨_, rfl, rfl, hG, h⟩
set_option maxRecDepth 100000 in
set_option maxHeartbeats 4000000 in
theorem rX12_doesStarve {d : Nat} {x1 : Int32} {M : mm_M} {K : Int32 → mm_M → Prop} (hG : mm_G M.2.2) (h : mm_CI mX12_isTold d [.ref 164, .int 2] M (fun z2 m2 => if z2 = 0 then (mm_CI mX12_hungerOf d [.ref 164, .int x1] m2 (fun z10 m10 => if z10 ≤ 5 then (K 0 m10) else (K 1 m10))) else (mm_CL mX12_codesTell d [.ref 164, .int 2] (mm_uI (mm_uI m2 164 52 x1) 164 53 x1) (fun z35 m35 => if z35 = 1 then (K 1 m35) else (K 0 m35))))) : mm_CI mX12_doesStarve (d + 1) [.ref 164, .int x1] M K := by
  show mm_W mX12_doesStarve (d + 1) 0 0 0 [(0, .ref 164), (1, .int x1)] [] mm_SH M 0 0 (mm_PI K)
  refine mm_aload_n (pc := 0) (j := 0) dX12_doesStarve_0 rfl rfl ?_
  refine mm_iconst (pc := 1) (x := 2) dX12_doesStarve_1 rfl ?_
  refine mm_kVI (pc := 2) [.int 2] dX12_doesStarve_2 kX12_448 rfl sh_164 (Nat.le_of_ble_eq_true rfl) (Nat.le_of_ble_eq_true rfl) h (fun z2 m2 hG h => ?_)
  refine mm_if_ne (pc := 5) (tgt := 23) dX12_doesStarve_5 (by decide) (fun hc => ?_) (fun hc => ?_)
  · have h := mm_iff hc h
    refine mm_aload_n (pc := 23) (j := 0) dX12_doesStarve_23 rfl rfl ?_
    refine mm_iload_n (pc := 24) (j := 1) dX12_doesStarve_24 rfl rfl ?_
    refine mm_putI (pc := 25) (ci := 12) (N := 116) dX12_doesStarve_25 fX12_429 sh_164 (by decide +kernel) rfl rfl rfl ?_
    refine mm_aload_n (pc := 28) (j := 0) dX12_doesStarve_28 rfl rfl ?_
    refine mm_iload_n (pc := 29) (j := 1) dX12_doesStarve_29 rfl rfl ?_
    refine mm_putI (pc := 30) (ci := 12) (N := 116) dX12_doesStarve_30 fX12_439 sh_164 (by decide +kernel) rfl rfl rfl ?_
    refine mm_aload_n (pc := 33) (j := 0) dX12_doesStarve_33 rfl rfl ?_
    refine mm_iconst (pc := 34) (x := 2) dX12_doesStarve_34 rfl ?_
    refine mm_kVL (pc := 35) [.int 2] dX12_doesStarve_35 kX12_451 rfl sh_164 (Nat.le_of_ble_eq_true rfl) (Nat.le_of_ble_eq_true rfl) h (fun z35 m35 hG h => ?_)
    refine mm_lconst (pc := 38) (x := 1) dX12_doesStarve_38 rfl ?_
    refine mm_lcmp (pc := 39) dX12_doesStarve_39 ?_
    refine mm_if_ne (pc := 40) (tgt := 47) dX12_doesStarve_40 (by decide) (fun hc => ?_) (fun hc => ?_)
    · have h := mm_iff (fun q => hc (lgc_eq.mpr q)) h
      refine mm_iconst (pc := 47) (x := 0) dX12_doesStarve_47 rfl ?_
      exact mm_zret (pc := 48) dX12_doesStarve_48 rfl rfl (Nat.le_refl 0) (Nat.le_refl 0) ⟨_, rfl, rfl, hG, h⟩
    · have h := mm_ift (lgc_eq.mp hc) h
      refine mm_iconst (pc := 43) (x := 1) dX12_doesStarve_43 rfl ?_
      refine mm_goto (pc := 44) (tgt := 48) dX12_doesStarve_44 (by decide) ?_
      exact mm_zret (pc := 48) dX12_doesStarve_48 rfl rfl (Nat.le_refl 0) (Nat.le_refl 0) ⟨_, rfl, rfl, hG, h⟩
  · have h := mm_ift hc h
    refine mm_aload_n (pc := 8) (j := 0) dX12_doesStarve_8 rfl rfl ?_
    refine mm_iload_n (pc := 9) (j := 1) dX12_doesStarve_9 rfl rfl ?_
    refine mm_kVI (pc := 10) [.int x1] dX12_doesStarve_10 kX12_459 rfl sh_164 (Nat.le_of_ble_eq_true rfl) (Nat.le_of_ble_eq_true rfl) h (fun z10 m10 hG h => ?_)
    refine mm_iconst (pc := 13) (x := 5) dX12_doesStarve_13 rfl ?_
    refine mm_icmp_le (pc := 14) (tgt := 21) dX12_doesStarve_14 (by decide) (fun hc => ?_) (fun hc => ?_)
    · have h := mm_ift hc h
      refine mm_iconst (pc := 21) (x := 0) dX12_doesStarve_21 rfl ?_
      exact mm_zret (pc := 22) dX12_doesStarve_22 rfl rfl (Nat.le_refl 0) (Nat.le_refl 0) ⟨_, rfl, rfl, hG, h⟩
    · have h := mm_iff hc h
      refine mm_iconst (pc := 17) (x := 1) dX12_doesStarve_17 rfl ?_
      refine mm_goto (pc := 18) (tgt := 22) dX12_doesStarve_18 (by decide) ?_
      exact mm_zret (pc := 22) dX12_doesStarve_22 rfl rfl (Nat.le_refl 0) (Nat.le_refl 0) ⟨_, rfl, rfl, hG, h⟩
set_option maxRecDepth 100000 in
set_option maxHeartbeats 4000000 in
theorem rX12_canBake {d : Nat} {x1 : Int32} {M : mm_M} {K : Int32 → mm_M → Prop} (hG : mm_G M.2.2) (h : mm_CI mX12_isThere d [.ref 164, .int x1] M (fun z2 m2 => if z2 = 0 then (K 0 m2) else (mm_CI mX12_flourOf d [.ref 164, .int x1] m2 (fun z10 m10 => if z10 < (m10.1 191 (2 : Int32).toNatClampNeg) then (K 0 m10) else (if ((((m10.1 164 59) ||| (m10.1 164 60)) >>> (x1 &&& 31)) &&& 1) = 0 then (K 1 m10) else (K 0 m10)))))) : mm_CI mX12_canBake (d + 1) [.ref 164, .int x1] M K := by
  show mm_W mX12_canBake (d + 1) 0 0 0 [(0, .ref 164), (1, .int x1)] [] mm_SH M 0 0 (mm_PI K)
  refine mm_aload_n (pc := 0) (j := 0) dX12_canBake_0 rfl rfl ?_
  refine mm_iload_n (pc := 1) (j := 1) dX12_canBake_1 rfl rfl ?_
  refine mm_kVI (pc := 2) [.int x1] dX12_canBake_2 kX12_462 rfl sh_164 (Nat.le_of_ble_eq_true rfl) (Nat.le_of_ble_eq_true rfl) h (fun z2 m2 hG h => ?_)
  refine mm_if_eq (pc := 5) (tgt := 42) dX12_canBake_5 (by decide) (fun hc => ?_) (fun hc => ?_)
  · have h := mm_ift hc h
    refine mm_iconst (pc := 42) (x := 0) dX12_canBake_42 rfl ?_
    exact mm_zret (pc := 43) dX12_canBake_43 rfl rfl (Nat.le_refl 0) (Nat.le_refl 0) ⟨_, rfl, rfl, hG, h⟩
  · have h := mm_iff hc h
    refine mm_aload_n (pc := 8) (j := 0) dX12_canBake_8 rfl rfl ?_
    refine mm_iload_n (pc := 9) (j := 1) dX12_canBake_9 rfl rfl ?_
    refine mm_kVI (pc := 10) [.int x1] dX12_canBake_10 kX12_465 rfl sh_164 (Nat.le_of_ble_eq_true rfl) (Nat.le_of_ble_eq_true rfl) h (fun z10 m10 hG h => ?_)
    refine mm_aload_n (pc := 13) (j := 0) dX12_canBake_13 rfl rfl ?_
    refine mm_getR (pc := 14) (ci := 12) (N := 116) (r := 191) dX12_canBake_14 fX12_93 sh_164 rfl (g_164_36 hG) ?_
    refine mm_iconst (pc := 17) (x := 2) dX12_canBake_17 rfl ?_
    refine mm_iaload (pc := 18) (N := 4) dX12_canBake_18 sh_191 (mm_vin (k := 2) rfl (by decide) (by decide)) ?_
    refine mm_icmp_lt (pc := 19) (tgt := 42) dX12_canBake_19 (by decide) (fun hc => ?_) (fun hc => ?_)
    · have h := mm_ift hc h
      refine mm_iconst (pc := 42) (x := 0) dX12_canBake_42 rfl ?_
      exact mm_zret (pc := 43) dX12_canBake_43 rfl rfl (Nat.le_refl 0) (Nat.le_refl 0) ⟨_, rfl, rfl, hG, h⟩
    · have h := mm_iff hc h
      refine mm_aload_n (pc := 22) (j := 0) dX12_canBake_22 rfl rfl ?_
      refine mm_getI (pc := 23) (ci := 12) (N := 116) dX12_canBake_23 fX12_468 sh_164 rfl ?_
      refine mm_aload_n (pc := 26) (j := 0) dX12_canBake_26 rfl rfl ?_
      refine mm_getI (pc := 27) (ci := 12) (N := 116) dX12_canBake_27 fX12_471 sh_164 rfl ?_
      refine mm_ior (pc := 30) dX12_canBake_30 ?_
      refine mm_iload_n (pc := 31) (j := 1) dX12_canBake_31 rfl rfl ?_
      refine mm_ishr (pc := 32) dX12_canBake_32 ?_
      refine mm_iconst (pc := 33) (x := 1) dX12_canBake_33 rfl ?_
      refine mm_iand (pc := 34) dX12_canBake_34 ?_
      refine mm_if_ne (pc := 35) (tgt := 42) dX12_canBake_35 (by decide) (fun hc => ?_) (fun hc => ?_)
      · have h := mm_iff hc h
        refine mm_iconst (pc := 42) (x := 0) dX12_canBake_42 rfl ?_
        exact mm_zret (pc := 43) dX12_canBake_43 rfl rfl (Nat.le_refl 0) (Nat.le_refl 0) ⟨_, rfl, rfl, hG, h⟩
      · have h := mm_ift hc h
        refine mm_iconst (pc := 38) (x := 1) dX12_canBake_38 rfl ?_
        refine mm_goto (pc := 39) (tgt := 43) dX12_canBake_39 (by decide) ?_
        exact mm_zret (pc := 43) dX12_canBake_43 rfl rfl (Nat.le_refl 0) (Nat.le_refl 0) ⟨_, rfl, rfl, hG, h⟩
def jX12_bakerFor_7 (d : Nat) (x1 : Int32) (M : mm_M) (K : Int32 → mm_M → Prop) (y1 : Int32) (y2 : Int32) (y3 : Int64) (y5 : Int32) : Prop := mm_W mX12_bakerFor (d + 1) 0 0 7 [(0, .ref 164), (1, .int y1), (2, .int y2), (3, .long y3), (5, .int y5)] [] mm_SH M 0 0 (mm_PI K)
set_option maxRecDepth 100000 in
set_option maxHeartbeats 4000000 in
theorem rX12_bakerFor {d : Nat} {x1 : Int32} {M : mm_M} {K : Int32 → mm_M → Prop} (hG : mm_G M.2.2) (h : jX12_bakerFor_7 d x1 M K x1 (-1) 0 0) : mm_CI mX12_bakerFor (d + 1) [.ref 164, .int x1] M K := by
  show mm_W mX12_bakerFor (d + 1) 0 0 0 [(0, .ref 164), (1, .int x1)] [] mm_SH M 0 0 (mm_PI K)
  refine mm_iconst (pc := 0) (x := (-1)) dX12_bakerFor_0 rfl ?_
  refine mm_istore_n (pc := 1) (lv' := [(2, .int (-1)), (0, .ref 164), (1, .int x1)]) dX12_bakerFor_1 rfl (by decide) rfl ?_
  refine mm_lconst (pc := 2) (x := 0) dX12_bakerFor_2 rfl ?_
  refine mm_lstore_n (pc := 3) (lv' := [(3, .long 0), (2, .int (-1)), (0, .ref 164), (1, .int x1)]) dX12_bakerFor_3 rfl (by decide) rfl ?_
  refine mm_iconst (pc := 4) (x := 0) dX12_bakerFor_4 rfl ?_
  refine mm_istore (pc := 5) (lv' := [(5, .int 0), (3, .long 0), (2, .int (-1)), (0, .ref 164), (1, .int x1)]) dX12_bakerFor_5 (by decide) rfl ?_
  exact mm_sub [3, 4, 2, 1, 0] rfl h
set_option maxRecDepth 100000 in
set_option maxHeartbeats 4000000 in
theorem lX12_bakerFor_7 {d : Nat} {x1 : Int32} {M : mm_M} {K : Int32 → mm_M → Prop} {y1 : Int32} {y2 : Int32} {y3 : Int64} {y5 : Int32} (hG : mm_G M.2.2) (h : mm_CI mX12_houseMany d [.ref 164] M (fun z10 m10 => if z10 ≤ y5 then (K y2 m10) else (mm_CI mX12_areEnemies d [.ref 164, .int y1, .int y5] m10 (fun z20 m20 => if z20 = 0 then (jX12_bakerFor_7 d x1 m20 K y1 y2 y3 (y5 + 1)) else (mm_CI mX12_canBake d [.ref 164, .int y5] m20 (fun z29 m29 => if z29 = 0 then (jX12_bakerFor_7 d x1 m29 K y1 y2 y3 (y5 + 1)) else (mm_CL mX12_bakesFor d [.ref 164, .int y5, .int y1] m29 (fun z42 m42 => if y2 = (-1) then (jX12_bakerFor_7 d x1 m42 K y1 y5 z42 (y5 + 1)) else (if y3 < z42 then (jX12_bakerFor_7 d x1 m42 K y1 y5 z42 (y5 + 1)) else (jX12_bakerFor_7 d x1 m42 K y1 y2 y3 (y5 + 1))))))))))) : jX12_bakerFor_7 d x1 M K y1 y2 y3 y5 := by
  unfold jX12_bakerFor_7
  refine mm_iload (pc := 7) (j := 4) dX12_bakerFor_7 rfl ?_
  refine mm_aload_n (pc := 9) (j := 0) dX12_bakerFor_9 rfl rfl ?_
  refine mm_kVI (pc := 10) [] dX12_bakerFor_10 kX12_412 rfl sh_164 (Nat.le_of_ble_eq_true rfl) (Nat.le_of_ble_eq_true rfl) h (fun z10 m10 hG h => ?_)
  refine mm_icmp_ge (pc := 13) (tgt := 74) dX12_bakerFor_13 (by decide) (fun hc => ?_) (fun hc => ?_)
  · have h := mm_ift hc h
    refine mm_iload_n (pc := 74) (j := 2) dX12_bakerFor_74 rfl rfl ?_
    exact mm_iret (pc := 75) dX12_bakerFor_75 rfl (Nat.le_refl 0) (Nat.le_refl 0) ⟨_, rfl, rfl, hG, h⟩
  · have h := mm_iff hc h
    refine mm_aload_n (pc := 16) (j := 0) dX12_bakerFor_16 rfl rfl ?_
    refine mm_iload_n (pc := 17) (j := 1) dX12_bakerFor_17 rfl rfl ?_
    refine mm_iload (pc := 18) (j := 4) dX12_bakerFor_18 rfl ?_
    refine mm_kVI (pc := 20) [.int y1, .int y5] dX12_bakerFor_20 kX12_418 rfl sh_164 (Nat.le_of_ble_eq_true rfl) (Nat.le_of_ble_eq_true rfl) h (fun z20 m20 hG h => ?_)
    refine mm_if_eq (pc := 23) (tgt := 68) dX12_bakerFor_23 (by decide) (fun hc => ?_) (fun hc => ?_)
    · have h := mm_ift hc h
      refine mm_iinc (pc := 68) (j := 4) (v := y5 + 1) (lv' := [(5, .int (y5 + 1)), (0, .ref 164), (1, .int y1), (2, .int y2), (3, .long y3)]) dX12_bakerFor_68 rfl rfl (by decide) rfl ?_
      refine mm_goto (pc := 71) (tgt := 7) dX12_bakerFor_71 (by decide) ?_
      exact mm_sub [1, 2, 3, 4, 0] rfl h
    · have h := mm_iff hc h
      refine mm_aload_n (pc := 26) (j := 0) dX12_bakerFor_26 rfl rfl ?_
      refine mm_iload (pc := 27) (j := 4) dX12_bakerFor_27 rfl ?_
      refine mm_kVI (pc := 29) [.int y5] dX12_bakerFor_29 kX12_474 rfl sh_164 (Nat.le_of_ble_eq_true rfl) (Nat.le_of_ble_eq_true rfl) h (fun z29 m29 hG h => ?_)
      refine mm_if_ne (pc := 32) (tgt := 38) dX12_bakerFor_32 (by decide) (fun hc => ?_) (fun hc => ?_)
      · have h := mm_iff hc h
        refine mm_aload_n (pc := 38) (j := 0) dX12_bakerFor_38 rfl rfl ?_
        refine mm_iload (pc := 39) (j := 4) dX12_bakerFor_39 rfl ?_
        refine mm_iload_n (pc := 41) (j := 1) dX12_bakerFor_41 rfl rfl ?_
        refine mm_kVL (pc := 42) [.int y5, .int y1] dX12_bakerFor_42 kX12_477 rfl sh_164 (Nat.le_of_ble_eq_true rfl) (Nat.le_of_ble_eq_true rfl) h (fun z42 m42 hG h => ?_)
        refine mm_lstore (pc := 45) (lv' := [(6, .long z42), (0, .ref 164), (1, .int y1), (2, .int y2), (3, .long y3), (5, .int y5)]) dX12_bakerFor_45 (by decide) rfl ?_
        refine mm_iload_n (pc := 47) (j := 3) dX12_bakerFor_47 rfl rfl ?_
        refine mm_iconst (pc := 48) (x := (-1)) dX12_bakerFor_48 rfl ?_
        refine mm_icmp_eq (pc := 49) (tgt := 62) dX12_bakerFor_49 (by decide) (fun hc => ?_) (fun hc => ?_)
        · have h := mm_ift hc h
          refine mm_iload (pc := 62) (j := 5) dX12_bakerFor_62 rfl ?_
          refine mm_istore_n (pc := 64) (lv' := [(2, .int y5), (6, .long z42), (0, .ref 164), (1, .int y1), (3, .long y3), (5, .int y5)]) dX12_bakerFor_64 rfl (by decide) rfl ?_
          refine mm_lload (pc := 65) (j := 1) dX12_bakerFor_65 rfl ?_
          refine mm_lstore_n (pc := 67) (lv' := [(3, .long z42), (2, .int y5), (6, .long z42), (0, .ref 164), (1, .int y1), (5, .int y5)]) dX12_bakerFor_67 rfl (by decide) rfl ?_
          refine mm_iinc (pc := 68) (j := 5) (v := y5 + 1) (lv' := [(5, .int (y5 + 1)), (3, .long z42), (2, .int y5), (6, .long z42), (0, .ref 164), (1, .int y1)]) dX12_bakerFor_68 rfl rfl (by decide) rfl ?_
          refine mm_goto (pc := 71) (tgt := 7) dX12_bakerFor_71 (by decide) ?_
          exact mm_sub [4, 5, 2, 1, 0] rfl h
        · have h := mm_iff hc h
          refine mm_lload (pc := 52) (j := 0) dX12_bakerFor_52 rfl ?_
          refine mm_lload_n (pc := 54) (j := 4) dX12_bakerFor_54 rfl rfl ?_
          refine mm_lcmp (pc := 55) dX12_bakerFor_55 ?_
          refine mm_if_gt (pc := 56) (tgt := 62) dX12_bakerFor_56 (by decide) (fun hc => ?_) (fun hc => ?_)
          · have h := mm_ift (lgc_gt.mp hc) h
            refine mm_iload (pc := 62) (j := 5) dX12_bakerFor_62 rfl ?_
            refine mm_istore_n (pc := 64) (lv' := [(2, .int y5), (6, .long z42), (0, .ref 164), (1, .int y1), (3, .long y3), (5, .int y5)]) dX12_bakerFor_64 rfl (by decide) rfl ?_
            refine mm_lload (pc := 65) (j := 1) dX12_bakerFor_65 rfl ?_
            refine mm_lstore_n (pc := 67) (lv' := [(3, .long z42), (2, .int y5), (6, .long z42), (0, .ref 164), (1, .int y1), (5, .int y5)]) dX12_bakerFor_67 rfl (by decide) rfl ?_
            refine mm_iinc (pc := 68) (j := 5) (v := y5 + 1) (lv' := [(5, .int (y5 + 1)), (3, .long z42), (2, .int y5), (6, .long z42), (0, .ref 164), (1, .int y1)]) dX12_bakerFor_68 rfl rfl (by decide) rfl ?_
            refine mm_goto (pc := 71) (tgt := 7) dX12_bakerFor_71 (by decide) ?_
            exact mm_sub [4, 5, 2, 1, 0] rfl h
          · have h := mm_iff (fun q => hc (lgc_gt.mpr q)) h
            refine mm_goto (pc := 59) (tgt := 68) dX12_bakerFor_59 (by decide) ?_
            refine mm_iinc (pc := 68) (j := 5) (v := y5 + 1) (lv' := [(5, .int (y5 + 1)), (6, .long z42), (0, .ref 164), (1, .int y1), (2, .int y2), (3, .long y3)]) dX12_bakerFor_68 rfl rfl (by decide) rfl ?_
            refine mm_goto (pc := 71) (tgt := 7) dX12_bakerFor_71 (by decide) ?_
            exact mm_sub [2, 3, 4, 5, 0] rfl h
      · have h := mm_ift hc h
        refine mm_goto (pc := 35) (tgt := 68) dX12_bakerFor_35 (by decide) ?_
        refine mm_iinc (pc := 68) (j := 4) (v := y5 + 1) (lv' := [(5, .int (y5 + 1)), (0, .ref 164), (1, .int y1), (2, .int y2), (3, .long y3)]) dX12_bakerFor_68 rfl rfl (by decide) rfl ?_
        refine mm_goto (pc := 71) (tgt := 7) dX12_bakerFor_71 (by decide) ?_
        exact mm_sub [1, 2, 3, 4, 0] rfl h
def jX12_isKept_64 (d : Nat) (x1 : Int32) (x2 : Int32) (M : mm_M) (K : mm_M → Prop) (y1 : Int32) (y2 : Int32) : Prop := mm_W mX12_isKept d 0 0 64 [(0, .ref 164), (1, .int y1), (2, .int y2)] [] mm_SH M 0 0 (mm_PV K)
def jX12_isKept_23 (d : Nat) (x1 : Int32) (x2 : Int32) (M : mm_M) (K : mm_M → Prop) (y1 : Int32) (y2 : Int32) (y3 : Int32) : Prop := mm_W mX12_isKept d 0 0 23 [(0, .ref 164), (1, .int y1), (2, .int y2), (3, .int y3)] [] mm_SH M 0 0 (mm_PV K)
set_option maxRecDepth 100000 in
set_option maxHeartbeats 4000000 in
theorem rX12_isKept {d : Nat} {x1 : Int32} {x2 : Int32} {M : mm_M} {K : mm_M → Prop} (hG : mm_G M.2.2) (h : if (M.1 164 57) = 0 then (if (M.1 199 (43 : Int32).toNatClampNeg) = 40 then (jX12_isKept_23 d x1 x2 M K x1 x2 44) else (jX12_isKept_64 d x1 x2 (mm_uI M 199 (43 : Int32).toNatClampNeg ((M.1 199 (43 : Int32).toNatClampNeg) + 1)) K x1 x2)) else (K M)) : mm_CV mX12_isKept d [.ref 164, .int x1, .int x2] M K := by
  show mm_W mX12_isKept d 0 0 0 [(0, .ref 164), (1, .int x1), (2, .int x2)] [] mm_SH M 0 0 (mm_PV K)
  refine mm_aload_n (pc := 0) (j := 0) dX12_isKept_0 rfl rfl ?_
  refine mm_getI (pc := 1) (ci := 12) (N := 116) dX12_isKept_1 fX12_480 sh_164 rfl ?_
  refine mm_if_eq (pc := 4) (tgt := 8) dX12_isKept_4 (by decide) (fun hc => ?_) (fun hc => ?_)
  · have h := mm_ift hc h
    refine mm_aload_n (pc := 8) (j := 0) dX12_isKept_8 rfl rfl ?_
    refine mm_getR (pc := 9) (ci := 12) (N := 116) (r := 199) dX12_isKept_9 fX12_118 sh_164 rfl (g_164_50 hG) ?_
    refine mm_bipush (pc := 12) (x := 43) dX12_isKept_12 rfl ?_
    refine mm_iaload (pc := 14) (N := 204) dX12_isKept_14 sh_199 (mm_vin (k := 43) rfl (by decide) (by decide)) ?_
    refine mm_bipush (pc := 15) (x := 40) dX12_isKept_15 rfl ?_
    refine mm_icmp_ne (pc := 17) (tgt := 53) dX12_isKept_17 (by decide) (fun hc => ?_) (fun hc => ?_)
    · have h := mm_iff hc h
      refine mm_aload_n (pc := 53) (j := 0) dX12_isKept_53 rfl rfl ?_
      refine mm_getR (pc := 54) (ci := 12) (N := 116) (r := 199) dX12_isKept_54 fX12_118 sh_164 rfl (g_164_50 hG) ?_
      refine mm_bipush (pc := 57) (x := 43) dX12_isKept_57 rfl ?_
      refine mm_dup2 (pc := 59) dX12_isKept_59 rfl rfl ?_
      refine mm_iaload (pc := 60) (N := 204) dX12_isKept_60 sh_199 (mm_vin (k := 43) rfl (by decide) (by decide)) ?_
      refine mm_iconst (pc := 61) (x := 1) dX12_isKept_61 rfl ?_
      refine mm_iadd (pc := 62) dX12_isKept_62 ?_
      refine mm_iastore (pc := 63) (N := 204) dX12_isKept_63 sh_199 (mm_vin (k := 43) rfl (by decide) (by decide)) ?_
      exact h
    · have h := mm_ift hc h
      refine mm_bipush (pc := 20) (x := 44) dX12_isKept_20 rfl ?_
      refine mm_istore_n (pc := 22) (lv' := [(3, .int 44), (0, .ref 164), (1, .int x1), (2, .int x2)]) dX12_isKept_22 rfl (by decide) rfl ?_
      exact mm_sub [1, 2, 3, 0] rfl h
  · have h := mm_iff hc h
    exact mm_vret (pc := 7) dX12_isKept_7 rfl (Nat.le_refl 0) (Nat.le_refl 0) ⟨rfl, rfl, hG, h⟩
set_option maxRecDepth 100000 in
set_option maxHeartbeats 4000000 in
theorem lX12_isKept_64 {d : Nat} {x1 : Int32} {x2 : Int32} {M : mm_M} {K : mm_M → Prop} {y1 : Int32} {y2 : Int32} (hG : mm_G M.2.2) (h : vp_in ((44 + (4 * (M.1 199 (43 : Int32).toNatClampNeg))) - 4) 204 ∧ vp_in (((44 + (4 * (M.1 199 (43 : Int32).toNatClampNeg))) - 4) + 1) 204 ∧ vp_in (((44 + (4 * (M.1 199 (43 : Int32).toNatClampNeg))) - 4) + 2) 204 ∧ vp_in y2 7 ∧ vp_in (((44 + (4 * (M.1 199 (43 : Int32).toNatClampNeg))) - 4) + 3) 204 ∧ K (mm_uI (mm_uI (mm_uI (mm_uI M 199 ((44 + (4 * (M.1 199 (43 : Int32).toNatClampNeg))) - 4).toNatClampNeg (M.1 199 (0 : Int32).toNatClampNeg)) 199 (((44 + (4 * (M.1 199 (43 : Int32).toNatClampNeg))) - 4) + 1).toNatClampNeg y1) 199 (((44 + (4 * (M.1 199 (43 : Int32).toNatClampNeg))) - 4) + 2).toNatClampNeg y2) 199 (((44 + (4 * (M.1 199 (43 : Int32).toNatClampNeg))) - 4) + 3).toNatClampNeg ((mm_uI (mm_uI (mm_uI M 199 ((44 + (4 * (M.1 199 (43 : Int32).toNatClampNeg))) - 4).toNatClampNeg (M.1 199 (0 : Int32).toNatClampNeg)) 199 (((44 + (4 * (M.1 199 (43 : Int32).toNatClampNeg))) - 4) + 1).toNatClampNeg y1) 199 (((44 + (4 * (M.1 199 (43 : Int32).toNatClampNeg))) - 4) + 2).toNatClampNeg y2).1 203 y2.toNatClampNeg))) : jX12_isKept_64 d x1 x2 M K y1 y2 := by
  unfold jX12_isKept_64
  refine mm_bipush (pc := 64) (x := 44) dX12_isKept_64 rfl ?_
  refine mm_iconst (pc := 66) (x := 4) dX12_isKept_66 rfl ?_
  refine mm_aload_n (pc := 67) (j := 0) dX12_isKept_67 rfl rfl ?_
  refine mm_getR (pc := 68) (ci := 12) (N := 116) (r := 199) dX12_isKept_68 fX12_118 sh_164 rfl (g_164_50 hG) ?_
  refine mm_bipush (pc := 71) (x := 43) dX12_isKept_71 rfl ?_
  refine mm_iaload (pc := 73) (N := 204) dX12_isKept_73 sh_199 (mm_vin (k := 43) rfl (by decide) (by decide)) ?_
  refine mm_imul (pc := 74) dX12_isKept_74 ?_
  refine mm_iadd (pc := 75) dX12_isKept_75 ?_
  refine mm_iconst (pc := 76) (x := 4) dX12_isKept_76 rfl ?_
  refine mm_isub (pc := 77) dX12_isKept_77 ?_
  refine mm_istore_n (pc := 78) (lv' := [(3, .int ((44 + (4 * (M.1 199 (43 : Int32).toNatClampNeg))) - 4)), (0, .ref 164), (1, .int y1), (2, .int y2)]) dX12_isKept_78 rfl (by decide) rfl ?_
  refine mm_aload_n (pc := 79) (j := 1) dX12_isKept_79 rfl rfl ?_
  refine mm_getR (pc := 80) (ci := 12) (N := 116) (r := 199) dX12_isKept_80 fX12_118 sh_164 rfl (g_164_50 hG) ?_
  refine mm_iload_n (pc := 83) (j := 0) dX12_isKept_83 rfl rfl ?_
  refine mm_aload_n (pc := 84) (j := 1) dX12_isKept_84 rfl rfl ?_
  refine mm_getR (pc := 85) (ci := 12) (N := 116) (r := 199) dX12_isKept_85 fX12_118 sh_164 rfl (g_164_50 hG) ?_
  refine mm_iconst (pc := 88) (x := 0) dX12_isKept_88 rfl ?_
  refine mm_iaload (pc := 89) (N := 204) dX12_isKept_89 sh_199 (mm_vin (k := 0) rfl (by decide) (by decide)) ?_
  obtain ⟨hi90, h⟩ := h
  refine mm_iastore (pc := 90) (N := 204) dX12_isKept_90 sh_199 hi90 ?_
  refine mm_aload_n (pc := 91) (j := 1) dX12_isKept_91 rfl rfl ?_
  refine mm_getR (pc := 92) (ci := 12) (N := 116) (r := 199) dX12_isKept_92 fX12_118 sh_164 rfl (g_164_50 hG) ?_
  refine mm_iload_n (pc := 95) (j := 0) dX12_isKept_95 rfl rfl ?_
  refine mm_iconst (pc := 96) (x := 1) dX12_isKept_96 rfl ?_
  refine mm_iadd (pc := 97) dX12_isKept_97 ?_
  refine mm_iload_n (pc := 98) (j := 2) dX12_isKept_98 rfl rfl ?_
  obtain ⟨hi99, h⟩ := h
  refine mm_iastore (pc := 99) (N := 204) dX12_isKept_99 sh_199 hi99 ?_
  refine mm_aload_n (pc := 100) (j := 1) dX12_isKept_100 rfl rfl ?_
  refine mm_getR (pc := 101) (ci := 12) (N := 116) (r := 199) dX12_isKept_101 fX12_118 sh_164 rfl (g_164_50 hG) ?_
  refine mm_iload_n (pc := 104) (j := 0) dX12_isKept_104 rfl rfl ?_
  refine mm_iconst (pc := 105) (x := 2) dX12_isKept_105 rfl ?_
  refine mm_iadd (pc := 106) dX12_isKept_106 ?_
  refine mm_iload_n (pc := 107) (j := 3) dX12_isKept_107 rfl rfl ?_
  obtain ⟨hi108, h⟩ := h
  refine mm_iastore (pc := 108) (N := 204) dX12_isKept_108 sh_199 hi108 ?_
  refine mm_aload_n (pc := 109) (j := 1) dX12_isKept_109 rfl rfl ?_
  refine mm_getR (pc := 110) (ci := 12) (N := 116) (r := 199) dX12_isKept_110 fX12_118 sh_164 rfl (g_164_50 hG) ?_
  refine mm_iload_n (pc := 113) (j := 0) dX12_isKept_113 rfl rfl ?_
  refine mm_iconst (pc := 114) (x := 3) dX12_isKept_114 rfl ?_
  refine mm_iadd (pc := 115) dX12_isKept_115 ?_
  refine mm_aload_n (pc := 116) (j := 1) dX12_isKept_116 rfl rfl ?_
  refine mm_getR (pc := 117) (ci := 12) (N := 116) (r := 203) dX12_isKept_117 fX12_130 sh_164 rfl (g_164_62 hG) ?_
  refine mm_iload_n (pc := 120) (j := 3) dX12_isKept_120 rfl rfl ?_
  obtain ⟨hi121, h⟩ := h
  refine mm_iaload (pc := 121) (N := 7) dX12_isKept_121 sh_203 hi121 ?_
  obtain ⟨hi122, h⟩ := h
  refine mm_iastore (pc := 122) (N := 204) dX12_isKept_122 sh_199 hi122 ?_
  exact mm_vret (pc := 123) dX12_isKept_123 rfl (Nat.le_refl 0) (Nat.le_refl 0) ⟨rfl, rfl, hG, h⟩
set_option maxRecDepth 100000 in
set_option maxHeartbeats 4000000 in
theorem lX12_isKept_23 {d : Nat} {x1 : Int32} {x2 : Int32} {M : mm_M} {K : mm_M → Prop} {y1 : Int32} {y2 : Int32} {y3 : Int32} (hG : mm_G M.2.2) (h : if 200 ≤ y3 then (jX12_isKept_64 d x1 x2 M K y1 y2) else (vp_in (y3 + 4) 204 ∧ vp_in y3 204 ∧ jX12_isKept_23 d x1 x2 (mm_uI M 199 y3.toNatClampNeg (M.1 199 (y3 + 4).toNatClampNeg)) K y1 y2 (y3 + 1))) : jX12_isKept_23 d x1 x2 M K y1 y2 y3 := by
  unfold jX12_isKept_23
  refine mm_iload_n (pc := 23) (j := 3) dX12_isKept_23 rfl rfl ?_
  refine mm_sipush (pc := 24) (x := 200) dX12_isKept_24 rfl ?_
  refine mm_icmp_ge (pc := 27) (tgt := 50) dX12_isKept_27 (by decide) (fun hc => ?_) (fun hc => ?_)
  · have h := mm_ift hc h
    refine mm_goto (pc := 50) (tgt := 64) dX12_isKept_50 (by decide) ?_
    exact mm_sub [0, 1, 2] rfl h
  · have h := mm_iff hc h
    refine mm_aload_n (pc := 30) (j := 0) dX12_isKept_30 rfl rfl ?_
    refine mm_getR (pc := 31) (ci := 12) (N := 116) (r := 199) dX12_isKept_31 fX12_118 sh_164 rfl (g_164_50 hG) ?_
    refine mm_iload_n (pc := 34) (j := 3) dX12_isKept_34 rfl rfl ?_
    refine mm_aload_n (pc := 35) (j := 0) dX12_isKept_35 rfl rfl ?_
    refine mm_getR (pc := 36) (ci := 12) (N := 116) (r := 199) dX12_isKept_36 fX12_118 sh_164 rfl (g_164_50 hG) ?_
    refine mm_iload_n (pc := 39) (j := 3) dX12_isKept_39 rfl rfl ?_
    refine mm_iconst (pc := 40) (x := 4) dX12_isKept_40 rfl ?_
    refine mm_iadd (pc := 41) dX12_isKept_41 ?_
    obtain ⟨hi42, h⟩ := h
    refine mm_iaload (pc := 42) (N := 204) dX12_isKept_42 sh_199 hi42 ?_
    obtain ⟨hi43, h⟩ := h
    refine mm_iastore (pc := 43) (N := 204) dX12_isKept_43 sh_199 hi43 ?_
    refine mm_iinc (pc := 44) (j := 3) (v := y3 + 1) (lv' := [(3, .int (y3 + 1)), (0, .ref 164), (1, .int y1), (2, .int y2)]) dX12_isKept_44 rfl rfl (by decide) rfl ?_
    refine mm_goto (pc := 47) (tgt := 23) dX12_isKept_47 (by decide) ?_
    exact mm_sub [1, 2, 3, 0] rfl h
set_option maxRecDepth 100000 in
set_option maxHeartbeats 4000000 in
theorem rX12_eats {d : Nat} {x1 : Int32} {M : mm_M} {K : mm_M → Prop} (hG : mm_G M.2.2) (h : mm_CI mX12_bakerFor d [.ref 164, .int x1] M (fun z2 m2 => vp_in x1 7 ∧ if z2 = (-1) then (mm_CI mX12_hungerOf d [.ref 164, .int x1] (mm_uI m2 202 x1.toNatClampNeg z2) (fun z20 m20 => if 9 ≤ z20 then (K m20) else (vp_in (3 + (3 * x1)) 204 ∧ vp_in (3 + (3 * x1)) 204 ∧ K (mm_uI m20 199 (3 + (3 * x1)).toNatClampNeg ((m20.1 199 (3 + (3 * x1)).toNatClampNeg) + 1))))) else (mm_CI mX12_tasteOf d [.ref 164, .int z2, .int x1] (mm_uI m2 202 x1.toNatClampNeg z2) (fun z51 m51 => vp_in x1 7 ∧ vp_in (2 + (3 * z2)) 204 ∧ vp_in (2 + (3 * z2)) 204 ∧ vp_in (3 + (3 * x1)) 204 ∧ mm_CI mX12_pairOf d [.int z2, .int x1] (mm_uI (mm_uI (mm_uI (mm_uI m51 203 x1.toNatClampNeg z51) 199 (2 + (3 * z2)).toNatClampNeg (((mm_uI m51 203 x1.toNatClampNeg z51).1 199 (2 + (3 * z2)).toNatClampNeg) - ((mm_uI m51 203 x1.toNatClampNeg z51).1 191 (2 : Int32).toNatClampNeg))) 199 (3 + (3 * x1)).toNatClampNeg 0) 164 60 (((mm_uI (mm_uI (mm_uI m51 203 x1.toNatClampNeg z51) 199 (2 + (3 * z2)).toNatClampNeg (((mm_uI m51 203 x1.toNatClampNeg z51).1 199 (2 + (3 * z2)).toNatClampNeg) - ((mm_uI m51 203 x1.toNatClampNeg z51).1 191 (2 : Int32).toNatClampNeg))) 199 (3 + (3 * x1)).toNatClampNeg 0).1 164 60) ||| ((1 : Int32) <<< (z2 &&& 31)))) (fun z103 m103 => vp_in z103 21 ∧ vp_in z103 21 ∧ mm_CV mX12_isKept d [.ref 164, .int z2, .int x1] (mm_uI (mm_uI m103 204 z103.toNatClampNeg ((m103.1 204 z103.toNatClampNeg) + 1)) 164 58 (((mm_uI m103 204 z103.toNatClampNeg ((m103.1 204 z103.toNatClampNeg) + 1)).1 164 58) + 1)) (fun m124 => K m124)))))) : mm_CV mX12_eats (d + 1) [.ref 164, .int x1] M K := by
  show mm_W mX12_eats (d + 1) 0 0 0 [(0, .ref 164), (1, .int x1)] [] mm_SH M 0 0 (mm_PV K)
  refine mm_aload_n (pc := 0) (j := 0) dX12_eats_0 rfl rfl ?_
  refine mm_iload_n (pc := 1) (j := 1) dX12_eats_1 rfl rfl ?_
  refine mm_kVI (pc := 2) [.int x1] dX12_eats_2 kX12_483 rfl sh_164 (Nat.le_of_ble_eq_true rfl) (Nat.le_of_ble_eq_true rfl) h (fun z2 m2 hG h => ?_)
  refine mm_istore_n (pc := 5) (lv' := [(2, .int z2), (0, .ref 164), (1, .int x1)]) dX12_eats_5 rfl (by decide) rfl ?_
  refine mm_aload_n (pc := 6) (j := 1) dX12_eats_6 rfl rfl ?_
  refine mm_getR (pc := 7) (ci := 12) (N := 116) (r := 202) dX12_eats_7 fX12_127 sh_164 rfl (g_164_61 hG) ?_
  refine mm_iload_n (pc := 10) (j := 2) dX12_eats_10 rfl rfl ?_
  refine mm_iload_n (pc := 11) (j := 0) dX12_eats_11 rfl rfl ?_
  obtain ⟨hi12, h⟩ := h
  refine mm_iastore (pc := 12) (N := 7) dX12_eats_12 sh_202 hi12 ?_
  refine mm_iload_n (pc := 13) (j := 0) dX12_eats_13 rfl rfl ?_
  refine mm_iconst (pc := 14) (x := (-1)) dX12_eats_14 rfl ?_
  refine mm_icmp_ne (pc := 15) (tgt := 43) dX12_eats_15 (by decide) (fun hc => ?_) (fun hc => ?_)
  · have h := mm_iff hc h
    refine mm_aload_n (pc := 43) (j := 1) dX12_eats_43 rfl rfl ?_
    refine mm_getR (pc := 44) (ci := 12) (N := 116) (r := 203) dX12_eats_44 fX12_130 sh_164 rfl (g_164_62 hG) ?_
    refine mm_iload_n (pc := 47) (j := 2) dX12_eats_47 rfl rfl ?_
    refine mm_aload_n (pc := 48) (j := 1) dX12_eats_48 rfl rfl ?_
    refine mm_iload_n (pc := 49) (j := 0) dX12_eats_49 rfl rfl ?_
    refine mm_iload_n (pc := 50) (j := 2) dX12_eats_50 rfl rfl ?_
    refine mm_kVI (pc := 51) [.int z2, .int x1] dX12_eats_51 kX12_486 rfl sh_164 (Nat.le_of_ble_eq_true rfl) (Nat.le_of_ble_eq_true rfl) h (fun z51 m51 hG h => ?_)
    obtain ⟨hi54, h⟩ := h
    refine mm_iastore (pc := 54) (N := 7) dX12_eats_54 sh_203 hi54 ?_
    refine mm_aload_n (pc := 55) (j := 1) dX12_eats_55 rfl rfl ?_
    refine mm_getR (pc := 56) (ci := 12) (N := 116) (r := 199) dX12_eats_56 fX12_118 sh_164 rfl (g_164_50 hG) ?_
    refine mm_iconst (pc := 59) (x := 2) dX12_eats_59 rfl ?_
    refine mm_iconst (pc := 60) (x := 3) dX12_eats_60 rfl ?_
    refine mm_iload_n (pc := 61) (j := 0) dX12_eats_61 rfl rfl ?_
    refine mm_imul (pc := 62) dX12_eats_62 ?_
    refine mm_iadd (pc := 63) dX12_eats_63 ?_
    refine mm_dup2 (pc := 64) dX12_eats_64 rfl rfl ?_
    obtain ⟨hi65, h⟩ := h
    refine mm_iaload (pc := 65) (N := 204) dX12_eats_65 sh_199 hi65 ?_
    refine mm_aload_n (pc := 66) (j := 1) dX12_eats_66 rfl rfl ?_
    refine mm_getR (pc := 67) (ci := 12) (N := 116) (r := 191) dX12_eats_67 fX12_93 sh_164 rfl (g_164_36 hG) ?_
    refine mm_iconst (pc := 70) (x := 2) dX12_eats_70 rfl ?_
    refine mm_iaload (pc := 71) (N := 4) dX12_eats_71 sh_191 (mm_vin (k := 2) rfl (by decide) (by decide)) ?_
    refine mm_isub (pc := 72) dX12_eats_72 ?_
    obtain ⟨hi73, h⟩ := h
    refine mm_iastore (pc := 73) (N := 204) dX12_eats_73 sh_199 hi73 ?_
    refine mm_aload_n (pc := 74) (j := 1) dX12_eats_74 rfl rfl ?_
    refine mm_getR (pc := 75) (ci := 12) (N := 116) (r := 199) dX12_eats_75 fX12_118 sh_164 rfl (g_164_50 hG) ?_
    refine mm_iconst (pc := 78) (x := 3) dX12_eats_78 rfl ?_
    refine mm_iconst (pc := 79) (x := 3) dX12_eats_79 rfl ?_
    refine mm_iload_n (pc := 80) (j := 2) dX12_eats_80 rfl rfl ?_
    refine mm_imul (pc := 81) dX12_eats_81 ?_
    refine mm_iadd (pc := 82) dX12_eats_82 ?_
    refine mm_iconst (pc := 83) (x := 0) dX12_eats_83 rfl ?_
    obtain ⟨hi84, h⟩ := h
    refine mm_iastore (pc := 84) (N := 204) dX12_eats_84 sh_199 hi84 ?_
    refine mm_aload_n (pc := 85) (j := 1) dX12_eats_85 rfl rfl ?_
    refine mm_dup (pc := 86) dX12_eats_86 rfl ?_
    refine mm_getI (pc := 87) (ci := 12) (N := 116) dX12_eats_87 fX12_471 sh_164 rfl ?_
    refine mm_iconst (pc := 90) (x := 1) dX12_eats_90 rfl ?_
    refine mm_iload_n (pc := 91) (j := 0) dX12_eats_91 rfl rfl ?_
    refine mm_ishl (pc := 92) dX12_eats_92 ?_
    refine mm_ior (pc := 93) dX12_eats_93 ?_
    refine mm_putI (pc := 94) (ci := 12) (N := 116) dX12_eats_94 fX12_471 sh_164 (by decide +kernel) rfl rfl rfl ?_
    refine mm_aload_n (pc := 97) (j := 1) dX12_eats_97 rfl rfl ?_
    refine mm_getR (pc := 98) (ci := 12) (N := 116) (r := 204) dX12_eats_98 fX12_133 sh_164 rfl (g_164_63 hG) ?_
    refine mm_iload_n (pc := 101) (j := 0) dX12_eats_101 rfl rfl ?_
    refine mm_iload_n (pc := 102) (j := 2) dX12_eats_102 rfl rfl ?_
    refine mm_kSI (pc := 103) [.int z2, .int x1] dX12_eats_103 kX12_347 rfl (Nat.le_of_ble_eq_true rfl) (Nat.le_of_ble_eq_true rfl) h (fun z103 m103 hG h => ?_)
    refine mm_dup2 (pc := 106) dX12_eats_106 rfl rfl ?_
    obtain ⟨hi107, h⟩ := h
    refine mm_iaload (pc := 107) (N := 21) dX12_eats_107 sh_204 hi107 ?_
    refine mm_iconst (pc := 108) (x := 1) dX12_eats_108 rfl ?_
    refine mm_iadd (pc := 109) dX12_eats_109 ?_
    obtain ⟨hi110, h⟩ := h
    refine mm_iastore (pc := 110) (N := 21) dX12_eats_110 sh_204 hi110 ?_
    refine mm_aload_n (pc := 111) (j := 1) dX12_eats_111 rfl rfl ?_
    refine mm_dup (pc := 112) dX12_eats_112 rfl ?_
    refine mm_getI (pc := 113) (ci := 12) (N := 116) dX12_eats_113 fX12_489 sh_164 rfl ?_
    refine mm_iconst (pc := 116) (x := 1) dX12_eats_116 rfl ?_
    refine mm_iadd (pc := 117) dX12_eats_117 ?_
    refine mm_putI (pc := 118) (ci := 12) (N := 116) dX12_eats_118 fX12_489 sh_164 (by decide +kernel) rfl rfl rfl ?_
    refine mm_aload_n (pc := 121) (j := 1) dX12_eats_121 rfl rfl ?_
    refine mm_iload_n (pc := 122) (j := 0) dX12_eats_122 rfl rfl ?_
    refine mm_iload_n (pc := 123) (j := 2) dX12_eats_123 rfl rfl ?_
    refine mm_kVV (pc := 124) [.int z2, .int x1] dX12_eats_124 kX12_492 rfl sh_164 (Nat.le_of_ble_eq_true rfl) (Nat.le_of_ble_eq_true rfl) h (fun m124 hG h => ?_)
    exact mm_vret (pc := 127) dX12_eats_127 rfl (Nat.le_refl 0) (Nat.le_refl 0) ⟨rfl, rfl, hG, h⟩
  · have h := mm_ift hc h
    refine mm_aload_n (pc := 18) (j := 1) dX12_eats_18 rfl rfl ?_
    refine mm_iload_n (pc := 19) (j := 2) dX12_eats_19 rfl rfl ?_
    refine mm_kVI (pc := 20) [.int x1] dX12_eats_20 kX12_459 rfl sh_164 (Nat.le_of_ble_eq_true rfl) (Nat.le_of_ble_eq_true rfl) h (fun z20 m20 hG h => ?_)
    refine mm_bipush (pc := 23) (x := 9) dX12_eats_23 rfl ?_
    refine mm_icmp_ge (pc := 25) (tgt := 42) dX12_eats_25 (by decide) (fun hc => ?_) (fun hc => ?_)
    · have h := mm_ift hc h
      exact mm_vret (pc := 42) dX12_eats_42 rfl (Nat.le_refl 0) (Nat.le_refl 0) ⟨rfl, rfl, hG, h⟩
    · have h := mm_iff hc h
      refine mm_aload_n (pc := 28) (j := 1) dX12_eats_28 rfl rfl ?_
      refine mm_getR (pc := 29) (ci := 12) (N := 116) (r := 199) dX12_eats_29 fX12_118 sh_164 rfl (g_164_50 hG) ?_
      refine mm_iconst (pc := 32) (x := 3) dX12_eats_32 rfl ?_
      refine mm_iconst (pc := 33) (x := 3) dX12_eats_33 rfl ?_
      refine mm_iload_n (pc := 34) (j := 2) dX12_eats_34 rfl rfl ?_
      refine mm_imul (pc := 35) dX12_eats_35 ?_
      refine mm_iadd (pc := 36) dX12_eats_36 ?_
      refine mm_dup2 (pc := 37) dX12_eats_37 rfl rfl ?_
      obtain ⟨hi38, h⟩ := h
      refine mm_iaload (pc := 38) (N := 204) dX12_eats_38 sh_199 hi38 ?_
      refine mm_iconst (pc := 39) (x := 1) dX12_eats_39 rfl ?_
      refine mm_iadd (pc := 40) dX12_eats_40 ?_
      obtain ⟨hi41, h⟩ := h
      refine mm_iastore (pc := 41) (N := 204) dX12_eats_41 sh_199 hi41 ?_
      exact mm_vret (pc := 42) dX12_eats_42 rfl (Nat.le_refl 0) (Nat.le_refl 0) ⟨rfl, rfl, hG, h⟩
def jX12_allEat_7 (d : Nat) (M : mm_M) (K : mm_M → Prop) (y1 : Int32) : Prop := mm_W mX12_allEat (d + 1) 0 0 7 [(0, .ref 164), (1, .int y1)] [] mm_SH M 0 0 (mm_PV K)
def jX12_allEat_28 (d : Nat) (M : mm_M) (K : mm_M → Prop) (y1 : Int32) : Prop := mm_W mX12_allEat (d + 1) 0 0 28 [(0, .ref 164), (1, .int y1)] [] mm_SH M 0 0 (mm_PV K)
set_option maxRecDepth 100000 in
set_option maxHeartbeats 4000000 in
theorem rX12_allEat {d : Nat} {M : mm_M} {K : mm_M → Prop} (hG : mm_G M.2.2) (h : jX12_allEat_7 d (mm_uI M 164 60 0) K 0) : mm_CV mX12_allEat (d + 1) [.ref 164] M K := by
  show mm_W mX12_allEat (d + 1) 0 0 0 [(0, .ref 164)] [] mm_SH M 0 0 (mm_PV K)
  refine mm_aload_n (pc := 0) (j := 0) dX12_allEat_0 rfl rfl ?_
  refine mm_iconst (pc := 1) (x := 0) dX12_allEat_1 rfl ?_
  refine mm_putI (pc := 2) (ci := 12) (N := 116) dX12_allEat_2 fX12_471 sh_164 (by decide +kernel) rfl rfl rfl ?_
  refine mm_iconst (pc := 5) (x := 0) dX12_allEat_5 rfl ?_
  refine mm_istore_n (pc := 6) (lv' := [(1, .int 0), (0, .ref 164)]) dX12_allEat_6 rfl (by decide) rfl ?_
  exact mm_sub [1, 0] rfl h
set_option maxRecDepth 100000 in
set_option maxHeartbeats 4000000 in
theorem lX12_allEat_7 {d : Nat} {M : mm_M} {K : mm_M → Prop} {y1 : Int32} (hG : mm_G M.2.2) (h : if 21 ≤ y1 then (jX12_allEat_28 d M K 0) else (vp_in y1 21 ∧ jX12_allEat_7 d (mm_uI M 204 y1.toNatClampNeg 0) K (y1 + 1))) : jX12_allEat_7 d  M K y1 := by
  unfold jX12_allEat_7
  refine mm_iload_n (pc := 7) (j := 1) dX12_allEat_7 rfl rfl ?_
  refine mm_bipush (pc := 8) (x := 21) dX12_allEat_8 rfl ?_
  refine mm_icmp_ge (pc := 10) (tgt := 26) dX12_allEat_10 (by decide) (fun hc => ?_) (fun hc => ?_)
  · have h := mm_ift hc h
    refine mm_iconst (pc := 26) (x := 0) dX12_allEat_26 rfl ?_
    refine mm_istore_n (pc := 27) (lv' := [(1, .int 0), (0, .ref 164)]) dX12_allEat_27 rfl (by decide) rfl ?_
    exact mm_sub [1, 0] rfl h
  · have h := mm_iff hc h
    refine mm_aload_n (pc := 13) (j := 0) dX12_allEat_13 rfl rfl ?_
    refine mm_getR (pc := 14) (ci := 12) (N := 116) (r := 204) dX12_allEat_14 fX12_133 sh_164 rfl (g_164_63 hG) ?_
    refine mm_iload_n (pc := 17) (j := 1) dX12_allEat_17 rfl rfl ?_
    refine mm_iconst (pc := 18) (x := 0) dX12_allEat_18 rfl ?_
    obtain ⟨hi19, h⟩ := h
    refine mm_iastore (pc := 19) (N := 21) dX12_allEat_19 sh_204 hi19 ?_
    refine mm_iinc (pc := 20) (j := 1) (v := y1 + 1) (lv' := [(1, .int (y1 + 1)), (0, .ref 164)]) dX12_allEat_20 rfl rfl (by decide) rfl ?_
    refine mm_goto (pc := 23) (tgt := 7) dX12_allEat_23 (by decide) ?_
    exact mm_sub [1, 0] rfl h
set_option maxRecDepth 100000 in
set_option maxHeartbeats 4000000 in
theorem lX12_allEat_28 {d : Nat} {M : mm_M} {K : mm_M → Prop} {y1 : Int32} (hG : mm_G M.2.2) (h : mm_CI mX12_houseMany d [.ref 164] M (fun z30 m30 => if z30 ≤ y1 then (K m30) else (vp_in y1 7 ∧ mm_CI mX12_isThere d [.ref 164, .int y1] (mm_uI m30 202 y1.toNatClampNeg (-1)) (fun z45 m45 => if z45 = 0 then (jX12_allEat_28 d m45 K (y1 + 1)) else (mm_CV mX12_eats d [.ref 164, .int y1] m45 (fun m53 => jX12_allEat_28 d m53 K (y1 + 1))))))) : jX12_allEat_28 d  M K y1 := by
  unfold jX12_allEat_28
  refine mm_iload_n (pc := 28) (j := 1) dX12_allEat_28 rfl rfl ?_
  refine mm_aload_n (pc := 29) (j := 0) dX12_allEat_29 rfl rfl ?_
  refine mm_kVI (pc := 30) [] dX12_allEat_30 kX12_412 rfl sh_164 (Nat.le_of_ble_eq_true rfl) (Nat.le_of_ble_eq_true rfl) h (fun z30 m30 hG h => ?_)
  refine mm_icmp_ge (pc := 33) (tgt := 62) dX12_allEat_33 (by decide) (fun hc => ?_) (fun hc => ?_)
  · have h := mm_ift hc h
    exact mm_vret (pc := 62) dX12_allEat_62 rfl (Nat.le_refl 0) (Nat.le_refl 0) ⟨rfl, rfl, hG, h⟩
  · have h := mm_iff hc h
    refine mm_aload_n (pc := 36) (j := 0) dX12_allEat_36 rfl rfl ?_
    refine mm_getR (pc := 37) (ci := 12) (N := 116) (r := 202) dX12_allEat_37 fX12_127 sh_164 rfl (g_164_61 hG) ?_
    refine mm_iload_n (pc := 40) (j := 1) dX12_allEat_40 rfl rfl ?_
    refine mm_iconst (pc := 41) (x := (-1)) dX12_allEat_41 rfl ?_
    obtain ⟨hi42, h⟩ := h
    refine mm_iastore (pc := 42) (N := 7) dX12_allEat_42 sh_202 hi42 ?_
    refine mm_aload_n (pc := 43) (j := 0) dX12_allEat_43 rfl rfl ?_
    refine mm_iload_n (pc := 44) (j := 1) dX12_allEat_44 rfl rfl ?_
    refine mm_kVI (pc := 45) [.int y1] dX12_allEat_45 kX12_462 rfl sh_164 (Nat.le_of_ble_eq_true rfl) (Nat.le_of_ble_eq_true rfl) h (fun z45 m45 hG h => ?_)
    refine mm_if_eq (pc := 48) (tgt := 56) dX12_allEat_48 (by decide) (fun hc => ?_) (fun hc => ?_)
    · have h := mm_ift hc h
      refine mm_iinc (pc := 56) (j := 1) (v := y1 + 1) (lv' := [(1, .int (y1 + 1)), (0, .ref 164)]) dX12_allEat_56 rfl rfl (by decide) rfl ?_
      refine mm_goto (pc := 59) (tgt := 28) dX12_allEat_59 (by decide) ?_
      exact mm_sub [1, 0] rfl h
    · have h := mm_iff hc h
      refine mm_aload_n (pc := 51) (j := 0) dX12_allEat_51 rfl rfl ?_
      refine mm_iload_n (pc := 52) (j := 1) dX12_allEat_52 rfl rfl ?_
      refine mm_kVV (pc := 53) [.int y1] dX12_allEat_53 kX12_495 rfl sh_164 (Nat.le_of_ble_eq_true rfl) (Nat.le_of_ble_eq_true rfl) h (fun m53 hG h => ?_)
      refine mm_iinc (pc := 56) (j := 1) (v := y1 + 1) (lv' := [(1, .int (y1 + 1)), (0, .ref 164)]) dX12_allEat_56 rfl rfl (by decide) rfl ?_
      refine mm_goto (pc := 59) (tgt := 28) dX12_allEat_59 (by decide) ?_
      exact mm_sub [1, 0] rfl h
def jX12_isGone_13 (d : Nat) (x1 : Int32) (M : mm_M) (K : mm_M → Prop) (y1 : Int32) (y2 : Int32) : Prop := mm_W mX12_isGone (d + 1) 0 0 13 [(0, .ref 164), (1, .int y1), (2, .int y2)] [] mm_SH M 0 0 (mm_PV K)
set_option maxRecDepth 100000 in
set_option maxHeartbeats 4000000 in
theorem rX12_isGone {d : Nat} {x1 : Int32} {M : mm_M} {K : mm_M → Prop} (hG : mm_G M.2.2) (h : vp_in (1 + (3 * x1)) 204 ∧ jX12_isGone_13 d x1 (mm_uI M 199 (1 + (3 * x1)).toNatClampNeg 0) K x1 0) : mm_CV mX12_isGone (d + 1) [.ref 164, .int x1] M K := by
  show mm_W mX12_isGone (d + 1) 0 0 0 [(0, .ref 164), (1, .int x1)] [] mm_SH M 0 0 (mm_PV K)
  refine mm_aload_n (pc := 0) (j := 0) dX12_isGone_0 rfl rfl ?_
  refine mm_getR (pc := 1) (ci := 12) (N := 116) (r := 199) dX12_isGone_1 fX12_118 sh_164 rfl (g_164_50 hG) ?_
  refine mm_iconst (pc := 4) (x := 1) dX12_isGone_4 rfl ?_
  refine mm_iconst (pc := 5) (x := 3) dX12_isGone_5 rfl ?_
  refine mm_iload_n (pc := 6) (j := 1) dX12_isGone_6 rfl rfl ?_
  refine mm_imul (pc := 7) dX12_isGone_7 ?_
  refine mm_iadd (pc := 8) dX12_isGone_8 ?_
  refine mm_iconst (pc := 9) (x := 0) dX12_isGone_9 rfl ?_
  obtain ⟨hi10, h⟩ := h
  refine mm_iastore (pc := 10) (N := 204) dX12_isGone_10 sh_199 hi10 ?_
  refine mm_iconst (pc := 11) (x := 0) dX12_isGone_11 rfl ?_
  refine mm_istore_n (pc := 12) (lv' := [(2, .int 0), (0, .ref 164), (1, .int x1)]) dX12_isGone_12 rfl (by decide) rfl ?_
  exact mm_sub [1, 2, 0] rfl h
set_option maxRecDepth 100000 in
set_option maxHeartbeats 4000000 in
theorem lX12_isGone_13 {d : Nat} {x1 : Int32} {M : mm_M} {K : mm_M → Prop} {y1 : Int32} {y2 : Int32} (hG : mm_G M.2.2) (h : mm_CI mX12_houseMany d [.ref 164] M (fun z15 m15 => if z15 ≤ y2 then (K m15) else (if y2 = y1 then (jX12_isGone_13 d x1 m15 K y1 (y2 + 1)) else (mm_CI mX12_pairOf d [.int y1, .int y2] m15 (fun z34 m34 => vp_in (22 + z34) 204 ∧ jX12_isGone_13 d x1 (mm_uI m34 199 (22 + z34).toNatClampNeg 0) K y1 (y2 + 1)))))) : jX12_isGone_13 d x1 M K y1 y2 := by
  unfold jX12_isGone_13
  refine mm_iload_n (pc := 13) (j := 2) dX12_isGone_13 rfl rfl ?_
  refine mm_aload_n (pc := 14) (j := 0) dX12_isGone_14 rfl rfl ?_
  refine mm_kVI (pc := 15) [] dX12_isGone_15 kX12_412 rfl sh_164 (Nat.le_of_ble_eq_true rfl) (Nat.le_of_ble_eq_true rfl) h (fun z15 m15 hG h => ?_)
  refine mm_icmp_ge (pc := 18) (tgt := 46) dX12_isGone_18 (by decide) (fun hc => ?_) (fun hc => ?_)
  · have h := mm_ift hc h
    exact mm_vret (pc := 46) dX12_isGone_46 rfl (Nat.le_refl 0) (Nat.le_refl 0) ⟨rfl, rfl, hG, h⟩
  · have h := mm_iff hc h
    refine mm_iload_n (pc := 21) (j := 2) dX12_isGone_21 rfl rfl ?_
    refine mm_iload_n (pc := 22) (j := 1) dX12_isGone_22 rfl rfl ?_
    refine mm_icmp_eq (pc := 23) (tgt := 40) dX12_isGone_23 (by decide) (fun hc => ?_) (fun hc => ?_)
    · have h := mm_ift hc h
      refine mm_iinc (pc := 40) (j := 2) (v := y2 + 1) (lv' := [(2, .int (y2 + 1)), (0, .ref 164), (1, .int y1)]) dX12_isGone_40 rfl rfl (by decide) rfl ?_
      refine mm_goto (pc := 43) (tgt := 13) dX12_isGone_43 (by decide) ?_
      exact mm_sub [1, 2, 0] rfl h
    · have h := mm_iff hc h
      refine mm_aload_n (pc := 26) (j := 0) dX12_isGone_26 rfl rfl ?_
      refine mm_getR (pc := 27) (ci := 12) (N := 116) (r := 199) dX12_isGone_27 fX12_118 sh_164 rfl (g_164_50 hG) ?_
      refine mm_bipush (pc := 30) (x := 22) dX12_isGone_30 rfl ?_
      refine mm_iload_n (pc := 32) (j := 1) dX12_isGone_32 rfl rfl ?_
      refine mm_iload_n (pc := 33) (j := 2) dX12_isGone_33 rfl rfl ?_
      refine mm_kSI (pc := 34) [.int y1, .int y2] dX12_isGone_34 kX12_347 rfl (Nat.le_of_ble_eq_true rfl) (Nat.le_of_ble_eq_true rfl) h (fun z34 m34 hG h => ?_)
      refine mm_iadd (pc := 37) dX12_isGone_37 ?_
      refine mm_iconst (pc := 38) (x := 0) dX12_isGone_38 rfl ?_
      obtain ⟨hi39, h⟩ := h
      refine mm_iastore (pc := 39) (N := 204) dX12_isGone_39 sh_199 hi39 ?_
      refine mm_iinc (pc := 40) (j := 2) (v := y2 + 1) (lv' := [(2, .int (y2 + 1)), (0, .ref 164), (1, .int y1)]) dX12_isGone_40 rfl rfl (by decide) rfl ?_
      refine mm_goto (pc := 43) (tgt := 13) dX12_isGone_43 (by decide) ?_
      exact mm_sub [1, 2, 0] rfl h
set_option maxRecDepth 100000 in
set_option maxHeartbeats 4000000 in
theorem rX12_cool {d : Nat} {x1 : Int32} {x2 : Int32} {M : mm_M} {K : mm_M → Prop} (hG : mm_G M.2.2) (h : mm_CI mX12_areEnemies d [.ref 164, .int x1, .int x2] M (fun z3 m3 => if z3 = 0 then (K m3) else (mm_CI mX12_isTold d [.ref 164, .int 3] m3 (fun z11 m11 => if z11 = 0 then (K m11) else (mm_CI mX12_hateOf d [.ref 164, .int x1, .int x2] m11 (fun z22 m22 => mm_CI mX12_pairOf d [.int x1, .int x2] (mm_uL m22 164 54 z22.toInt64) (fun z36 m36 => vp_in z36 21 ∧ mm_CI mX12_pairOf d [.int x1, .int x2] (mm_uI m36 164 55 (m36.1 204 z36.toNatClampNeg)) (fun z51 m51 => mm_CL mX12_codesTell d [.ref 164, .int 3] m51 (fun z57 m57 => mm_CI mX12_cut d [.long z57] m57 (fun z60 m60 => vp_in (22 + z51) 204 ∧ K (mm_uI m60 199 (22 + z51).toNatClampNeg z60))))))))))) : mm_CV mX12_cool (d + 1) [.ref 164, .int x1, .int x2] M K := by
  show mm_W mX12_cool (d + 1) 0 0 0 [(0, .ref 164), (1, .int x1), (2, .int x2)] [] mm_SH M 0 0 (mm_PV K)
  refine mm_aload_n (pc := 0) (j := 0) dX12_cool_0 rfl rfl ?_
  refine mm_iload_n (pc := 1) (j := 1) dX12_cool_1 rfl rfl ?_
  refine mm_iload_n (pc := 2) (j := 2) dX12_cool_2 rfl rfl ?_
  refine mm_kVI (pc := 3) [.int x1, .int x2] dX12_cool_3 kX12_418 rfl sh_164 (Nat.le_of_ble_eq_true rfl) (Nat.le_of_ble_eq_true rfl) h (fun z3 m3 hG h => ?_)
  refine mm_if_eq (pc := 6) (tgt := 17) dX12_cool_6 (by decide) (fun hc => ?_) (fun hc => ?_)
  · have h := mm_ift hc h
    exact mm_vret (pc := 17) dX12_cool_17 rfl (Nat.le_refl 0) (Nat.le_refl 0) ⟨rfl, rfl, hG, h⟩
  · have h := mm_iff hc h
    refine mm_aload_n (pc := 9) (j := 0) dX12_cool_9 rfl rfl ?_
    refine mm_iconst (pc := 10) (x := 3) dX12_cool_10 rfl ?_
    refine mm_kVI (pc := 11) [.int 3] dX12_cool_11 kX12_448 rfl sh_164 (Nat.le_of_ble_eq_true rfl) (Nat.le_of_ble_eq_true rfl) h (fun z11 m11 hG h => ?_)
    refine mm_if_ne (pc := 14) (tgt := 18) dX12_cool_14 (by decide) (fun hc => ?_) (fun hc => ?_)
    · have h := mm_iff hc h
      refine mm_aload_n (pc := 18) (j := 0) dX12_cool_18 rfl rfl ?_
      refine mm_aload_n (pc := 19) (j := 0) dX12_cool_19 rfl rfl ?_
      refine mm_iload_n (pc := 20) (j := 1) dX12_cool_20 rfl rfl ?_
      refine mm_iload_n (pc := 21) (j := 2) dX12_cool_21 rfl rfl ?_
      refine mm_kVI (pc := 22) [.int x1, .int x2] dX12_cool_22 kX12_415 rfl sh_164 (Nat.le_of_ble_eq_true rfl) (Nat.le_of_ble_eq_true rfl) h (fun z22 m22 hG h => ?_)
      refine mm_i2l (pc := 25) dX12_cool_25 ?_
      refine mm_putL (pc := 26) (ci := 12) (N := 116) dX12_cool_26 fX12_442 sh_164 (by decide +kernel) rfl ?_
      refine mm_aload_n (pc := 29) (j := 0) dX12_cool_29 rfl rfl ?_
      refine mm_aload_n (pc := 30) (j := 0) dX12_cool_30 rfl rfl ?_
      refine mm_getR (pc := 31) (ci := 12) (N := 116) (r := 204) dX12_cool_31 fX12_133 sh_164 rfl (g_164_63 hG) ?_
      refine mm_iload_n (pc := 34) (j := 1) dX12_cool_34 rfl rfl ?_
      refine mm_iload_n (pc := 35) (j := 2) dX12_cool_35 rfl rfl ?_
      refine mm_kSI (pc := 36) [.int x1, .int x2] dX12_cool_36 kX12_347 rfl (Nat.le_of_ble_eq_true rfl) (Nat.le_of_ble_eq_true rfl) h (fun z36 m36 hG h => ?_)
      obtain ⟨hi39, h⟩ := h
      refine mm_iaload (pc := 39) (N := 21) dX12_cool_39 sh_204 hi39 ?_
      refine mm_putI (pc := 40) (ci := 12) (N := 116) dX12_cool_40 fX12_498 sh_164 (by decide +kernel) rfl rfl rfl ?_
      refine mm_aload_n (pc := 43) (j := 0) dX12_cool_43 rfl rfl ?_
      refine mm_getR (pc := 44) (ci := 12) (N := 116) (r := 199) dX12_cool_44 fX12_118 sh_164 rfl (g_164_50 hG) ?_
      refine mm_bipush (pc := 47) (x := 22) dX12_cool_47 rfl ?_
      refine mm_iload_n (pc := 49) (j := 1) dX12_cool_49 rfl rfl ?_
      refine mm_iload_n (pc := 50) (j := 2) dX12_cool_50 rfl rfl ?_
      refine mm_kSI (pc := 51) [.int x1, .int x2] dX12_cool_51 kX12_347 rfl (Nat.le_of_ble_eq_true rfl) (Nat.le_of_ble_eq_true rfl) h (fun z51 m51 hG h => ?_)
      refine mm_iadd (pc := 54) dX12_cool_54 ?_
      refine mm_aload_n (pc := 55) (j := 0) dX12_cool_55 rfl rfl ?_
      refine mm_iconst (pc := 56) (x := 3) dX12_cool_56 rfl ?_
      refine mm_kVL (pc := 57) [.int 3] dX12_cool_57 kX12_451 rfl sh_164 (Nat.le_of_ble_eq_true rfl) (Nat.le_of_ble_eq_true rfl) h (fun z57 m57 hG h => ?_)
      refine mm_kSI (pc := 60) [.long z57] dX12_cool_60 kX12_455 rfl (Nat.le_of_ble_eq_true rfl) (Nat.le_of_ble_eq_true rfl) h (fun z60 m60 hG h => ?_)
      obtain ⟨hi63, h⟩ := h
      refine mm_iastore (pc := 63) (N := 204) dX12_cool_63 sh_199 hi63 ?_
      exact mm_vret (pc := 64) dX12_cool_64 rfl (Nat.le_refl 0) (Nat.le_refl 0) ⟨rfl, rfl, hG, h⟩
    · have h := mm_ift hc h
      exact mm_vret (pc := 17) dX12_cool_17 rfl (Nat.le_refl 0) (Nat.le_refl 0) ⟨rfl, rfl, hG, h⟩
set_option maxRecDepth 100000 in
set_option maxHeartbeats 4000000 in
theorem rX12_grow {d : Nat} {x1 : Int32} {M : mm_M} {K : mm_M → Prop} (hG : mm_G M.2.2) (h : mm_CI mX12_flourOf d [.ref 164, .int x1] (mm_uI (mm_uI M 164 52 x1) 164 53 x1) (fun z21 m21 => mm_CI mX12_isTold d [.ref 164, .int 4] m21 (fun z27 m27 => if z27 = 0 then (mm_CI mX12_cut d [.long (z21.toInt64 + 1)] m27 (fun z43 m43 => vp_in (2 + (3 * x1)) 204 ∧ K (mm_uI m43 199 (2 + (3 * x1)).toNatClampNeg z43))) else (mm_CL mX12_codesTell d [.ref 164, .int 4] m27 (fun z35 m35 => mm_CI mX12_cut d [.long (z21.toInt64 + z35)] m35 (fun z43 m43 => vp_in (2 + (3 * x1)) 204 ∧ K (mm_uI m43 199 (2 + (3 * x1)).toNatClampNeg z43))))))) : mm_CV mX12_grow (d + 1) [.ref 164, .int x1] M K := by
  show mm_W mX12_grow (d + 1) 0 0 0 [(0, .ref 164), (1, .int x1)] [] mm_SH M 0 0 (mm_PV K)
  refine mm_aload_n (pc := 0) (j := 0) dX12_grow_0 rfl rfl ?_
  refine mm_iload_n (pc := 1) (j := 1) dX12_grow_1 rfl rfl ?_
  refine mm_putI (pc := 2) (ci := 12) (N := 116) dX12_grow_2 fX12_429 sh_164 (by decide +kernel) rfl rfl rfl ?_
  refine mm_aload_n (pc := 5) (j := 0) dX12_grow_5 rfl rfl ?_
  refine mm_iload_n (pc := 6) (j := 1) dX12_grow_6 rfl rfl ?_
  refine mm_putI (pc := 7) (ci := 12) (N := 116) dX12_grow_7 fX12_439 sh_164 (by decide +kernel) rfl rfl rfl ?_
  refine mm_aload_n (pc := 10) (j := 0) dX12_grow_10 rfl rfl ?_
  refine mm_getR (pc := 11) (ci := 12) (N := 116) (r := 199) dX12_grow_11 fX12_118 sh_164 rfl (g_164_50 hG) ?_
  refine mm_iconst (pc := 14) (x := 2) dX12_grow_14 rfl ?_
  refine mm_iconst (pc := 15) (x := 3) dX12_grow_15 rfl ?_
  refine mm_iload_n (pc := 16) (j := 1) dX12_grow_16 rfl rfl ?_
  refine mm_imul (pc := 17) dX12_grow_17 ?_
  refine mm_iadd (pc := 18) dX12_grow_18 ?_
  refine mm_aload_n (pc := 19) (j := 0) dX12_grow_19 rfl rfl ?_
  refine mm_iload_n (pc := 20) (j := 1) dX12_grow_20 rfl rfl ?_
  refine mm_kVI (pc := 21) [.int x1] dX12_grow_21 kX12_465 rfl sh_164 (Nat.le_of_ble_eq_true rfl) (Nat.le_of_ble_eq_true rfl) h (fun z21 m21 hG h => ?_)
  refine mm_i2l (pc := 24) dX12_grow_24 ?_
  refine mm_aload_n (pc := 25) (j := 0) dX12_grow_25 rfl rfl ?_
  refine mm_iconst (pc := 26) (x := 4) dX12_grow_26 rfl ?_
  refine mm_kVI (pc := 27) [.int 4] dX12_grow_27 kX12_448 rfl sh_164 (Nat.le_of_ble_eq_true rfl) (Nat.le_of_ble_eq_true rfl) h (fun z27 m27 hG h => ?_)
  refine mm_if_eq (pc := 30) (tgt := 41) dX12_grow_30 (by decide) (fun hc => ?_) (fun hc => ?_)
  · have h := mm_ift hc h
    refine mm_lconst (pc := 41) (x := 1) dX12_grow_41 rfl ?_
    refine mm_ladd (pc := 42) dX12_grow_42 ?_
    refine mm_kSI (pc := 43) [.long (z21.toInt64 + 1)] dX12_grow_43 kX12_455 rfl (Nat.le_of_ble_eq_true rfl) (Nat.le_of_ble_eq_true rfl) h (fun z43 m43 hG h => ?_)
    obtain ⟨hi46, h⟩ := h
    refine mm_iastore (pc := 46) (N := 204) dX12_grow_46 sh_199 hi46 ?_
    exact mm_vret (pc := 47) dX12_grow_47 rfl (Nat.le_refl 0) (Nat.le_refl 0) ⟨rfl, rfl, hG, h⟩
  · have h := mm_iff hc h
    refine mm_aload_n (pc := 33) (j := 0) dX12_grow_33 rfl rfl ?_
    refine mm_iconst (pc := 34) (x := 4) dX12_grow_34 rfl ?_
    refine mm_kVL (pc := 35) [.int 4] dX12_grow_35 kX12_451 rfl sh_164 (Nat.le_of_ble_eq_true rfl) (Nat.le_of_ble_eq_true rfl) h (fun z35 m35 hG h => ?_)
    refine mm_goto (pc := 38) (tgt := 42) dX12_grow_38 (by decide) ?_
    refine mm_ladd (pc := 42) dX12_grow_42 ?_
    refine mm_kSI (pc := 43) [.long (z21.toInt64 + z35)] dX12_grow_43 kX12_455 rfl (Nat.le_of_ble_eq_true rfl) (Nat.le_of_ble_eq_true rfl) h (fun z43 m43 hG h => ?_)
    obtain ⟨hi46, h⟩ := h
    refine mm_iastore (pc := 46) (N := 204) dX12_grow_46 sh_199 hi46 ?_
    exact mm_vret (pc := 47) dX12_grow_47 rfl (Nat.le_refl 0) (Nat.le_refl 0) ⟨rfl, rfl, hG, h⟩
def jX12_dayGoes_6 (d : Nat) (M : mm_M) (K : mm_M → Prop) (y1 : Int32) : Prop := mm_W mX12_dayGoes (d + 1) 0 0 6 [(0, .ref 164), (1, .int y1)] [] mm_SH M 0 0 (mm_PV K)
def jX12_dayGoes_43 (d : Nat) (M : mm_M) (K : mm_M → Prop) (y1 : Int32) : Prop := mm_W mX12_dayGoes (d + 1) 0 0 43 [(0, .ref 164), (1, .int y1)] [] mm_SH M 0 0 (mm_PV K)
def jX12_dayGoes_83 (d : Nat) (M : mm_M) (K : mm_M → Prop) (y1 : Int32) : Prop := mm_W mX12_dayGoes (d + 1) 0 0 83 [(0, .ref 164), (1, .int y1)] [] mm_SH M 0 0 (mm_PV K)
def jX12_dayGoes_55 (d : Nat) (M : mm_M) (K : mm_M → Prop) (y1 : Int32) (y2 : Int32) : Prop := mm_W mX12_dayGoes (d + 1) 0 0 55 [(0, .ref 164), (1, .int y1), (2, .int y2)] [] mm_SH M 0 0 (mm_PV K)
set_option maxRecDepth 100000 in
set_option maxHeartbeats 4000000 in
theorem rX12_dayGoes {d : Nat} {M : mm_M} {K : mm_M → Prop} (hG : mm_G M.2.2) (h : mm_CV mX12_allEat d [.ref 164] M (fun m1 => jX12_dayGoes_6 d m1 K 0)) : mm_CV mX12_dayGoes (d + 1) [.ref 164] M K := by
  show mm_W mX12_dayGoes (d + 1) 0 0 0 [(0, .ref 164)] [] mm_SH M 0 0 (mm_PV K)
  refine mm_aload_n (pc := 0) (j := 0) dX12_dayGoes_0 rfl rfl ?_
  refine mm_kVV (pc := 1) [] dX12_dayGoes_1 kX12_501 rfl sh_164 (Nat.le_of_ble_eq_true rfl) (Nat.le_of_ble_eq_true rfl) h (fun m1 hG h => ?_)
  refine mm_iconst (pc := 4) (x := 0) dX12_dayGoes_4 rfl ?_
  refine mm_istore_n (pc := 5) (lv' := [(1, .int 0), (0, .ref 164)]) dX12_dayGoes_5 rfl (by decide) rfl ?_
  exact mm_sub [1, 0] rfl h
set_option maxRecDepth 100000 in
set_option maxHeartbeats 4000000 in
theorem lX12_dayGoes_6 {d : Nat} {M : mm_M} {K : mm_M → Prop} {y1 : Int32} (hG : mm_G M.2.2) (h : mm_CI mX12_houseMany d [.ref 164] M (fun z8 m8 => if z8 ≤ y1 then (jX12_dayGoes_43 d m8 K 0) else (mm_CI mX12_isThere d [.ref 164, .int y1] m8 (fun z16 m16 => if z16 = 0 then (jX12_dayGoes_6 d m16 K (y1 + 1)) else (mm_CI mX12_doesStarve d [.ref 164, .int y1] m16 (fun z24 m24 => if z24 = 0 then (jX12_dayGoes_6 d m24 K (y1 + 1)) else (mm_CV mX12_isGone d [.ref 164, .int y1] m24 (fun m32 => jX12_dayGoes_6 d m32 K (y1 + 1))))))))) : jX12_dayGoes_6 d  M K y1 := by
  unfold jX12_dayGoes_6
  refine mm_iload_n (pc := 6) (j := 1) dX12_dayGoes_6 rfl rfl ?_
  refine mm_aload_n (pc := 7) (j := 0) dX12_dayGoes_7 rfl rfl ?_
  refine mm_kVI (pc := 8) [] dX12_dayGoes_8 kX12_412 rfl sh_164 (Nat.le_of_ble_eq_true rfl) (Nat.le_of_ble_eq_true rfl) h (fun z8 m8 hG h => ?_)
  refine mm_icmp_ge (pc := 11) (tgt := 41) dX12_dayGoes_11 (by decide) (fun hc => ?_) (fun hc => ?_)
  · have h := mm_ift hc h
    refine mm_iconst (pc := 41) (x := 0) dX12_dayGoes_41 rfl ?_
    refine mm_istore_n (pc := 42) (lv' := [(1, .int 0), (0, .ref 164)]) dX12_dayGoes_42 rfl (by decide) rfl ?_
    exact mm_sub [1, 0] rfl h
  · have h := mm_iff hc h
    refine mm_aload_n (pc := 14) (j := 0) dX12_dayGoes_14 rfl rfl ?_
    refine mm_iload_n (pc := 15) (j := 1) dX12_dayGoes_15 rfl rfl ?_
    refine mm_kVI (pc := 16) [.int y1] dX12_dayGoes_16 kX12_462 rfl sh_164 (Nat.le_of_ble_eq_true rfl) (Nat.le_of_ble_eq_true rfl) h (fun z16 m16 hG h => ?_)
    refine mm_if_eq (pc := 19) (tgt := 35) dX12_dayGoes_19 (by decide) (fun hc => ?_) (fun hc => ?_)
    · have h := mm_ift hc h
      refine mm_iinc (pc := 35) (j := 1) (v := y1 + 1) (lv' := [(1, .int (y1 + 1)), (0, .ref 164)]) dX12_dayGoes_35 rfl rfl (by decide) rfl ?_
      refine mm_goto (pc := 38) (tgt := 6) dX12_dayGoes_38 (by decide) ?_
      exact mm_sub [1, 0] rfl h
    · have h := mm_iff hc h
      refine mm_aload_n (pc := 22) (j := 0) dX12_dayGoes_22 rfl rfl ?_
      refine mm_iload_n (pc := 23) (j := 1) dX12_dayGoes_23 rfl rfl ?_
      refine mm_kVI (pc := 24) [.int y1] dX12_dayGoes_24 kX12_504 rfl sh_164 (Nat.le_of_ble_eq_true rfl) (Nat.le_of_ble_eq_true rfl) h (fun z24 m24 hG h => ?_)
      refine mm_if_eq (pc := 27) (tgt := 35) dX12_dayGoes_27 (by decide) (fun hc => ?_) (fun hc => ?_)
      · have h := mm_ift hc h
        refine mm_iinc (pc := 35) (j := 1) (v := y1 + 1) (lv' := [(1, .int (y1 + 1)), (0, .ref 164)]) dX12_dayGoes_35 rfl rfl (by decide) rfl ?_
        refine mm_goto (pc := 38) (tgt := 6) dX12_dayGoes_38 (by decide) ?_
        exact mm_sub [1, 0] rfl h
      · have h := mm_iff hc h
        refine mm_aload_n (pc := 30) (j := 0) dX12_dayGoes_30 rfl rfl ?_
        refine mm_iload_n (pc := 31) (j := 1) dX12_dayGoes_31 rfl rfl ?_
        refine mm_kVV (pc := 32) [.int y1] dX12_dayGoes_32 kX12_507 rfl sh_164 (Nat.le_of_ble_eq_true rfl) (Nat.le_of_ble_eq_true rfl) h (fun m32 hG h => ?_)
        refine mm_iinc (pc := 35) (j := 1) (v := y1 + 1) (lv' := [(1, .int (y1 + 1)), (0, .ref 164)]) dX12_dayGoes_35 rfl rfl (by decide) rfl ?_
        refine mm_goto (pc := 38) (tgt := 6) dX12_dayGoes_38 (by decide) ?_
        exact mm_sub [1, 0] rfl h
set_option maxRecDepth 100000 in
set_option maxHeartbeats 4000000 in
theorem lX12_dayGoes_43 {d : Nat} {M : mm_M} {K : mm_M → Prop} {y1 : Int32} (hG : mm_G M.2.2) (h : mm_CI mX12_houseMany d [.ref 164] M (fun z45 m45 => if z45 ≤ y1 then (jX12_dayGoes_83 d m45 K 0) else (jX12_dayGoes_55 d m45 K y1 (y1 + 1)))) : jX12_dayGoes_43 d  M K y1 := by
  unfold jX12_dayGoes_43
  refine mm_iload_n (pc := 43) (j := 1) dX12_dayGoes_43 rfl rfl ?_
  refine mm_aload_n (pc := 44) (j := 0) dX12_dayGoes_44 rfl rfl ?_
  refine mm_kVI (pc := 45) [] dX12_dayGoes_45 kX12_412 rfl sh_164 (Nat.le_of_ble_eq_true rfl) (Nat.le_of_ble_eq_true rfl) h (fun z45 m45 hG h => ?_)
  refine mm_icmp_ge (pc := 48) (tgt := 81) dX12_dayGoes_48 (by decide) (fun hc => ?_) (fun hc => ?_)
  · have h := mm_ift hc h
    refine mm_iconst (pc := 81) (x := 0) dX12_dayGoes_81 rfl ?_
    refine mm_istore_n (pc := 82) (lv' := [(1, .int 0), (0, .ref 164)]) dX12_dayGoes_82 rfl (by decide) rfl ?_
    exact mm_sub [1, 0] rfl h
  · have h := mm_iff hc h
    refine mm_iload_n (pc := 51) (j := 1) dX12_dayGoes_51 rfl rfl ?_
    refine mm_iconst (pc := 52) (x := 1) dX12_dayGoes_52 rfl ?_
    refine mm_iadd (pc := 53) dX12_dayGoes_53 ?_
    refine mm_istore_n (pc := 54) (lv' := [(2, .int (y1 + 1)), (0, .ref 164), (1, .int y1)]) dX12_dayGoes_54 rfl (by decide) rfl ?_
    exact mm_sub [1, 2, 0] rfl h
set_option maxRecDepth 100000 in
set_option maxHeartbeats 4000000 in
theorem lX12_dayGoes_83 {d : Nat} {M : mm_M} {K : mm_M → Prop} {y1 : Int32} (hG : mm_G M.2.2) (h : mm_CI mX12_houseMany d [.ref 164] M (fun z85 m85 => if z85 ≤ y1 then (K (mm_uI m85 199 (0 : Int32).toNatClampNeg ((m85.1 199 (0 : Int32).toNatClampNeg) + 1))) else (mm_CI mX12_isThere d [.ref 164, .int y1] m85 (fun z93 m93 => if z93 = 0 then (jX12_dayGoes_83 d m93 K (y1 + 1)) else (mm_CV mX12_grow d [.ref 164, .int y1] m93 (fun m101 => jX12_dayGoes_83 d m101 K (y1 + 1))))))) : jX12_dayGoes_83 d  M K y1 := by
  unfold jX12_dayGoes_83
  refine mm_iload_n (pc := 83) (j := 1) dX12_dayGoes_83 rfl rfl ?_
  refine mm_aload_n (pc := 84) (j := 0) dX12_dayGoes_84 rfl rfl ?_
  refine mm_kVI (pc := 85) [] dX12_dayGoes_85 kX12_412 rfl sh_164 (Nat.le_of_ble_eq_true rfl) (Nat.le_of_ble_eq_true rfl) h (fun z85 m85 hG h => ?_)
  refine mm_icmp_ge (pc := 88) (tgt := 110) dX12_dayGoes_88 (by decide) (fun hc => ?_) (fun hc => ?_)
  · have h := mm_ift hc h
    refine mm_aload_n (pc := 110) (j := 0) dX12_dayGoes_110 rfl rfl ?_
    refine mm_getR (pc := 111) (ci := 12) (N := 116) (r := 199) dX12_dayGoes_111 fX12_118 sh_164 rfl (g_164_50 hG) ?_
    refine mm_iconst (pc := 114) (x := 0) dX12_dayGoes_114 rfl ?_
    refine mm_dup2 (pc := 115) dX12_dayGoes_115 rfl rfl ?_
    refine mm_iaload (pc := 116) (N := 204) dX12_dayGoes_116 sh_199 (mm_vin (k := 0) rfl (by decide) (by decide)) ?_
    refine mm_iconst (pc := 117) (x := 1) dX12_dayGoes_117 rfl ?_
    refine mm_iadd (pc := 118) dX12_dayGoes_118 ?_
    refine mm_iastore (pc := 119) (N := 204) dX12_dayGoes_119 sh_199 (mm_vin (k := 0) rfl (by decide) (by decide)) ?_
    exact mm_vret (pc := 120) dX12_dayGoes_120 rfl (Nat.le_refl 0) (Nat.le_refl 0) ⟨rfl, rfl, hG, h⟩
  · have h := mm_iff hc h
    refine mm_aload_n (pc := 91) (j := 0) dX12_dayGoes_91 rfl rfl ?_
    refine mm_iload_n (pc := 92) (j := 1) dX12_dayGoes_92 rfl rfl ?_
    refine mm_kVI (pc := 93) [.int y1] dX12_dayGoes_93 kX12_462 rfl sh_164 (Nat.le_of_ble_eq_true rfl) (Nat.le_of_ble_eq_true rfl) h (fun z93 m93 hG h => ?_)
    refine mm_if_eq (pc := 96) (tgt := 104) dX12_dayGoes_96 (by decide) (fun hc => ?_) (fun hc => ?_)
    · have h := mm_ift hc h
      refine mm_iinc (pc := 104) (j := 1) (v := y1 + 1) (lv' := [(1, .int (y1 + 1)), (0, .ref 164)]) dX12_dayGoes_104 rfl rfl (by decide) rfl ?_
      refine mm_goto (pc := 107) (tgt := 83) dX12_dayGoes_107 (by decide) ?_
      exact mm_sub [1, 0] rfl h
    · have h := mm_iff hc h
      refine mm_aload_n (pc := 99) (j := 0) dX12_dayGoes_99 rfl rfl ?_
      refine mm_iload_n (pc := 100) (j := 1) dX12_dayGoes_100 rfl rfl ?_
      refine mm_kVV (pc := 101) [.int y1] dX12_dayGoes_101 kX12_513 rfl sh_164 (Nat.le_of_ble_eq_true rfl) (Nat.le_of_ble_eq_true rfl) h (fun m101 hG h => ?_)
      refine mm_iinc (pc := 104) (j := 1) (v := y1 + 1) (lv' := [(1, .int (y1 + 1)), (0, .ref 164)]) dX12_dayGoes_104 rfl rfl (by decide) rfl ?_
      refine mm_goto (pc := 107) (tgt := 83) dX12_dayGoes_107 (by decide) ?_
      exact mm_sub [1, 0] rfl h
set_option maxRecDepth 100000 in
set_option maxHeartbeats 4000000 in
theorem lX12_dayGoes_55 {d : Nat} {M : mm_M} {K : mm_M → Prop} {y1 : Int32} {y2 : Int32} (hG : mm_G M.2.2) (h : mm_CI mX12_houseMany d [.ref 164] M (fun z57 m57 => if z57 ≤ y2 then (jX12_dayGoes_43 d m57 K (y1 + 1)) else (mm_CV mX12_cool d [.ref 164, .int y1, .int y2] m57 (fun m66 => jX12_dayGoes_55 d m66 K y1 (y2 + 1))))) : jX12_dayGoes_55 d  M K y1 y2 := by
  unfold jX12_dayGoes_55
  refine mm_iload_n (pc := 55) (j := 2) dX12_dayGoes_55 rfl rfl ?_
  refine mm_aload_n (pc := 56) (j := 0) dX12_dayGoes_56 rfl rfl ?_
  refine mm_kVI (pc := 57) [] dX12_dayGoes_57 kX12_412 rfl sh_164 (Nat.le_of_ble_eq_true rfl) (Nat.le_of_ble_eq_true rfl) h (fun z57 m57 hG h => ?_)
  refine mm_icmp_ge (pc := 60) (tgt := 75) dX12_dayGoes_60 (by decide) (fun hc => ?_) (fun hc => ?_)
  · have h := mm_ift hc h
    refine mm_iinc (pc := 75) (j := 1) (v := y1 + 1) (lv' := [(1, .int (y1 + 1)), (0, .ref 164), (2, .int y2)]) dX12_dayGoes_75 rfl rfl (by decide) rfl ?_
    refine mm_goto (pc := 78) (tgt := 43) dX12_dayGoes_78 (by decide) ?_
    exact mm_sub [1, 0] rfl h
  · have h := mm_iff hc h
    refine mm_aload_n (pc := 63) (j := 0) dX12_dayGoes_63 rfl rfl ?_
    refine mm_iload_n (pc := 64) (j := 1) dX12_dayGoes_64 rfl rfl ?_
    refine mm_iload_n (pc := 65) (j := 2) dX12_dayGoes_65 rfl rfl ?_
    refine mm_kVV (pc := 66) [.int y1, .int y2] dX12_dayGoes_66 kX12_510 rfl sh_164 (Nat.le_of_ble_eq_true rfl) (Nat.le_of_ble_eq_true rfl) h (fun m66 hG h => ?_)
    refine mm_iinc (pc := 69) (j := 2) (v := y2 + 1) (lv' := [(2, .int (y2 + 1)), (0, .ref 164), (1, .int y1)]) dX12_dayGoes_69 rfl rfl (by decide) rfl ?_
    refine mm_goto (pc := 72) (tgt := 55) dX12_dayGoes_72 (by decide) ?_
    exact mm_sub [1, 2, 0] rfl h
def jX12_daysGo_2 (d : Nat) (x1 : Int32) (M : mm_M) (K : mm_M → Prop) (y1 : Int32) (y2 : Int32) : Prop := mm_W mX12_daysGo (d + 1) 0 0 2 [(0, .ref 164), (1, .int y1), (2, .int y2)] [] mm_SH M 0 0 (mm_PV K)
set_option maxRecDepth 100000 in
set_option maxHeartbeats 4000000 in
theorem rX12_daysGo {d : Nat} {x1 : Int32} {M : mm_M} {K : mm_M → Prop} (hG : mm_G M.2.2) (h : jX12_daysGo_2 d x1 M K x1 0) : mm_CV mX12_daysGo (d + 1) [.ref 164, .int x1] M K := by
  show mm_W mX12_daysGo (d + 1) 0 0 0 [(0, .ref 164), (1, .int x1)] [] mm_SH M 0 0 (mm_PV K)
  refine mm_iconst (pc := 0) (x := 0) dX12_daysGo_0 rfl ?_
  refine mm_istore_n (pc := 1) (lv' := [(2, .int 0), (0, .ref 164), (1, .int x1)]) dX12_daysGo_1 rfl (by decide) rfl ?_
  exact mm_sub [1, 2, 0] rfl h
set_option maxRecDepth 100000 in
set_option maxHeartbeats 4000000 in
theorem lX12_daysGo_2 {d : Nat} {x1 : Int32} {M : mm_M} {K : mm_M → Prop} {y1 : Int32} {y2 : Int32} (hG : mm_G M.2.2) (h : if y1 ≤ y2 then (K M) else (mm_CV mX12_dayGoes d [.ref 164] M (fun m8 => jX12_daysGo_2 d x1 m8 K y1 (y2 + 1)))) : jX12_daysGo_2 d x1 M K y1 y2 := by
  unfold jX12_daysGo_2
  refine mm_iload_n (pc := 2) (j := 2) dX12_daysGo_2 rfl rfl ?_
  refine mm_iload_n (pc := 3) (j := 1) dX12_daysGo_3 rfl rfl ?_
  refine mm_icmp_ge (pc := 4) (tgt := 17) dX12_daysGo_4 (by decide) (fun hc => ?_) (fun hc => ?_)
  · have h := mm_ift hc h
    exact mm_vret (pc := 17) dX12_daysGo_17 rfl (Nat.le_refl 0) (Nat.le_refl 0) ⟨rfl, rfl, hG, h⟩
  · have h := mm_iff hc h
    refine mm_aload_n (pc := 7) (j := 0) dX12_daysGo_7 rfl rfl ?_
    refine mm_kVV (pc := 8) [] dX12_daysGo_8 kX12_516 rfl sh_164 (Nat.le_of_ble_eq_true rfl) (Nat.le_of_ble_eq_true rfl) h (fun m8 hG h => ?_)
    refine mm_iinc (pc := 11) (j := 2) (v := y2 + 1) (lv' := [(2, .int (y2 + 1)), (0, .ref 164), (1, .int y1)]) dX12_daysGo_11 rfl rfl (by decide) rfl ?_
    refine mm_goto (pc := 14) (tgt := 2) dX12_daysGo_14 (by decide) ?_
    exact mm_sub [1, 2, 0] rfl h
def jX12_putsAside_7 (d : Nat) (M : mm_M) (K : mm_M → Prop) (y1 : Int32) : Prop := mm_W mX12_putsAside d 0 0 7 [(0, .ref 164), (1, .int y1)] [] mm_SH M 0 0 (mm_PV K)
set_option maxRecDepth 100000 in
set_option maxHeartbeats 4000000 in
theorem rX12_putsAside {d : Nat} {M : mm_M} {K : mm_M → Prop} (hG : mm_G M.2.2) (h : jX12_putsAside_7 d (mm_uI M 164 57 1) K 0) : mm_CV mX12_putsAside d [.ref 164] M K := by
  show mm_W mX12_putsAside d 0 0 0 [(0, .ref 164)] [] mm_SH M 0 0 (mm_PV K)
  refine mm_aload_n (pc := 0) (j := 0) dX12_putsAside_0 rfl rfl ?_
  refine mm_iconst (pc := 1) (x := 1) dX12_putsAside_1 rfl ?_
  refine mm_putI (pc := 2) (ci := 12) (N := 116) dX12_putsAside_2 fX12_480 sh_164 (by decide +kernel) rfl rfl rfl ?_
  refine mm_iconst (pc := 5) (x := 0) dX12_putsAside_5 rfl ?_
  refine mm_istore_n (pc := 6) (lv' := [(1, .int 0), (0, .ref 164)]) dX12_putsAside_6 rfl (by decide) rfl ?_
  exact mm_sub [1, 0] rfl h
set_option maxRecDepth 100000 in
set_option maxHeartbeats 4000000 in
theorem lX12_putsAside_7 {d : Nat} {M : mm_M} {K : mm_M → Prop} {y1 : Int32} (hG : mm_G M.2.2) (h : if 43 ≤ y1 then (K M) else (vp_in y1 204 ∧ vp_in y1 43 ∧ jX12_putsAside_7 d (mm_uI M 200 y1.toNatClampNeg (M.1 199 y1.toNatClampNeg)) K (y1 + 1))) : jX12_putsAside_7 d  M K y1 := by
  unfold jX12_putsAside_7
  refine mm_iload_n (pc := 7) (j := 1) dX12_putsAside_7 rfl rfl ?_
  refine mm_bipush (pc := 8) (x := 43) dX12_putsAside_8 rfl ?_
  refine mm_icmp_ge (pc := 10) (tgt := 31) dX12_putsAside_10 (by decide) (fun hc => ?_) (fun hc => ?_)
  · have h := mm_ift hc h
    exact mm_vret (pc := 31) dX12_putsAside_31 rfl (Nat.le_refl 0) (Nat.le_refl 0) ⟨rfl, rfl, hG, h⟩
  · have h := mm_iff hc h
    refine mm_aload_n (pc := 13) (j := 0) dX12_putsAside_13 rfl rfl ?_
    refine mm_getR (pc := 14) (ci := 12) (N := 116) (r := 200) dX12_putsAside_14 fX12_121 sh_164 rfl (g_164_51 hG) ?_
    refine mm_iload_n (pc := 17) (j := 1) dX12_putsAside_17 rfl rfl ?_
    refine mm_aload_n (pc := 18) (j := 0) dX12_putsAside_18 rfl rfl ?_
    refine mm_getR (pc := 19) (ci := 12) (N := 116) (r := 199) dX12_putsAside_19 fX12_118 sh_164 rfl (g_164_50 hG) ?_
    refine mm_iload_n (pc := 22) (j := 1) dX12_putsAside_22 rfl rfl ?_
    obtain ⟨hi23, h⟩ := h
    refine mm_iaload (pc := 23) (N := 204) dX12_putsAside_23 sh_199 hi23 ?_
    obtain ⟨hi24, h⟩ := h
    refine mm_iastore (pc := 24) (N := 43) dX12_putsAside_24 sh_200 hi24 ?_
    refine mm_iinc (pc := 25) (j := 1) (v := y1 + 1) (lv' := [(1, .int (y1 + 1)), (0, .ref 164)]) dX12_putsAside_25 rfl rfl (by decide) rfl ?_
    refine mm_goto (pc := 28) (tgt := 7) dX12_putsAside_28 (by decide) ?_
    exact mm_sub [1, 0] rfl h
def jX12_triesAnew_2 (d : Nat) (M : mm_M) (K : mm_M → Prop) (y1 : Int32) : Prop := mm_W mX12_triesAnew d 0 0 2 [(0, .ref 164), (1, .int y1)] [] mm_SH M 0 0 (mm_PV K)
set_option maxRecDepth 100000 in
set_option maxHeartbeats 4000000 in
theorem rX12_triesAnew {d : Nat} {M : mm_M} {K : mm_M → Prop} (hG : mm_G M.2.2) (h : jX12_triesAnew_2 d M K 0) : mm_CV mX12_triesAnew d [.ref 164] M K := by
  show mm_W mX12_triesAnew d 0 0 0 [(0, .ref 164)] [] mm_SH M 0 0 (mm_PV K)
  refine mm_iconst (pc := 0) (x := 0) dX12_triesAnew_0 rfl ?_
  refine mm_istore_n (pc := 1) (lv' := [(1, .int 0), (0, .ref 164)]) dX12_triesAnew_1 rfl (by decide) rfl ?_
  exact mm_sub [1, 0] rfl h
set_option maxRecDepth 100000 in
set_option maxHeartbeats 4000000 in
theorem lX12_triesAnew_2 {d : Nat} {M : mm_M} {K : mm_M → Prop} {y1 : Int32} (hG : mm_G M.2.2) (h : if 43 ≤ y1 then (K M) else (vp_in y1 43 ∧ vp_in y1 204 ∧ jX12_triesAnew_2 d (mm_uI M 199 y1.toNatClampNeg (M.1 200 y1.toNatClampNeg)) K (y1 + 1))) : jX12_triesAnew_2 d  M K y1 := by
  unfold jX12_triesAnew_2
  refine mm_iload_n (pc := 2) (j := 1) dX12_triesAnew_2 rfl rfl ?_
  refine mm_bipush (pc := 3) (x := 43) dX12_triesAnew_3 rfl ?_
  refine mm_icmp_ge (pc := 5) (tgt := 26) dX12_triesAnew_5 (by decide) (fun hc => ?_) (fun hc => ?_)
  · have h := mm_ift hc h
    exact mm_vret (pc := 26) dX12_triesAnew_26 rfl (Nat.le_refl 0) (Nat.le_refl 0) ⟨rfl, rfl, hG, h⟩
  · have h := mm_iff hc h
    refine mm_aload_n (pc := 8) (j := 0) dX12_triesAnew_8 rfl rfl ?_
    refine mm_getR (pc := 9) (ci := 12) (N := 116) (r := 199) dX12_triesAnew_9 fX12_118 sh_164 rfl (g_164_50 hG) ?_
    refine mm_iload_n (pc := 12) (j := 1) dX12_triesAnew_12 rfl rfl ?_
    refine mm_aload_n (pc := 13) (j := 0) dX12_triesAnew_13 rfl rfl ?_
    refine mm_getR (pc := 14) (ci := 12) (N := 116) (r := 200) dX12_triesAnew_14 fX12_121 sh_164 rfl (g_164_51 hG) ?_
    refine mm_iload_n (pc := 17) (j := 1) dX12_triesAnew_17 rfl rfl ?_
    obtain ⟨hi18, h⟩ := h
    refine mm_iaload (pc := 18) (N := 43) dX12_triesAnew_18 sh_200 hi18 ?_
    obtain ⟨hi19, h⟩ := h
    refine mm_iastore (pc := 19) (N := 204) dX12_triesAnew_19 sh_199 hi19 ?_
    refine mm_iinc (pc := 20) (j := 1) (v := y1 + 1) (lv' := [(1, .int (y1 + 1)), (0, .ref 164)]) dX12_triesAnew_20 rfl rfl (by decide) rfl ?_
    refine mm_goto (pc := 23) (tgt := 2) dX12_triesAnew_23 (by decide) ?_
    exact mm_sub [1, 0] rfl h
set_option maxRecDepth 100000 in
set_option maxHeartbeats 4000000 in
theorem rX12_takesBack {d : Nat} {M : mm_M} {K : mm_M → Prop} (hG : mm_G M.2.2) (h : mm_CV mX12_triesAnew d [.ref 164] M (fun m1 => K (mm_uI (mm_uI m1 164 59 0) 164 57 0))) : mm_CV mX12_takesBack (d + 1) [.ref 164] M K := by
  show mm_W mX12_takesBack (d + 1) 0 0 0 [(0, .ref 164)] [] mm_SH M 0 0 (mm_PV K)
  refine mm_aload_n (pc := 0) (j := 0) dX12_takesBack_0 rfl rfl ?_
  refine mm_kVV (pc := 1) [] dX12_takesBack_1 kX12_519 rfl sh_164 (Nat.le_of_ble_eq_true rfl) (Nat.le_of_ble_eq_true rfl) h (fun m1 hG h => ?_)
  refine mm_aload_n (pc := 4) (j := 0) dX12_takesBack_4 rfl rfl ?_
  refine mm_iconst (pc := 5) (x := 0) dX12_takesBack_5 rfl ?_
  refine mm_putI (pc := 6) (ci := 12) (N := 116) dX12_takesBack_6 fX12_468 sh_164 (by decide +kernel) rfl rfl rfl ?_
  refine mm_aload_n (pc := 9) (j := 0) dX12_takesBack_9 rfl rfl ?_
  refine mm_iconst (pc := 10) (x := 0) dX12_takesBack_10 rfl ?_
  refine mm_putI (pc := 11) (ci := 12) (N := 116) dX12_takesBack_11 fX12_480 sh_164 (by decide +kernel) rfl rfl rfl ?_
  exact mm_vret (pc := 14) dX12_takesBack_14 rfl (Nat.le_refl 0) (Nat.le_refl 0) ⟨rfl, rfl, hG, h⟩
set_option maxRecDepth 100000 in
set_option maxHeartbeats 4000000 in
theorem rX12_isAhead {d : Nat} {x1 : Int32} {x2 : Int32} {x3 : Int32} {M : mm_M} {K : Int32 → mm_M → Prop} (hG : mm_G M.2.2) (h : if (M.1 164 48) = 0 then (K 0 M) else (mm_CI mX12_isIn d [.long x1.toInt64, .long x2.toInt64, .long x3.toInt64] M (fun z13 m13 => if z13 = 0 then (K 0 m13) else (if 999 < ((m13.1 199 (0 : Int32).toNatClampNeg) + x1) then (K 0 m13) else (K 1 m13))))) : mm_CI mX12_isAhead (d + 1) [.ref 164, .int x1, .int x2, .int x3] M K := by
  show mm_W mX12_isAhead (d + 1) 0 0 0 [(0, .ref 164), (1, .int x1), (2, .int x2), (3, .int x3)] [] mm_SH M 0 0 (mm_PI K)
  refine mm_aload_n (pc := 0) (j := 0) dX12_isAhead_0 rfl rfl ?_
  refine mm_getI (pc := 1) (ci := 12) (N := 116) dX12_isAhead_1 fX12_399 sh_164 rfl ?_
  refine mm_if_eq (pc := 4) (tgt := 37) dX12_isAhead_4 (by decide) (fun hc => ?_) (fun hc => ?_)
  · have h := mm_ift hc h
    refine mm_iconst (pc := 37) (x := 0) dX12_isAhead_37 rfl ?_
    exact mm_zret (pc := 38) dX12_isAhead_38 rfl rfl (Nat.le_refl 0) (Nat.le_refl 0) ⟨_, rfl, rfl, hG, h⟩
  · have h := mm_iff hc h
    refine mm_iload_n (pc := 7) (j := 1) dX12_isAhead_7 rfl rfl ?_
    refine mm_i2l (pc := 8) dX12_isAhead_8 ?_
    refine mm_iload_n (pc := 9) (j := 2) dX12_isAhead_9 rfl rfl ?_
    refine mm_i2l (pc := 10) dX12_isAhead_10 ?_
    refine mm_iload_n (pc := 11) (j := 3) dX12_isAhead_11 rfl rfl ?_
    refine mm_i2l (pc := 12) dX12_isAhead_12 ?_
    refine mm_kSI (pc := 13) [.long x1.toInt64, .long x2.toInt64, .long x3.toInt64] dX12_isAhead_13 kX12_303 rfl (Nat.le_of_ble_eq_true rfl) (Nat.le_of_ble_eq_true rfl) h (fun z13 m13 hG h => ?_)
    refine mm_if_eq (pc := 16) (tgt := 37) dX12_isAhead_16 (by decide) (fun hc => ?_) (fun hc => ?_)
    · have h := mm_ift hc h
      refine mm_iconst (pc := 37) (x := 0) dX12_isAhead_37 rfl ?_
      exact mm_zret (pc := 38) dX12_isAhead_38 rfl rfl (Nat.le_refl 0) (Nat.le_refl 0) ⟨_, rfl, rfl, hG, h⟩
    · have h := mm_iff hc h
      refine mm_aload_n (pc := 19) (j := 0) dX12_isAhead_19 rfl rfl ?_
      refine mm_getR (pc := 20) (ci := 12) (N := 116) (r := 199) dX12_isAhead_20 fX12_118 sh_164 rfl (g_164_50 hG) ?_
      refine mm_iconst (pc := 23) (x := 0) dX12_isAhead_23 rfl ?_
      refine mm_iaload (pc := 24) (N := 204) dX12_isAhead_24 sh_199 (mm_vin (k := 0) rfl (by decide) (by decide)) ?_
      refine mm_iload_n (pc := 25) (j := 1) dX12_isAhead_25 rfl rfl ?_
      refine mm_iadd (pc := 26) dX12_isAhead_26 ?_
      refine mm_sipush (pc := 27) (x := 999) dX12_isAhead_27 rfl ?_
      refine mm_icmp_gt (pc := 30) (tgt := 37) dX12_isAhead_30 (by decide) (fun hc => ?_) (fun hc => ?_)
      · have h := mm_ift hc h
        refine mm_iconst (pc := 37) (x := 0) dX12_isAhead_37 rfl ?_
        exact mm_zret (pc := 38) dX12_isAhead_38 rfl rfl (Nat.le_refl 0) (Nat.le_refl 0) ⟨_, rfl, rfl, hG, h⟩
      · have h := mm_iff hc h
        refine mm_iconst (pc := 33) (x := 1) dX12_isAhead_33 rfl ?_
        refine mm_goto (pc := 34) (tgt := 38) dX12_isAhead_34 (by decide) ?_
        exact mm_zret (pc := 38) dX12_isAhead_38 rfl rfl (Nat.le_refl 0) (Nat.le_refl 0) ⟨_, rfl, rfl, hG, h⟩
def jX12_bits_4 (d : Nat) (x0 : Int32) (M : mm_M) (K : Int32 → mm_M → Prop) (y1 : Int32) (y2 : Int32) : Prop := mm_W mX12_bits d 0 0 4 [(1, .int y1), (2, .int y2)] [] mm_SH M 0 0 (mm_PI K)
set_option maxRecDepth 100000 in
set_option maxHeartbeats 4000000 in
theorem rX12_bits {d : Nat} {x0 : Int32} {M : mm_M} {K : Int32 → mm_M → Prop} (hG : mm_G M.2.2) (h : jX12_bits_4 d x0 M K 0 x0) : mm_CI mX12_bits d [.int x0] M K := by
  show mm_W mX12_bits d 0 0 0 [(0, .int x0)] [] mm_SH M 0 0 (mm_PI K)
  refine mm_iconst (pc := 0) (x := 0) dX12_bits_0 rfl ?_
  refine mm_istore_n (pc := 1) (lv' := [(1, .int 0), (0, .int x0)]) dX12_bits_1 rfl (by decide) rfl ?_
  refine mm_iload_n (pc := 2) (j := 1) dX12_bits_2 rfl rfl ?_
  refine mm_istore_n (pc := 3) (lv' := [(2, .int x0), (1, .int 0), (0, .int x0)]) dX12_bits_3 rfl (by decide) rfl ?_
  exact mm_sub [1, 0] rfl h
set_option maxRecDepth 100000 in
set_option maxHeartbeats 4000000 in
theorem lX12_bits_4 {d : Nat} {x0 : Int32} {M : mm_M} {K : Int32 → mm_M → Prop} {y1 : Int32} {y2 : Int32} (hG : mm_G M.2.2) (h : if y2 = 0 then (K y1 M) else (jX12_bits_4 d x0 M K (y1 + 1) (y2 &&& (y2 - 1)))) : jX12_bits_4 d x0 M K y1 y2 := by
  unfold jX12_bits_4
  refine mm_iload_n (pc := 4) (j := 1) dX12_bits_4 rfl rfl ?_
  refine mm_if_eq (pc := 5) (tgt := 20) dX12_bits_5 (by decide) (fun hc => ?_) (fun hc => ?_)
  · have h := mm_ift hc h
    refine mm_iload_n (pc := 20) (j := 0) dX12_bits_20 rfl rfl ?_
    exact mm_iret (pc := 21) dX12_bits_21 rfl (Nat.le_refl 0) (Nat.le_refl 0) ⟨_, rfl, rfl, hG, h⟩
  · have h := mm_iff hc h
    refine mm_iinc (pc := 8) (j := 0) (v := y1 + 1) (lv' := [(1, .int (y1 + 1)), (2, .int y2)]) dX12_bits_8 rfl rfl (by decide) rfl ?_
    refine mm_iload_n (pc := 11) (j := 1) dX12_bits_11 rfl rfl ?_
    refine mm_iload_n (pc := 12) (j := 1) dX12_bits_12 rfl rfl ?_
    refine mm_iconst (pc := 13) (x := 1) dX12_bits_13 rfl ?_
    refine mm_isub (pc := 14) dX12_bits_14 ?_
    refine mm_iand (pc := 15) dX12_bits_15 ?_
    refine mm_istore_n (pc := 16) (lv' := [(2, .int (y2 &&& (y2 - 1))), (1, .int (y1 + 1))]) dX12_bits_16 rfl (by decide) rfl ?_
    refine mm_goto (pc := 17) (tgt := 4) dX12_bits_17 (by decide) ?_
    exact mm_sub [1, 0] rfl h
def jX12_thereSet_4 (d : Nat) (M : mm_M) (K : Int32 → mm_M → Prop) (y1 : Int32) (y2 : Int32) : Prop := mm_W mX12_thereSet (d + 1) 0 0 4 [(0, .ref 164), (1, .int y1), (2, .int y2)] [] mm_SH M 0 0 (mm_PI K)
set_option maxRecDepth 100000 in
set_option maxHeartbeats 4000000 in
theorem rX12_thereSet {d : Nat} {M : mm_M} {K : Int32 → mm_M → Prop} (hG : mm_G M.2.2) (h : jX12_thereSet_4 d M K 0 0) : mm_CI mX12_thereSet (d + 1) [.ref 164] M K := by
  show mm_W mX12_thereSet (d + 1) 0 0 0 [(0, .ref 164)] [] mm_SH M 0 0 (mm_PI K)
  refine mm_iconst (pc := 0) (x := 0) dX12_thereSet_0 rfl ?_
  refine mm_istore_n (pc := 1) (lv' := [(1, .int 0), (0, .ref 164)]) dX12_thereSet_1 rfl (by decide) rfl ?_
  refine mm_iconst (pc := 2) (x := 0) dX12_thereSet_2 rfl ?_
  refine mm_istore_n (pc := 3) (lv' := [(2, .int 0), (1, .int 0), (0, .ref 164)]) dX12_thereSet_3 rfl (by decide) rfl ?_
  exact mm_sub [2, 1, 0] rfl h
set_option maxRecDepth 100000 in
set_option maxHeartbeats 4000000 in
theorem lX12_thereSet_4 {d : Nat} {M : mm_M} {K : Int32 → mm_M → Prop} {y1 : Int32} {y2 : Int32} (hG : mm_G M.2.2) (h : mm_CI mX12_houseMany d [.ref 164] M (fun z6 m6 => if z6 ≤ y2 then (K y1 m6) else (mm_CI mX12_isThere d [.ref 164, .int y2] m6 (fun z14 m14 => if z14 = 0 then (jX12_thereSet_4 d m14 K y1 (y2 + 1)) else (jX12_thereSet_4 d m14 K (y1 ||| ((1 : Int32) <<< (y2 &&& 31))) (y2 + 1)))))) : jX12_thereSet_4 d  M K y1 y2 := by
  unfold jX12_thereSet_4
  refine mm_iload_n (pc := 4) (j := 2) dX12_thereSet_4 rfl rfl ?_
  refine mm_aload_n (pc := 5) (j := 0) dX12_thereSet_5 rfl rfl ?_
  refine mm_kVI (pc := 6) [] dX12_thereSet_6 kX12_412 rfl sh_164 (Nat.le_of_ble_eq_true rfl) (Nat.le_of_ble_eq_true rfl) h (fun z6 m6 hG h => ?_)
  refine mm_icmp_ge (pc := 9) (tgt := 32) dX12_thereSet_9 (by decide) (fun hc => ?_) (fun hc => ?_)
  · have h := mm_ift hc h
    refine mm_iload_n (pc := 32) (j := 1) dX12_thereSet_32 rfl rfl ?_
    exact mm_iret (pc := 33) dX12_thereSet_33 rfl (Nat.le_refl 0) (Nat.le_refl 0) ⟨_, rfl, rfl, hG, h⟩
  · have h := mm_iff hc h
    refine mm_aload_n (pc := 12) (j := 0) dX12_thereSet_12 rfl rfl ?_
    refine mm_iload_n (pc := 13) (j := 2) dX12_thereSet_13 rfl rfl ?_
    refine mm_kVI (pc := 14) [.int y2] dX12_thereSet_14 kX12_462 rfl sh_164 (Nat.le_of_ble_eq_true rfl) (Nat.le_of_ble_eq_true rfl) h (fun z14 m14 hG h => ?_)
    refine mm_if_eq (pc := 17) (tgt := 26) dX12_thereSet_17 (by decide) (fun hc => ?_) (fun hc => ?_)
    · have h := mm_ift hc h
      refine mm_iinc (pc := 26) (j := 2) (v := y2 + 1) (lv' := [(2, .int (y2 + 1)), (0, .ref 164), (1, .int y1)]) dX12_thereSet_26 rfl rfl (by decide) rfl ?_
      refine mm_goto (pc := 29) (tgt := 4) dX12_thereSet_29 (by decide) ?_
      exact mm_sub [1, 2, 0] rfl h
    · have h := mm_iff hc h
      refine mm_iload_n (pc := 20) (j := 1) dX12_thereSet_20 rfl rfl ?_
      refine mm_iconst (pc := 21) (x := 1) dX12_thereSet_21 rfl ?_
      refine mm_iload_n (pc := 22) (j := 2) dX12_thereSet_22 rfl rfl ?_
      refine mm_ishl (pc := 23) dX12_thereSet_23 ?_
      refine mm_ior (pc := 24) dX12_thereSet_24 ?_
      refine mm_istore_n (pc := 25) (lv' := [(1, .int (y1 ||| ((1 : Int32) <<< (y2 &&& 31)))), (0, .ref 164), (2, .int y2)]) dX12_thereSet_25 rfl (by decide) rfl ?_
      refine mm_iinc (pc := 26) (j := 2) (v := y2 + 1) (lv' := [(2, .int (y2 + 1)), (1, .int (y1 ||| ((1 : Int32) <<< (y2 &&& 31)))), (0, .ref 164)]) dX12_thereSet_26 rfl rfl (by decide) rfl ?_
      refine mm_goto (pc := 29) (tgt := 4) dX12_thereSet_29 (by decide) ?_
      exact mm_sub [2, 1, 0] rfl h
def jX12_feudMany_4 (d : Nat) (M : mm_M) (K : Int32 → mm_M → Prop) (y1 : Int32) (y2 : Int32) : Prop := mm_W mX12_feudMany d 0 0 4 [(0, .ref 164), (1, .int y1), (2, .int y2)] [] mm_SH M 0 0 (mm_PI K)
set_option maxRecDepth 100000 in
set_option maxHeartbeats 4000000 in
theorem rX12_feudMany {d : Nat} {M : mm_M} {K : Int32 → mm_M → Prop} (hG : mm_G M.2.2) (h : jX12_feudMany_4 d M K 0 0) : mm_CI mX12_feudMany d [.ref 164] M K := by
  show mm_W mX12_feudMany d 0 0 0 [(0, .ref 164)] [] mm_SH M 0 0 (mm_PI K)
  refine mm_iconst (pc := 0) (x := 0) dX12_feudMany_0 rfl ?_
  refine mm_istore_n (pc := 1) (lv' := [(1, .int 0), (0, .ref 164)]) dX12_feudMany_1 rfl (by decide) rfl ?_
  refine mm_iconst (pc := 2) (x := 0) dX12_feudMany_2 rfl ?_
  refine mm_istore_n (pc := 3) (lv' := [(2, .int 0), (1, .int 0), (0, .ref 164)]) dX12_feudMany_3 rfl (by decide) rfl ?_
  exact mm_sub [2, 1, 0] rfl h
set_option maxRecDepth 100000 in
set_option maxHeartbeats 4000000 in
theorem lX12_feudMany_4 {d : Nat} {M : mm_M} {K : Int32 → mm_M → Prop} {y1 : Int32} {y2 : Int32} (hG : mm_G M.2.2) (h : if 21 ≤ y2 then (K y1 M) else (vp_in (22 + y2) 204 ∧ if (M.1 199 (22 + y2).toNatClampNeg) ≤ 0 then (jX12_feudMany_4 d M K y1 (y2 + 1)) else (jX12_feudMany_4 d M K (y1 + 1) (y2 + 1)))) : jX12_feudMany_4 d  M K y1 y2 := by
  unfold jX12_feudMany_4
  refine mm_iload_n (pc := 4) (j := 2) dX12_feudMany_4 rfl rfl ?_
  refine mm_bipush (pc := 5) (x := 21) dX12_feudMany_5 rfl ?_
  refine mm_icmp_ge (pc := 7) (tgt := 31) dX12_feudMany_7 (by decide) (fun hc => ?_) (fun hc => ?_)
  · have h := mm_ift hc h
    refine mm_iload_n (pc := 31) (j := 1) dX12_feudMany_31 rfl rfl ?_
    exact mm_iret (pc := 32) dX12_feudMany_32 rfl (Nat.le_refl 0) (Nat.le_refl 0) ⟨_, rfl, rfl, hG, h⟩
  · have h := mm_iff hc h
    refine mm_aload_n (pc := 10) (j := 0) dX12_feudMany_10 rfl rfl ?_
    refine mm_getR (pc := 11) (ci := 12) (N := 116) (r := 199) dX12_feudMany_11 fX12_118 sh_164 rfl (g_164_50 hG) ?_
    refine mm_bipush (pc := 14) (x := 22) dX12_feudMany_14 rfl ?_
    refine mm_iload_n (pc := 16) (j := 2) dX12_feudMany_16 rfl rfl ?_
    refine mm_iadd (pc := 17) dX12_feudMany_17 ?_
    obtain ⟨hi18, h⟩ := h
    refine mm_iaload (pc := 18) (N := 204) dX12_feudMany_18 sh_199 hi18 ?_
    refine mm_if_le (pc := 19) (tgt := 25) dX12_feudMany_19 (by decide) (fun hc => ?_) (fun hc => ?_)
    · have h := mm_ift hc h
      refine mm_iinc (pc := 25) (j := 2) (v := y2 + 1) (lv' := [(2, .int (y2 + 1)), (0, .ref 164), (1, .int y1)]) dX12_feudMany_25 rfl rfl (by decide) rfl ?_
      refine mm_goto (pc := 28) (tgt := 4) dX12_feudMany_28 (by decide) ?_
      exact mm_sub [1, 2, 0] rfl h
    · have h := mm_iff hc h
      refine mm_iinc (pc := 22) (j := 1) (v := y1 + 1) (lv' := [(1, .int (y1 + 1)), (0, .ref 164), (2, .int y2)]) dX12_feudMany_22 rfl rfl (by decide) rfl ?_
      refine mm_iinc (pc := 25) (j := 2) (v := y2 + 1) (lv' := [(2, .int (y2 + 1)), (1, .int (y1 + 1)), (0, .ref 164)]) dX12_feudMany_25 rfl rfl (by decide) rfl ?_
      refine mm_goto (pc := 28) (tgt := 4) dX12_feudMany_28 (by decide) ?_
      exact mm_sub [2, 1, 0] rfl h
def jX12_flourAll_4 (d : Nat) (M : mm_M) (K : Int32 → mm_M → Prop) (y1 : Int32) (y2 : Int32) : Prop := mm_W mX12_flourAll (d + 1) 0 0 4 [(0, .ref 164), (1, .int y1), (2, .int y2)] [] mm_SH M 0 0 (mm_PI K)
set_option maxRecDepth 100000 in
set_option maxHeartbeats 4000000 in
theorem rX12_flourAll {d : Nat} {M : mm_M} {K : Int32 → mm_M → Prop} (hG : mm_G M.2.2) (h : jX12_flourAll_4 d M K 0 0) : mm_CI mX12_flourAll (d + 1) [.ref 164] M K := by
  show mm_W mX12_flourAll (d + 1) 0 0 0 [(0, .ref 164)] [] mm_SH M 0 0 (mm_PI K)
  refine mm_iconst (pc := 0) (x := 0) dX12_flourAll_0 rfl ?_
  refine mm_istore_n (pc := 1) (lv' := [(1, .int 0), (0, .ref 164)]) dX12_flourAll_1 rfl (by decide) rfl ?_
  refine mm_iconst (pc := 2) (x := 0) dX12_flourAll_2 rfl ?_
  refine mm_istore_n (pc := 3) (lv' := [(2, .int 0), (1, .int 0), (0, .ref 164)]) dX12_flourAll_3 rfl (by decide) rfl ?_
  exact mm_sub [2, 1, 0] rfl h
set_option maxRecDepth 100000 in
set_option maxHeartbeats 4000000 in
theorem lX12_flourAll_4 {d : Nat} {M : mm_M} {K : Int32 → mm_M → Prop} {y1 : Int32} {y2 : Int32} (hG : mm_G M.2.2) (h : mm_CI mX12_houseMany d [.ref 164] M (fun z6 m6 => if z6 ≤ y2 then (K y1 m6) else (mm_CI mX12_isThere d [.ref 164, .int y2] m6 (fun z14 m14 => if z14 = 0 then (jX12_flourAll_4 d m14 K y1 (y2 + 1)) else (mm_CI mX12_flourOf d [.ref 164, .int y2] m14 (fun z23 m23 => jX12_flourAll_4 d m23 K (y1 + z23) (y2 + 1))))))) : jX12_flourAll_4 d  M K y1 y2 := by
  unfold jX12_flourAll_4
  refine mm_iload_n (pc := 4) (j := 2) dX12_flourAll_4 rfl rfl ?_
  refine mm_aload_n (pc := 5) (j := 0) dX12_flourAll_5 rfl rfl ?_
  refine mm_kVI (pc := 6) [] dX12_flourAll_6 kX12_412 rfl sh_164 (Nat.le_of_ble_eq_true rfl) (Nat.le_of_ble_eq_true rfl) h (fun z6 m6 hG h => ?_)
  refine mm_icmp_ge (pc := 9) (tgt := 34) dX12_flourAll_9 (by decide) (fun hc => ?_) (fun hc => ?_)
  · have h := mm_ift hc h
    refine mm_iload_n (pc := 34) (j := 1) dX12_flourAll_34 rfl rfl ?_
    exact mm_iret (pc := 35) dX12_flourAll_35 rfl (Nat.le_refl 0) (Nat.le_refl 0) ⟨_, rfl, rfl, hG, h⟩
  · have h := mm_iff hc h
    refine mm_aload_n (pc := 12) (j := 0) dX12_flourAll_12 rfl rfl ?_
    refine mm_iload_n (pc := 13) (j := 2) dX12_flourAll_13 rfl rfl ?_
    refine mm_kVI (pc := 14) [.int y2] dX12_flourAll_14 kX12_462 rfl sh_164 (Nat.le_of_ble_eq_true rfl) (Nat.le_of_ble_eq_true rfl) h (fun z14 m14 hG h => ?_)
    refine mm_if_eq (pc := 17) (tgt := 28) dX12_flourAll_17 (by decide) (fun hc => ?_) (fun hc => ?_)
    · have h := mm_ift hc h
      refine mm_iinc (pc := 28) (j := 2) (v := y2 + 1) (lv' := [(2, .int (y2 + 1)), (0, .ref 164), (1, .int y1)]) dX12_flourAll_28 rfl rfl (by decide) rfl ?_
      refine mm_goto (pc := 31) (tgt := 4) dX12_flourAll_31 (by decide) ?_
      exact mm_sub [1, 2, 0] rfl h
    · have h := mm_iff hc h
      refine mm_iload_n (pc := 20) (j := 1) dX12_flourAll_20 rfl rfl ?_
      refine mm_aload_n (pc := 21) (j := 0) dX12_flourAll_21 rfl rfl ?_
      refine mm_iload_n (pc := 22) (j := 2) dX12_flourAll_22 rfl rfl ?_
      refine mm_kVI (pc := 23) [.int y2] dX12_flourAll_23 kX12_465 rfl sh_164 (Nat.le_of_ble_eq_true rfl) (Nat.le_of_ble_eq_true rfl) h (fun z23 m23 hG h => ?_)
      refine mm_iadd (pc := 26) dX12_flourAll_26 ?_
      refine mm_istore_n (pc := 27) (lv' := [(1, .int (y1 + z23)), (0, .ref 164), (2, .int y2)]) dX12_flourAll_27 rfl (by decide) rfl ?_
      refine mm_iinc (pc := 28) (j := 2) (v := y2 + 1) (lv' := [(2, .int (y2 + 1)), (1, .int (y1 + z23)), (0, .ref 164)]) dX12_flourAll_28 rfl rfl (by decide) rfl ?_
      refine mm_goto (pc := 31) (tgt := 4) dX12_flourAll_31 (by decide) ?_
      exact mm_sub [2, 1, 0] rfl h
set_option maxRecDepth 100000 in
set_option maxHeartbeats 4000000 in
theorem rX12_has {d : Nat} {x1 : Int32} {M : mm_M} {K : Int32 → mm_M → Prop} (hG : mm_G M.2.2) (h : if x1 = 0 then (K (M.1 191 (2 : Int32).toNatClampNeg) M) else (if x1 = 1 then (mm_CI mX12_houseMany d [.ref 164] M (fun z60 m60 => K z60 m60)) else (if x1 = 2 then (K (M.1 199 (0 : Int32).toNatClampNeg) M) else (if x1 = 3 then (mm_CI mX12_thereSet d [.ref 164] M (fun z72 m72 => mm_CI mX12_bits d [.int z72] m72 (fun z75 m75 => K z75 m75))) else (if x1 = 4 then (mm_CI mX12_feudMany d [.ref 164] M (fun z80 m80 => K z80 m80)) else (if x1 = 5 then (mm_CI mX12_flourAll d [.ref 164] M (fun z85 m85 => K z85 m85)) else (if x1 = 6 then (K (M.1 199 (43 : Int32).toNatClampNeg) M) else (if x1 = 7 then (K (M.1 164 72) M) else (if x1 = 8 then (K (M.1 164 79) M) else (K (-1) M)))))))))) : mm_CI mX12_has (d + 1) [.ref 164, .int x1] M K := by
  show mm_W mX12_has (d + 1) 0 0 0 [(0, .ref 164), (1, .int x1)] [] mm_SH M 0 0 (mm_PI K)
  refine mm_iload_n (pc := 0) (j := 1) dX12_has_0 rfl rfl ?_
  by_cases hs1_0 : x1 = 0
  · have h := mm_ift hs1_0 h
    refine mm_tableIn (pc := 1) (off := 51) (tgt := 52) dX12_has_1 (by rw [hs1_0]; decide) (by rw [hs1_0]; decide) (by rw [hs1_0]; rfl) (by decide) ?_
    refine mm_aload_n (pc := 52) (j := 0) dX12_has_52 rfl rfl ?_
    refine mm_getR (pc := 53) (ci := 12) (N := 116) (r := 191) dX12_has_53 fX12_93 sh_164 rfl (g_164_36 hG) ?_
    refine mm_iconst (pc := 56) (x := 2) dX12_has_56 rfl ?_
    refine mm_iaload (pc := 57) (N := 4) dX12_has_57 sh_191 (mm_vin (k := 2) rfl (by decide) (by decide)) ?_
    exact mm_iret (pc := 58) dX12_has_58 rfl (Nat.le_refl 0) (Nat.le_refl 0) ⟨_, rfl, rfl, hG, h⟩
  · have h := mm_iff hs1_0 h
    by_cases hs1_1 : x1 = 1
    · have h := mm_ift hs1_1 h
      refine mm_tableIn (pc := 1) (off := 58) (tgt := 59) dX12_has_1 (by rw [hs1_1]; decide) (by rw [hs1_1]; decide) (by rw [hs1_1]; rfl) (by decide) ?_
      refine mm_aload_n (pc := 59) (j := 0) dX12_has_59 rfl rfl ?_
      refine mm_kVI (pc := 60) [] dX12_has_60 kX12_412 rfl sh_164 (Nat.le_of_ble_eq_true rfl) (Nat.le_of_ble_eq_true rfl) h (fun z60 m60 hG h => ?_)
      exact mm_iret (pc := 63) dX12_has_63 rfl (Nat.le_refl 0) (Nat.le_refl 0) ⟨_, rfl, rfl, hG, h⟩
    · have h := mm_iff hs1_1 h
      by_cases hs1_2 : x1 = 2
      · have h := mm_ift hs1_2 h
        refine mm_tableIn (pc := 1) (off := 63) (tgt := 64) dX12_has_1 (by rw [hs1_2]; decide) (by rw [hs1_2]; decide) (by rw [hs1_2]; rfl) (by decide) ?_
        refine mm_aload_n (pc := 64) (j := 0) dX12_has_64 rfl rfl ?_
        refine mm_getR (pc := 65) (ci := 12) (N := 116) (r := 199) dX12_has_65 fX12_118 sh_164 rfl (g_164_50 hG) ?_
        refine mm_iconst (pc := 68) (x := 0) dX12_has_68 rfl ?_
        refine mm_iaload (pc := 69) (N := 204) dX12_has_69 sh_199 (mm_vin (k := 0) rfl (by decide) (by decide)) ?_
        exact mm_iret (pc := 70) dX12_has_70 rfl (Nat.le_refl 0) (Nat.le_refl 0) ⟨_, rfl, rfl, hG, h⟩
      · have h := mm_iff hs1_2 h
        by_cases hs1_3 : x1 = 3
        · have h := mm_ift hs1_3 h
          refine mm_tableIn (pc := 1) (off := 70) (tgt := 71) dX12_has_1 (by rw [hs1_3]; decide) (by rw [hs1_3]; decide) (by rw [hs1_3]; rfl) (by decide) ?_
          refine mm_aload_n (pc := 71) (j := 0) dX12_has_71 rfl rfl ?_
          refine mm_kVI (pc := 72) [] dX12_has_72 kX12_522 rfl sh_164 (Nat.le_of_ble_eq_true rfl) (Nat.le_of_ble_eq_true rfl) h (fun z72 m72 hG h => ?_)
          refine mm_kSI (pc := 75) [.int z72] dX12_has_75 kX12_525 rfl (Nat.le_of_ble_eq_true rfl) (Nat.le_of_ble_eq_true rfl) h (fun z75 m75 hG h => ?_)
          exact mm_iret (pc := 78) dX12_has_78 rfl (Nat.le_refl 0) (Nat.le_refl 0) ⟨_, rfl, rfl, hG, h⟩
        · have h := mm_iff hs1_3 h
          by_cases hs1_4 : x1 = 4
          · have h := mm_ift hs1_4 h
            refine mm_tableIn (pc := 1) (off := 78) (tgt := 79) dX12_has_1 (by rw [hs1_4]; decide) (by rw [hs1_4]; decide) (by rw [hs1_4]; rfl) (by decide) ?_
            refine mm_aload_n (pc := 79) (j := 0) dX12_has_79 rfl rfl ?_
            refine mm_kVI (pc := 80) [] dX12_has_80 kX12_528 rfl sh_164 (Nat.le_of_ble_eq_true rfl) (Nat.le_of_ble_eq_true rfl) h (fun z80 m80 hG h => ?_)
            exact mm_iret (pc := 83) dX12_has_83 rfl (Nat.le_refl 0) (Nat.le_refl 0) ⟨_, rfl, rfl, hG, h⟩
          · have h := mm_iff hs1_4 h
            by_cases hs1_5 : x1 = 5
            · have h := mm_ift hs1_5 h
              refine mm_tableIn (pc := 1) (off := 83) (tgt := 84) dX12_has_1 (by rw [hs1_5]; decide) (by rw [hs1_5]; decide) (by rw [hs1_5]; rfl) (by decide) ?_
              refine mm_aload_n (pc := 84) (j := 0) dX12_has_84 rfl rfl ?_
              refine mm_kVI (pc := 85) [] dX12_has_85 kX12_531 rfl sh_164 (Nat.le_of_ble_eq_true rfl) (Nat.le_of_ble_eq_true rfl) h (fun z85 m85 hG h => ?_)
              exact mm_iret (pc := 88) dX12_has_88 rfl (Nat.le_refl 0) (Nat.le_refl 0) ⟨_, rfl, rfl, hG, h⟩
            · have h := mm_iff hs1_5 h
              by_cases hs1_6 : x1 = 6
              · have h := mm_ift hs1_6 h
                refine mm_tableIn (pc := 1) (off := 88) (tgt := 89) dX12_has_1 (by rw [hs1_6]; decide) (by rw [hs1_6]; decide) (by rw [hs1_6]; rfl) (by decide) ?_
                refine mm_aload_n (pc := 89) (j := 0) dX12_has_89 rfl rfl ?_
                refine mm_getR (pc := 90) (ci := 12) (N := 116) (r := 199) dX12_has_90 fX12_118 sh_164 rfl (g_164_50 hG) ?_
                refine mm_bipush (pc := 93) (x := 43) dX12_has_93 rfl ?_
                refine mm_iaload (pc := 95) (N := 204) dX12_has_95 sh_199 (mm_vin (k := 43) rfl (by decide) (by decide)) ?_
                exact mm_iret (pc := 96) dX12_has_96 rfl (Nat.le_refl 0) (Nat.le_refl 0) ⟨_, rfl, rfl, hG, h⟩
              · have h := mm_iff hs1_6 h
                by_cases hs1_7 : x1 = 7
                · have h := mm_ift hs1_7 h
                  refine mm_tableIn (pc := 1) (off := 96) (tgt := 97) dX12_has_1 (by rw [hs1_7]; decide) (by rw [hs1_7]; decide) (by rw [hs1_7]; rfl) (by decide) ?_
                  refine mm_aload_n (pc := 97) (j := 0) dX12_has_97 rfl rfl ?_
                  refine mm_getI (pc := 98) (ci := 12) (N := 116) dX12_has_98 fX12_409 sh_164 rfl ?_
                  exact mm_iret (pc := 101) dX12_has_101 rfl (Nat.le_refl 0) (Nat.le_refl 0) ⟨_, rfl, rfl, hG, h⟩
                · have h := mm_iff hs1_7 h
                  by_cases hs1_8 : x1 = 8
                  · have h := mm_ift hs1_8 h
                    refine mm_tableIn (pc := 1) (off := 101) (tgt := 102) dX12_has_1 (by rw [hs1_8]; decide) (by rw [hs1_8]; decide) (by rw [hs1_8]; rfl) (by decide) ?_
                    refine mm_aload_n (pc := 102) (j := 0) dX12_has_102 rfl rfl ?_
                    refine mm_getI (pc := 103) (ci := 12) (N := 116) dX12_has_103 fX12_406 sh_164 rfl ?_
                    exact mm_iret (pc := 106) dX12_has_106 rfl (Nat.le_refl 0) (Nat.le_refl 0) ⟨_, rfl, rfl, hG, h⟩
                  · have h := mm_iff hs1_8 h
                    have ht1_0 := lv_neT hs1_0 (show (0 : Int32).toInt = 0 from rfl)
                    have ht1_1 := lv_neT hs1_1 (show (1 : Int32).toInt = 1 from rfl)
                    have ht1_2 := lv_neT hs1_2 (show (2 : Int32).toInt = 2 from rfl)
                    have ht1_3 := lv_neT hs1_3 (show (3 : Int32).toInt = 3 from rfl)
                    have ht1_4 := lv_neT hs1_4 (show (4 : Int32).toInt = 4 from rfl)
                    have ht1_5 := lv_neT hs1_5 (show (5 : Int32).toInt = 5 from rfl)
                    have ht1_6 := lv_neT hs1_6 (show (6 : Int32).toInt = 6 from rfl)
                    have ht1_7 := lv_neT hs1_7 (show (7 : Int32).toInt = 7 from rfl)
                    have ht1_8 := lv_neT hs1_8 (show (8 : Int32).toInt = 8 from rfl)
                    refine mm_tableOut (pc := 1) (tgt := 107) dX12_has_1 (by omega) (by decide) ?_
                    refine mm_iconst (pc := 107) (x := (-1)) dX12_has_107 rfl ?_
                    exact mm_iret (pc := 108) dX12_has_108 rfl (Nat.le_refl 0) (Nat.le_refl 0) ⟨_, rfl, rfl, hG, h⟩
def jX12_letter_39 (d : Nat) (x1 : Int32) (x2 : Int32) (M : mm_M) (K : Int32 → mm_M → Prop) (y2 : Int32) (y3 : Int64) (y5 : Int32) (y6 : Int64) : Prop := mm_W mX12_letter (d + 1) 0 0 39 [(2, .int y2), (3, .long y3), (5, .int y5), (6, .long y6)] [] mm_SH M 0 0 (mm_PI K)
def jX12_letter_74 (d : Nat) (x1 : Int32) (x2 : Int32) (M : mm_M) (K : Int32 → mm_M → Prop) (y2 : Int32) (y3 : Int64) (y6 : Int32) : Prop := mm_W mX12_letter (d + 1) 0 0 74 [(2, .int y2), (3, .long y3), (6, .int y6)] [] mm_SH M 0 0 (mm_PI K)
set_option maxRecDepth 100000 in
set_option maxHeartbeats 4000000 in
theorem rX12_letter {d : Nat} {x1 : Int32} {x2 : Int32} {M : mm_M} {K : Int32 → mm_M → Prop} (hG : mm_G M.2.2) (h : mm_CI mX12_isHouse d [.ref 164, .long x1.toInt64] M (fun z3 m3 => if z3 = 0 then (K (-1) m3) else (mm_CI mX12_isIn d [.long x2.toInt64, .long 0, .long 5] m3 (fun z15 m15 => if z15 = 0 then (K (-1) m15) else (vp_in (7 + x1) 14 ∧ jX12_letter_39 d x1 x2 m15 K x2 (m15.2.1 192 (7 + x1).toNatClampNeg) 0 (m15.2.1 192 (7 + x1).toNatClampNeg)))))) : mm_CI mX12_letter (d + 1) [.ref 164, .int x1, .int x2] M K := by
  show mm_W mX12_letter (d + 1) 0 0 0 [(0, .ref 164), (1, .int x1), (2, .int x2)] [] mm_SH M 0 0 (mm_PI K)
  refine mm_aload_n (pc := 0) (j := 0) dX12_letter_0 rfl rfl ?_
  refine mm_iload_n (pc := 1) (j := 1) dX12_letter_1 rfl rfl ?_
  refine mm_i2l (pc := 2) dX12_letter_2 ?_
  refine mm_kVI (pc := 3) [.long x1.toInt64] dX12_letter_3 kX12_534 rfl sh_164 (Nat.le_of_ble_eq_true rfl) (Nat.le_of_ble_eq_true rfl) h (fun z3 m3 hG h => ?_)
  refine mm_if_eq (pc := 6) (tgt := 21) dX12_letter_6 (by decide) (fun hc => ?_) (fun hc => ?_)
  · have h := mm_ift hc h
    refine mm_iconst (pc := 21) (x := (-1)) dX12_letter_21 rfl ?_
    exact mm_iret (pc := 22) dX12_letter_22 rfl (Nat.le_refl 0) (Nat.le_refl 0) ⟨_, rfl, rfl, hG, h⟩
  · have h := mm_iff hc h
    refine mm_iload_n (pc := 9) (j := 2) dX12_letter_9 rfl rfl ?_
    refine mm_i2l (pc := 10) dX12_letter_10 ?_
    refine mm_lconst (pc := 11) (x := 0) dX12_letter_11 rfl ?_
    refine mm_ldc2 (pc := 12) (x := 5) dX12_letter_12 cX12_323 ?_
    refine mm_kSI (pc := 15) [.long x2.toInt64, .long 0, .long 5] dX12_letter_15 kX12_303 rfl (Nat.le_of_ble_eq_true rfl) (Nat.le_of_ble_eq_true rfl) h (fun z15 m15 hG h => ?_)
    refine mm_if_ne (pc := 18) (tgt := 23) dX12_letter_18 (by decide) (fun hc => ?_) (fun hc => ?_)
    · have h := mm_iff hc h
      refine mm_aload_n (pc := 23) (j := 0) dX12_letter_23 rfl rfl ?_
      refine mm_getR (pc := 24) (ci := 12) (N := 116) (r := 192) dX12_letter_24 fX12_96 sh_164 rfl (g_164_39 hG) ?_
      refine mm_bipush (pc := 27) (x := 7) dX12_letter_27 rfl ?_
      refine mm_iload_n (pc := 29) (j := 1) dX12_letter_29 rfl rfl ?_
      refine mm_iadd (pc := 30) dX12_letter_30 ?_
      obtain ⟨hi31, h⟩ := h
      refine mm_laload (pc := 31) (N := 14) dX12_letter_31 sh_192 hi31 ?_
      refine mm_lstore_n (pc := 32) (lv' := [(3, .long (m15.2.1 192 (7 + x1).toNatClampNeg)), (0, .ref 164), (1, .int x1), (2, .int x2)]) dX12_letter_32 rfl (by decide) rfl ?_
      refine mm_iconst (pc := 33) (x := 0) dX12_letter_33 rfl ?_
      refine mm_istore (pc := 34) (lv' := [(5, .int 0), (3, .long (m15.2.1 192 (7 + x1).toNatClampNeg)), (0, .ref 164), (1, .int x1), (2, .int x2)]) dX12_letter_34 (by decide) rfl ?_
      refine mm_lload_n (pc := 36) (j := 1) dX12_letter_36 rfl rfl ?_
      refine mm_lstore (pc := 37) (lv' := [(6, .long (m15.2.1 192 (7 + x1).toNatClampNeg)), (5, .int 0), (3, .long (m15.2.1 192 (7 + x1).toNatClampNeg)), (0, .ref 164), (1, .int x1), (2, .int x2)]) dX12_letter_37 (by decide) rfl ?_
      exact mm_sub [5, 2, 1, 0] rfl h
    · have h := mm_ift hc h
      refine mm_iconst (pc := 21) (x := (-1)) dX12_letter_21 rfl ?_
      exact mm_iret (pc := 22) dX12_letter_22 rfl (Nat.le_refl 0) (Nat.le_refl 0) ⟨_, rfl, rfl, hG, h⟩
set_option maxRecDepth 100000 in
set_option maxHeartbeats 4000000 in
theorem lX12_letter_39 {d : Nat} {x1 : Int32} {x2 : Int32} {M : mm_M} {K : Int32 → mm_M → Prop} {y2 : Int32} {y3 : Int64} {y5 : Int32} {y6 : Int64} (hG : mm_G M.2.2) (h : if y6 ≤ 0 then (if y2 < y5 then (jX12_letter_74 d x1 x2 M K y2 y3 (y5 - 1)) else (K 0 M)) else (jX12_letter_39 d x1 x2 M K y2 y3 (y5 + 1) (y6 / 27))) : jX12_letter_39 d x1 x2 M K y2 y3 y5 y6 := by
  unfold jX12_letter_39
  refine mm_lload (pc := 39) (j := 3) dX12_letter_39 rfl ?_
  refine mm_lconst (pc := 41) (x := 0) dX12_letter_41 rfl ?_
  refine mm_lcmp (pc := 42) dX12_letter_42 ?_
  refine mm_if_le (pc := 43) (tgt := 60) dX12_letter_43 (by decide) (fun hc => ?_) (fun hc => ?_)
  · have h := mm_ift (lgc_le.mp hc) h
    refine mm_iload_n (pc := 60) (j := 0) dX12_letter_60 rfl rfl ?_
    refine mm_iload (pc := 61) (j := 2) dX12_letter_61 rfl ?_
    refine mm_icmp_lt (pc := 63) (tgt := 68) dX12_letter_63 (by decide) (fun hc => ?_) (fun hc => ?_)
    · have h := mm_ift hc h
      refine mm_iload (pc := 68) (j := 2) dX12_letter_68 rfl ?_
      refine mm_iconst (pc := 70) (x := 1) dX12_letter_70 rfl ?_
      refine mm_isub (pc := 71) dX12_letter_71 ?_
      refine mm_istore (pc := 72) (lv' := [(6, .int (y5 - 1)), (2, .int y2), (3, .long y3), (5, .int y5)]) dX12_letter_72 (by decide) rfl ?_
      exact mm_sub [1, 2, 0] rfl h
    · have h := mm_iff hc h
      refine mm_iconst (pc := 66) (x := 0) dX12_letter_66 rfl ?_
      exact mm_iret (pc := 67) dX12_letter_67 rfl (Nat.le_refl 0) (Nat.le_refl 0) ⟨_, rfl, rfl, hG, h⟩
  · have h := mm_iff (fun q => hc (lgc_le.mpr q)) h
    refine mm_iinc (pc := 46) (j := 2) (v := y5 + 1) (lv' := [(5, .int (y5 + 1)), (2, .int y2), (3, .long y3), (6, .long y6)]) dX12_letter_46 rfl rfl (by decide) rfl ?_
    refine mm_lload (pc := 49) (j := 3) dX12_letter_49 rfl ?_
    refine mm_ldc2 (pc := 51) (x := 27) dX12_letter_51 cX12_314 ?_
    refine mm_ldiv (pc := 54) dX12_letter_54 (by decide) ?_
    refine mm_lstore (pc := 55) (lv' := [(6, .long (y6 / 27)), (5, .int (y5 + 1)), (2, .int y2), (3, .long y3)]) dX12_letter_55 (by decide) rfl ?_
    refine mm_goto (pc := 57) (tgt := 39) dX12_letter_57 (by decide) ?_
    exact mm_sub [2, 3, 1, 0] rfl h
set_option maxRecDepth 100000 in
set_option maxHeartbeats 4000000 in
theorem lX12_letter_74 {d : Nat} {x1 : Int32} {x2 : Int32} {M : mm_M} {K : Int32 → mm_M → Prop} {y2 : Int32} {y3 : Int64} {y6 : Int32} (hG : mm_G M.2.2) (h : if y6 ≤ y2 then (K ((y3 - y3 / 27 * 27).toInt32) M) else (jX12_letter_74 d x1 x2 M K y2 (y3 / 27) (y6 + (-1)))) : jX12_letter_74 d x1 x2 M K y2 y3 y6 := by
  unfold jX12_letter_74
  refine mm_iload (pc := 74) (j := 2) dX12_letter_74 rfl ?_
  refine mm_iload_n (pc := 76) (j := 0) dX12_letter_76 rfl rfl ?_
  refine mm_icmp_le (pc := 77) (tgt := 92) dX12_letter_77 (by decide) (fun hc => ?_) (fun hc => ?_)
  · have h := mm_ift hc h
    refine mm_lload_n (pc := 92) (j := 1) dX12_letter_92 rfl rfl ?_
    refine mm_ldc2 (pc := 93) (x := 27) dX12_letter_93 cX12_314 ?_
    refine mm_lrem (pc := 96) dX12_letter_96 (by decide) ?_
    refine mm_l2i (pc := 97) dX12_letter_97 ?_
    exact mm_iret (pc := 98) dX12_letter_98 rfl (Nat.le_refl 0) (Nat.le_refl 0) ⟨_, rfl, rfl, hG, h⟩
  · have h := mm_iff hc h
    refine mm_lload_n (pc := 80) (j := 1) dX12_letter_80 rfl rfl ?_
    refine mm_ldc2 (pc := 81) (x := 27) dX12_letter_81 cX12_314 ?_
    refine mm_ldiv (pc := 84) dX12_letter_84 (by decide) ?_
    refine mm_lstore_n (pc := 85) (lv' := [(3, .long (y3 / 27)), (2, .int y2), (6, .int y6)]) dX12_letter_85 rfl (by decide) rfl ?_
    refine mm_iinc (pc := 86) (j := 2) (v := y6 + (-1)) (lv' := [(6, .int (y6 + (-1))), (3, .long (y3 / 27)), (2, .int y2)]) dX12_letter_86 rfl rfl (by decide) rfl ?_
    refine mm_goto (pc := 89) (tgt := 74) dX12_letter_89 (by decide) ?_
    exact mm_sub [2, 1, 0] rfl h
set_option maxRecDepth 100000 in
set_option maxHeartbeats 4000000 in
theorem rX12_house {d : Nat} {x1 : Int32} {x2 : Int32} {M : mm_M} {K : Int32 → mm_M → Prop} (hG : mm_G M.2.2) (h : mm_CI mX12_isHouse d [.ref 164, .long x1.toInt64] M (fun z3 m3 => if z3 = 0 then (K (-1) m3) else (if x2 = 0 then (mm_CI mX12_flourOf d [.ref 164, .int x1] m3 (fun z50 m50 => K z50 m50)) else (if x2 = 1 then (vp_in (7 + x1) 14 ∧ K (m3.1 194 (7 + x1).toNatClampNeg) m3) else (if x2 = 2 then (mm_CI mX12_hungerOf d [.ref 164, .int x1] m3 (fun z66 m66 => K z66 m66)) else (if x2 = 3 then (vp_in (1 + (3 * x1)) 204 ∧ K (m3.1 199 (1 + (3 * x1)).toNatClampNeg) m3) else (if x2 = 4 then (mm_CI mX12_enemyMany d [.ref 164, .int x1] m3 (fun z83 m83 => K z83 m83)) else (K (-1) m3)))))))) : mm_CI mX12_house (d + 1) [.ref 164, .int x1, .int x2] M K := by
  show mm_W mX12_house (d + 1) 0 0 0 [(0, .ref 164), (1, .int x1), (2, .int x2)] [] mm_SH M 0 0 (mm_PI K)
  refine mm_aload_n (pc := 0) (j := 0) dX12_house_0 rfl rfl ?_
  refine mm_iload_n (pc := 1) (j := 1) dX12_house_1 rfl rfl ?_
  refine mm_i2l (pc := 2) dX12_house_2 ?_
  refine mm_kVI (pc := 3) [.long x1.toInt64] dX12_house_3 kX12_534 rfl sh_164 (Nat.le_of_ble_eq_true rfl) (Nat.le_of_ble_eq_true rfl) h (fun z3 m3 hG h => ?_)
  refine mm_if_ne (pc := 6) (tgt := 11) dX12_house_6 (by decide) (fun hc => ?_) (fun hc => ?_)
  · have h := mm_iff hc h
    refine mm_iload_n (pc := 11) (j := 2) dX12_house_11 rfl rfl ?_
    by_cases hs12_0 : x2 = 0
    · have h := mm_ift hs12_0 h
      refine mm_tableIn (pc := 12) (off := 36) (tgt := 48) dX12_house_12 (by rw [hs12_0]; decide) (by rw [hs12_0]; decide) (by rw [hs12_0]; rfl) (by decide) ?_
      refine mm_aload_n (pc := 48) (j := 0) dX12_house_48 rfl rfl ?_
      refine mm_iload_n (pc := 49) (j := 1) dX12_house_49 rfl rfl ?_
      refine mm_kVI (pc := 50) [.int x1] dX12_house_50 kX12_465 rfl sh_164 (Nat.le_of_ble_eq_true rfl) (Nat.le_of_ble_eq_true rfl) h (fun z50 m50 hG h => ?_)
      exact mm_iret (pc := 53) dX12_house_53 rfl (Nat.le_refl 0) (Nat.le_refl 0) ⟨_, rfl, rfl, hG, h⟩
    · have h := mm_iff hs12_0 h
      by_cases hs12_1 : x2 = 1
      · have h := mm_ift hs12_1 h
        refine mm_tableIn (pc := 12) (off := 42) (tgt := 54) dX12_house_12 (by rw [hs12_1]; decide) (by rw [hs12_1]; decide) (by rw [hs12_1]; rfl) (by decide) ?_
        refine mm_aload_n (pc := 54) (j := 0) dX12_house_54 rfl rfl ?_
        refine mm_getR (pc := 55) (ci := 12) (N := 116) (r := 194) dX12_house_55 fX12_103 sh_164 rfl (g_164_41 hG) ?_
        refine mm_bipush (pc := 58) (x := 7) dX12_house_58 rfl ?_
        refine mm_iload_n (pc := 60) (j := 1) dX12_house_60 rfl rfl ?_
        refine mm_iadd (pc := 61) dX12_house_61 ?_
        obtain ⟨hi62, h⟩ := h
        refine mm_iaload (pc := 62) (N := 14) dX12_house_62 sh_194 hi62 ?_
        exact mm_iret (pc := 63) dX12_house_63 rfl (Nat.le_refl 0) (Nat.le_refl 0) ⟨_, rfl, rfl, hG, h⟩
      · have h := mm_iff hs12_1 h
        by_cases hs12_2 : x2 = 2
        · have h := mm_ift hs12_2 h
          refine mm_tableIn (pc := 12) (off := 52) (tgt := 64) dX12_house_12 (by rw [hs12_2]; decide) (by rw [hs12_2]; decide) (by rw [hs12_2]; rfl) (by decide) ?_
          refine mm_aload_n (pc := 64) (j := 0) dX12_house_64 rfl rfl ?_
          refine mm_iload_n (pc := 65) (j := 1) dX12_house_65 rfl rfl ?_
          refine mm_kVI (pc := 66) [.int x1] dX12_house_66 kX12_459 rfl sh_164 (Nat.le_of_ble_eq_true rfl) (Nat.le_of_ble_eq_true rfl) h (fun z66 m66 hG h => ?_)
          exact mm_iret (pc := 69) dX12_house_69 rfl (Nat.le_refl 0) (Nat.le_refl 0) ⟨_, rfl, rfl, hG, h⟩
        · have h := mm_iff hs12_2 h
          by_cases hs12_3 : x2 = 3
          · have h := mm_ift hs12_3 h
            refine mm_tableIn (pc := 12) (off := 58) (tgt := 70) dX12_house_12 (by rw [hs12_3]; decide) (by rw [hs12_3]; decide) (by rw [hs12_3]; rfl) (by decide) ?_
            refine mm_aload_n (pc := 70) (j := 0) dX12_house_70 rfl rfl ?_
            refine mm_getR (pc := 71) (ci := 12) (N := 116) (r := 199) dX12_house_71 fX12_118 sh_164 rfl (g_164_50 hG) ?_
            refine mm_iconst (pc := 74) (x := 1) dX12_house_74 rfl ?_
            refine mm_iconst (pc := 75) (x := 3) dX12_house_75 rfl ?_
            refine mm_iload_n (pc := 76) (j := 1) dX12_house_76 rfl rfl ?_
            refine mm_imul (pc := 77) dX12_house_77 ?_
            refine mm_iadd (pc := 78) dX12_house_78 ?_
            obtain ⟨hi79, h⟩ := h
            refine mm_iaload (pc := 79) (N := 204) dX12_house_79 sh_199 hi79 ?_
            exact mm_iret (pc := 80) dX12_house_80 rfl (Nat.le_refl 0) (Nat.le_refl 0) ⟨_, rfl, rfl, hG, h⟩
          · have h := mm_iff hs12_3 h
            by_cases hs12_4 : x2 = 4
            · have h := mm_ift hs12_4 h
              refine mm_tableIn (pc := 12) (off := 69) (tgt := 81) dX12_house_12 (by rw [hs12_4]; decide) (by rw [hs12_4]; decide) (by rw [hs12_4]; rfl) (by decide) ?_
              refine mm_aload_n (pc := 81) (j := 0) dX12_house_81 rfl rfl ?_
              refine mm_iload_n (pc := 82) (j := 1) dX12_house_82 rfl rfl ?_
              refine mm_kVI (pc := 83) [.int x1] dX12_house_83 kX12_538 rfl sh_164 (Nat.le_of_ble_eq_true rfl) (Nat.le_of_ble_eq_true rfl) h (fun z83 m83 hG h => ?_)
              exact mm_iret (pc := 86) dX12_house_86 rfl (Nat.le_refl 0) (Nat.le_refl 0) ⟨_, rfl, rfl, hG, h⟩
            · have h := mm_iff hs12_4 h
              have ht12_0 := lv_neT hs12_0 (show (0 : Int32).toInt = 0 from rfl)
              have ht12_1 := lv_neT hs12_1 (show (1 : Int32).toInt = 1 from rfl)
              have ht12_2 := lv_neT hs12_2 (show (2 : Int32).toInt = 2 from rfl)
              have ht12_3 := lv_neT hs12_3 (show (3 : Int32).toInt = 3 from rfl)
              have ht12_4 := lv_neT hs12_4 (show (4 : Int32).toInt = 4 from rfl)
              refine mm_tableOut (pc := 12) (tgt := 87) dX12_house_12 (by omega) (by decide) ?_
              refine mm_iconst (pc := 87) (x := (-1)) dX12_house_87 rfl ?_
              exact mm_iret (pc := 88) dX12_house_88 rfl (Nat.le_refl 0) (Nat.le_refl 0) ⟨_, rfl, rfl, hG, h⟩
  · have h := mm_ift hc h
    refine mm_iconst (pc := 9) (x := (-1)) dX12_house_9 rfl ?_
    exact mm_iret (pc := 10) dX12_house_10 rfl (Nat.le_refl 0) (Nat.le_refl 0) ⟨_, rfl, rfl, hG, h⟩
set_option maxRecDepth 100000 in
set_option maxHeartbeats 4000000 in
theorem rX12_areTwo {d : Nat} {x1 : Int32} {x2 : Int32} {M : mm_M} {K : Int32 → mm_M → Prop} (hG : mm_G M.2.2) (h : mm_CI mX12_isHouse d [.ref 164, .long x1.toInt64] M (fun z3 m3 => if z3 = 0 then (K 0 m3) else (mm_CI mX12_isHouse d [.ref 164, .long x2.toInt64] m3 (fun z12 m12 => if z12 = 0 then (K 0 m12) else (if x1 = x2 then (K 0 m12) else (K 1 m12)))))) : mm_CI mX12_areTwo (d + 1) [.ref 164, .int x1, .int x2] M K := by
  show mm_W mX12_areTwo (d + 1) 0 0 0 [(0, .ref 164), (1, .int x1), (2, .int x2)] [] mm_SH M 0 0 (mm_PI K)
  refine mm_aload_n (pc := 0) (j := 0) dX12_areTwo_0 rfl rfl ?_
  refine mm_iload_n (pc := 1) (j := 1) dX12_areTwo_1 rfl rfl ?_
  refine mm_i2l (pc := 2) dX12_areTwo_2 ?_
  refine mm_kVI (pc := 3) [.long x1.toInt64] dX12_areTwo_3 kX12_534 rfl sh_164 (Nat.le_of_ble_eq_true rfl) (Nat.le_of_ble_eq_true rfl) h (fun z3 m3 hG h => ?_)
  refine mm_if_eq (pc := 6) (tgt := 27) dX12_areTwo_6 (by decide) (fun hc => ?_) (fun hc => ?_)
  · have h := mm_ift hc h
    refine mm_iconst (pc := 27) (x := 0) dX12_areTwo_27 rfl ?_
    exact mm_zret (pc := 28) dX12_areTwo_28 rfl rfl (Nat.le_refl 0) (Nat.le_refl 0) ⟨_, rfl, rfl, hG, h⟩
  · have h := mm_iff hc h
    refine mm_aload_n (pc := 9) (j := 0) dX12_areTwo_9 rfl rfl ?_
    refine mm_iload_n (pc := 10) (j := 2) dX12_areTwo_10 rfl rfl ?_
    refine mm_i2l (pc := 11) dX12_areTwo_11 ?_
    refine mm_kVI (pc := 12) [.long x2.toInt64] dX12_areTwo_12 kX12_534 rfl sh_164 (Nat.le_of_ble_eq_true rfl) (Nat.le_of_ble_eq_true rfl) h (fun z12 m12 hG h => ?_)
    refine mm_if_eq (pc := 15) (tgt := 27) dX12_areTwo_15 (by decide) (fun hc => ?_) (fun hc => ?_)
    · have h := mm_ift hc h
      refine mm_iconst (pc := 27) (x := 0) dX12_areTwo_27 rfl ?_
      exact mm_zret (pc := 28) dX12_areTwo_28 rfl rfl (Nat.le_refl 0) (Nat.le_refl 0) ⟨_, rfl, rfl, hG, h⟩
    · have h := mm_iff hc h
      refine mm_iload_n (pc := 18) (j := 1) dX12_areTwo_18 rfl rfl ?_
      refine mm_iload_n (pc := 19) (j := 2) dX12_areTwo_19 rfl rfl ?_
      refine mm_icmp_eq (pc := 20) (tgt := 27) dX12_areTwo_20 (by decide) (fun hc => ?_) (fun hc => ?_)
      · have h := mm_ift hc h
        refine mm_iconst (pc := 27) (x := 0) dX12_areTwo_27 rfl ?_
        exact mm_zret (pc := 28) dX12_areTwo_28 rfl rfl (Nat.le_refl 0) (Nat.le_refl 0) ⟨_, rfl, rfl, hG, h⟩
      · have h := mm_iff hc h
        refine mm_iconst (pc := 23) (x := 1) dX12_areTwo_23 rfl ?_
        refine mm_goto (pc := 24) (tgt := 28) dX12_areTwo_24 (by decide) ?_
        exact mm_zret (pc := 28) dX12_areTwo_28 rfl rfl (Nat.le_refl 0) (Nat.le_refl 0) ⟨_, rfl, rfl, hG, h⟩
set_option maxRecDepth 100000 in
set_option maxHeartbeats 4000000 in
theorem rX12_hate {d : Nat} {x1 : Int32} {x2 : Int32} {M : mm_M} {K : Int32 → mm_M → Prop} (hG : mm_G M.2.2) (h : mm_CI mX12_areTwo d [.ref 164, .int x1, .int x2] M (fun z3 m3 => if z3 = 0 then (K (-1) m3) else (mm_CI mX12_hateOf d [.ref 164, .int x1, .int x2] m3 (fun z12 m12 => K z12 m12)))) : mm_CI mX12_hate (d + 1) [.ref 164, .int x1, .int x2] M K := by
  show mm_W mX12_hate (d + 1) 0 0 0 [(0, .ref 164), (1, .int x1), (2, .int x2)] [] mm_SH M 0 0 (mm_PI K)
  refine mm_aload_n (pc := 0) (j := 0) dX12_hate_0 rfl rfl ?_
  refine mm_iload_n (pc := 1) (j := 1) dX12_hate_1 rfl rfl ?_
  refine mm_iload_n (pc := 2) (j := 2) dX12_hate_2 rfl rfl ?_
  refine mm_kVI (pc := 3) [.int x1, .int x2] dX12_hate_3 kX12_541 rfl sh_164 (Nat.le_of_ble_eq_true rfl) (Nat.le_of_ble_eq_true rfl) h (fun z3 m3 hG h => ?_)
  refine mm_if_eq (pc := 6) (tgt := 18) dX12_hate_6 (by decide) (fun hc => ?_) (fun hc => ?_)
  · have h := mm_ift hc h
    refine mm_iconst (pc := 18) (x := (-1)) dX12_hate_18 rfl ?_
    exact mm_iret (pc := 19) dX12_hate_19 rfl (Nat.le_refl 0) (Nat.le_refl 0) ⟨_, rfl, rfl, hG, h⟩
  · have h := mm_iff hc h
    refine mm_aload_n (pc := 9) (j := 0) dX12_hate_9 rfl rfl ?_
    refine mm_iload_n (pc := 10) (j := 1) dX12_hate_10 rfl rfl ?_
    refine mm_iload_n (pc := 11) (j := 2) dX12_hate_11 rfl rfl ?_
    refine mm_kVI (pc := 12) [.int x1, .int x2] dX12_hate_12 kX12_415 rfl sh_164 (Nat.le_of_ble_eq_true rfl) (Nat.le_of_ble_eq_true rfl) h (fun z12 m12 hG h => ?_)
    refine mm_goto (pc := 15) (tgt := 19) dX12_hate_15 (by decide) ?_
    exact mm_iret (pc := 19) dX12_hate_19 rfl (Nat.le_refl 0) (Nat.le_refl 0) ⟨_, rfl, rfl, hG, h⟩
set_option maxRecDepth 100000 in
set_option maxHeartbeats 4000000 in
theorem rX12_baker {d : Nat} {x1 : Int32} {M : mm_M} {K : Int32 → mm_M → Prop} (hG : mm_G M.2.2) (h : mm_CI mX12_isHouse d [.ref 164, .long x1.toInt64] M (fun z3 m3 => if z3 = 0 then (K (-1) m3) else (mm_CI mX12_isThere d [.ref 164, .int x1] m3 (fun z11 m11 => if z11 = 0 then (K (-1) m11) else (mm_CV mX12_putsAside d [.ref 164] m11 (fun m20 => mm_CV mX12_allEat d [.ref 164] m20 (fun m24 => vp_in x1 7 ∧ mm_CV mX12_takesBack d [.ref 164] m24 (fun m35 => K (m24.1 202 x1.toNatClampNeg) m35)))))))) : mm_CI mX12_baker (d + 1) [.ref 164, .int x1] M K := by
  show mm_W mX12_baker (d + 1) 0 0 0 [(0, .ref 164), (1, .int x1)] [] mm_SH M 0 0 (mm_PI K)
  refine mm_aload_n (pc := 0) (j := 0) dX12_baker_0 rfl rfl ?_
  refine mm_iload_n (pc := 1) (j := 1) dX12_baker_1 rfl rfl ?_
  refine mm_i2l (pc := 2) dX12_baker_2 ?_
  refine mm_kVI (pc := 3) [.long x1.toInt64] dX12_baker_3 kX12_534 rfl sh_164 (Nat.le_of_ble_eq_true rfl) (Nat.le_of_ble_eq_true rfl) h (fun z3 m3 hG h => ?_)
  refine mm_if_eq (pc := 6) (tgt := 17) dX12_baker_6 (by decide) (fun hc => ?_) (fun hc => ?_)
  · have h := mm_ift hc h
    refine mm_iconst (pc := 17) (x := (-1)) dX12_baker_17 rfl ?_
    exact mm_iret (pc := 18) dX12_baker_18 rfl (Nat.le_refl 0) (Nat.le_refl 0) ⟨_, rfl, rfl, hG, h⟩
  · have h := mm_iff hc h
    refine mm_aload_n (pc := 9) (j := 0) dX12_baker_9 rfl rfl ?_
    refine mm_iload_n (pc := 10) (j := 1) dX12_baker_10 rfl rfl ?_
    refine mm_kVI (pc := 11) [.int x1] dX12_baker_11 kX12_462 rfl sh_164 (Nat.le_of_ble_eq_true rfl) (Nat.le_of_ble_eq_true rfl) h (fun z11 m11 hG h => ?_)
    refine mm_if_ne (pc := 14) (tgt := 19) dX12_baker_14 (by decide) (fun hc => ?_) (fun hc => ?_)
    · have h := mm_iff hc h
      refine mm_aload_n (pc := 19) (j := 0) dX12_baker_19 rfl rfl ?_
      refine mm_kVV (pc := 20) [] dX12_baker_20 kX12_544 rfl sh_164 (Nat.le_of_ble_eq_true rfl) (Nat.le_of_ble_eq_true rfl) h (fun m20 hG h => ?_)
      refine mm_aload_n (pc := 23) (j := 0) dX12_baker_23 rfl rfl ?_
      refine mm_kVV (pc := 24) [] dX12_baker_24 kX12_501 rfl sh_164 (Nat.le_of_ble_eq_true rfl) (Nat.le_of_ble_eq_true rfl) h (fun m24 hG h => ?_)
      refine mm_aload_n (pc := 27) (j := 0) dX12_baker_27 rfl rfl ?_
      refine mm_getR (pc := 28) (ci := 12) (N := 116) (r := 202) dX12_baker_28 fX12_127 sh_164 rfl (g_164_61 hG) ?_
      refine mm_iload_n (pc := 31) (j := 1) dX12_baker_31 rfl rfl ?_
      obtain ⟨hi32, h⟩ := h
      refine mm_iaload (pc := 32) (N := 7) dX12_baker_32 sh_202 hi32 ?_
      refine mm_istore_n (pc := 33) (lv' := [(2, .int (m24.1 202 x1.toNatClampNeg)), (0, .ref 164), (1, .int x1)]) dX12_baker_33 rfl (by decide) rfl ?_
      refine mm_aload_n (pc := 34) (j := 1) dX12_baker_34 rfl rfl ?_
      refine mm_kVV (pc := 35) [] dX12_baker_35 kX12_547 rfl sh_164 (Nat.le_of_ble_eq_true rfl) (Nat.le_of_ble_eq_true rfl) h (fun m35 hG h => ?_)
      refine mm_iload_n (pc := 38) (j := 0) dX12_baker_38 rfl rfl ?_
      exact mm_iret (pc := 39) dX12_baker_39 rfl (Nat.le_refl 0) (Nat.le_refl 0) ⟨_, rfl, rfl, hG, h⟩
    · have h := mm_ift hc h
      refine mm_iconst (pc := 17) (x := (-1)) dX12_baker_17 rfl ?_
      exact mm_iret (pc := 18) dX12_baker_18 rfl (Nat.le_refl 0) (Nat.le_refl 0) ⟨_, rfl, rfl, hG, h⟩
set_option maxRecDepth 100000 in
set_option maxHeartbeats 4000000 in
theorem rX12_taste {d : Nat} {x1 : Int32} {x2 : Int32} {M : mm_M} {K : Int32 → mm_M → Prop} (hG : mm_G M.2.2) (h : mm_CI mX12_areTwo d [.ref 164, .int x1, .int x2] M (fun z3 m3 => if z3 = 0 then (K (-1) m3) else (mm_CI mX12_areEnemies d [.ref 164, .int x1, .int x2] m3 (fun z12 m12 => if z12 = 0 then (K (-1) m12) else (mm_CI mX12_tasteOf d [.ref 164, .int x1, .int x2] m12 (fun z21 m21 => K z21 m21)))))) : mm_CI mX12_taste (d + 1) [.ref 164, .int x1, .int x2] M K := by
  show mm_W mX12_taste (d + 1) 0 0 0 [(0, .ref 164), (1, .int x1), (2, .int x2)] [] mm_SH M 0 0 (mm_PI K)
  refine mm_aload_n (pc := 0) (j := 0) dX12_taste_0 rfl rfl ?_
  refine mm_iload_n (pc := 1) (j := 1) dX12_taste_1 rfl rfl ?_
  refine mm_iload_n (pc := 2) (j := 2) dX12_taste_2 rfl rfl ?_
  refine mm_kVI (pc := 3) [.int x1, .int x2] dX12_taste_3 kX12_541 rfl sh_164 (Nat.le_of_ble_eq_true rfl) (Nat.le_of_ble_eq_true rfl) h (fun z3 m3 hG h => ?_)
  refine mm_if_eq (pc := 6) (tgt := 27) dX12_taste_6 (by decide) (fun hc => ?_) (fun hc => ?_)
  · have h := mm_ift hc h
    refine mm_iconst (pc := 27) (x := (-1)) dX12_taste_27 rfl ?_
    exact mm_iret (pc := 28) dX12_taste_28 rfl (Nat.le_refl 0) (Nat.le_refl 0) ⟨_, rfl, rfl, hG, h⟩
  · have h := mm_iff hc h
    refine mm_aload_n (pc := 9) (j := 0) dX12_taste_9 rfl rfl ?_
    refine mm_iload_n (pc := 10) (j := 1) dX12_taste_10 rfl rfl ?_
    refine mm_iload_n (pc := 11) (j := 2) dX12_taste_11 rfl rfl ?_
    refine mm_kVI (pc := 12) [.int x1, .int x2] dX12_taste_12 kX12_418 rfl sh_164 (Nat.le_of_ble_eq_true rfl) (Nat.le_of_ble_eq_true rfl) h (fun z12 m12 hG h => ?_)
    refine mm_if_eq (pc := 15) (tgt := 27) dX12_taste_15 (by decide) (fun hc => ?_) (fun hc => ?_)
    · have h := mm_ift hc h
      refine mm_iconst (pc := 27) (x := (-1)) dX12_taste_27 rfl ?_
      exact mm_iret (pc := 28) dX12_taste_28 rfl (Nat.le_refl 0) (Nat.le_refl 0) ⟨_, rfl, rfl, hG, h⟩
    · have h := mm_iff hc h
      refine mm_aload_n (pc := 18) (j := 0) dX12_taste_18 rfl rfl ?_
      refine mm_iload_n (pc := 19) (j := 1) dX12_taste_19 rfl rfl ?_
      refine mm_iload_n (pc := 20) (j := 2) dX12_taste_20 rfl rfl ?_
      refine mm_kVI (pc := 21) [.int x1, .int x2] dX12_taste_21 kX12_486 rfl sh_164 (Nat.le_of_ble_eq_true rfl) (Nat.le_of_ble_eq_true rfl) h (fun z21 m21 hG h => ?_)
      refine mm_goto (pc := 24) (tgt := 28) dX12_taste_24 (by decide) ?_
      exact mm_iret (pc := 28) dX12_taste_28 rfl (Nat.le_refl 0) (Nat.le_refl 0) ⟨_, rfl, rfl, hG, h⟩
set_option maxRecDepth 100000 in
set_option maxHeartbeats 4000000 in
theorem rX12_kept {d : Nat} {x1 : Int32} {x2 : Int32} {M : mm_M} {K : Int32 → mm_M → Prop} (hG : mm_G M.2.2) (h : mm_CI mX12_isIn d [.long x1.toInt64, .long 0, .long (((M.1 199 (43 : Int32).toNatClampNeg) - 1).toInt64)] M (fun z13 m13 => if z13 = 0 then (K (-1) m13) else (mm_CI mX12_isIn d [.long x2.toInt64, .long 0, .long 3] m13 (fun z25 m25 => if z25 = 0 then (K (-1) m25) else (vp_in ((44 + (4 * x1)) + x2) 204 ∧ K (m25.1 199 ((44 + (4 * x1)) + x2).toNatClampNeg) m25))))) : mm_CI mX12_kept (d + 1) [.ref 164, .int x1, .int x2] M K := by
  show mm_W mX12_kept (d + 1) 0 0 0 [(0, .ref 164), (1, .int x1), (2, .int x2)] [] mm_SH M 0 0 (mm_PI K)
  refine mm_iload_n (pc := 0) (j := 1) dX12_kept_0 rfl rfl ?_
  refine mm_i2l (pc := 1) dX12_kept_1 ?_
  refine mm_lconst (pc := 2) (x := 0) dX12_kept_2 rfl ?_
  refine mm_aload_n (pc := 3) (j := 0) dX12_kept_3 rfl rfl ?_
  refine mm_getR (pc := 4) (ci := 12) (N := 116) (r := 199) dX12_kept_4 fX12_118 sh_164 rfl (g_164_50 hG) ?_
  refine mm_bipush (pc := 7) (x := 43) dX12_kept_7 rfl ?_
  refine mm_iaload (pc := 9) (N := 204) dX12_kept_9 sh_199 (mm_vin (k := 43) rfl (by decide) (by decide)) ?_
  refine mm_iconst (pc := 10) (x := 1) dX12_kept_10 rfl ?_
  refine mm_isub (pc := 11) dX12_kept_11 ?_
  refine mm_i2l (pc := 12) dX12_kept_12 ?_
  refine mm_kSI (pc := 13) [.long x1.toInt64, .long 0, .long (((M.1 199 (43 : Int32).toNatClampNeg) - 1).toInt64)] dX12_kept_13 kX12_303 rfl (Nat.le_of_ble_eq_true rfl) (Nat.le_of_ble_eq_true rfl) h (fun z13 m13 hG h => ?_)
  refine mm_if_eq (pc := 16) (tgt := 47) dX12_kept_16 (by decide) (fun hc => ?_) (fun hc => ?_)
  · have h := mm_ift hc h
    refine mm_iconst (pc := 47) (x := (-1)) dX12_kept_47 rfl ?_
    exact mm_iret (pc := 48) dX12_kept_48 rfl (Nat.le_refl 0) (Nat.le_refl 0) ⟨_, rfl, rfl, hG, h⟩
  · have h := mm_iff hc h
    refine mm_iload_n (pc := 19) (j := 2) dX12_kept_19 rfl rfl ?_
    refine mm_i2l (pc := 20) dX12_kept_20 ?_
    refine mm_lconst (pc := 21) (x := 0) dX12_kept_21 rfl ?_
    refine mm_ldc2 (pc := 22) (x := 3) dX12_kept_22 cX12_321 ?_
    refine mm_kSI (pc := 25) [.long x2.toInt64, .long 0, .long 3] dX12_kept_25 kX12_303 rfl (Nat.le_of_ble_eq_true rfl) (Nat.le_of_ble_eq_true rfl) h (fun z25 m25 hG h => ?_)
    refine mm_if_eq (pc := 28) (tgt := 47) dX12_kept_28 (by decide) (fun hc => ?_) (fun hc => ?_)
    · have h := mm_ift hc h
      refine mm_iconst (pc := 47) (x := (-1)) dX12_kept_47 rfl ?_
      exact mm_iret (pc := 48) dX12_kept_48 rfl (Nat.le_refl 0) (Nat.le_refl 0) ⟨_, rfl, rfl, hG, h⟩
    · have h := mm_iff hc h
      refine mm_aload_n (pc := 31) (j := 0) dX12_kept_31 rfl rfl ?_
      refine mm_getR (pc := 32) (ci := 12) (N := 116) (r := 199) dX12_kept_32 fX12_118 sh_164 rfl (g_164_50 hG) ?_
      refine mm_bipush (pc := 35) (x := 44) dX12_kept_35 rfl ?_
      refine mm_iconst (pc := 37) (x := 4) dX12_kept_37 rfl ?_
      refine mm_iload_n (pc := 38) (j := 1) dX12_kept_38 rfl rfl ?_
      refine mm_imul (pc := 39) dX12_kept_39 ?_
      refine mm_iadd (pc := 40) dX12_kept_40 ?_
      refine mm_iload_n (pc := 41) (j := 2) dX12_kept_41 rfl rfl ?_
      refine mm_iadd (pc := 42) dX12_kept_42 ?_
      obtain ⟨hi43, h⟩ := h
      refine mm_iaload (pc := 43) (N := 204) dX12_kept_43 sh_199 hi43 ?_
      refine mm_goto (pc := 44) (tgt := 48) dX12_kept_44 (by decide) ?_
      exact mm_iret (pc := 48) dX12_kept_48 rfl (Nat.le_refl 0) (Nat.le_refl 0) ⟨_, rfl, rfl, hG, h⟩
set_option maxRecDepth 100000 in
set_option maxHeartbeats 4000000 in
theorem rX12_later {d : Nat} {x1 : Int32} {x2 : Int32} {x3 : Int32} {M : mm_M} {K : Int32 → mm_M → Prop} (hG : mm_G M.2.2) (h : mm_CI mX12_isHouse d [.ref 164, .long x1.toInt64] M (fun z3 m3 => if z3 = 0 then (K (-1) m3) else (mm_CI mX12_isAhead d [.ref 164, .int x2, .int 0, .int 60] m3 (fun z14 m14 => if z14 = 0 then (K (-1) m14) else (mm_CI mX12_isIn d [.long x3.toInt64, .long 0, .long 2] m14 (fun z26 m26 => if z26 = 0 then (K (-1) m26) else (mm_CV mX12_putsAside d [.ref 164] m26 (fun m35 => mm_CV mX12_daysGo d [.ref 164, .int x2] m35 (fun m40 => if x3 = 0 then (mm_CI mX12_flourOf d [.ref 164, .int x1] m40 (fun z49 m49 => mm_CV mX12_takesBack d [.ref 164] m49 (fun m81 => K z49 m81))) else (if x3 = 1 then (mm_CI mX12_hungerOf d [.ref 164, .int x1] m40 (fun z62 m62 => mm_CV mX12_takesBack d [.ref 164] m62 (fun m81 => K z62 m81))) else (vp_in (1 + (3 * x1)) 204 ∧ mm_CV mX12_takesBack d [.ref 164] m40 (fun m81 => K (m40.1 199 (1 + (3 * x1)).toNatClampNeg) m81)))))))))))) : mm_CI mX12_later (d + 1) [.ref 164, .int x1, .int x2, .int x3] M K := by
  show mm_W mX12_later (d + 1) 0 0 0 [(0, .ref 164), (1, .int x1), (2, .int x2), (3, .int x3)] [] mm_SH M 0 0 (mm_PI K)
  refine mm_aload_n (pc := 0) (j := 0) dX12_later_0 rfl rfl ?_
  refine mm_iload_n (pc := 1) (j := 1) dX12_later_1 rfl rfl ?_
  refine mm_i2l (pc := 2) dX12_later_2 ?_
  refine mm_kVI (pc := 3) [.long x1.toInt64] dX12_later_3 kX12_534 rfl sh_164 (Nat.le_of_ble_eq_true rfl) (Nat.le_of_ble_eq_true rfl) h (fun z3 m3 hG h => ?_)
  refine mm_if_eq (pc := 6) (tgt := 32) dX12_later_6 (by decide) (fun hc => ?_) (fun hc => ?_)
  · have h := mm_ift hc h
    refine mm_iconst (pc := 32) (x := (-1)) dX12_later_32 rfl ?_
    exact mm_iret (pc := 33) dX12_later_33 rfl (Nat.le_refl 0) (Nat.le_refl 0) ⟨_, rfl, rfl, hG, h⟩
  · have h := mm_iff hc h
    refine mm_aload_n (pc := 9) (j := 0) dX12_later_9 rfl rfl ?_
    refine mm_iload_n (pc := 10) (j := 2) dX12_later_10 rfl rfl ?_
    refine mm_iconst (pc := 11) (x := 0) dX12_later_11 rfl ?_
    refine mm_bipush (pc := 12) (x := 60) dX12_later_12 rfl ?_
    refine mm_kVI (pc := 14) [.int x2, .int 0, .int 60] dX12_later_14 kX12_550 rfl sh_164 (Nat.le_of_ble_eq_true rfl) (Nat.le_of_ble_eq_true rfl) h (fun z14 m14 hG h => ?_)
    refine mm_if_eq (pc := 17) (tgt := 32) dX12_later_17 (by decide) (fun hc => ?_) (fun hc => ?_)
    · have h := mm_ift hc h
      refine mm_iconst (pc := 32) (x := (-1)) dX12_later_32 rfl ?_
      exact mm_iret (pc := 33) dX12_later_33 rfl (Nat.le_refl 0) (Nat.le_refl 0) ⟨_, rfl, rfl, hG, h⟩
    · have h := mm_iff hc h
      refine mm_iload_n (pc := 20) (j := 3) dX12_later_20 rfl rfl ?_
      refine mm_i2l (pc := 21) dX12_later_21 ?_
      refine mm_lconst (pc := 22) (x := 0) dX12_later_22 rfl ?_
      refine mm_ldc2 (pc := 23) (x := 2) dX12_later_23 cX12_554 ?_
      refine mm_kSI (pc := 26) [.long x3.toInt64, .long 0, .long 2] dX12_later_26 kX12_303 rfl (Nat.le_of_ble_eq_true rfl) (Nat.le_of_ble_eq_true rfl) h (fun z26 m26 hG h => ?_)
      refine mm_if_ne (pc := 29) (tgt := 34) dX12_later_29 (by decide) (fun hc => ?_) (fun hc => ?_)
      · have h := mm_iff hc h
        refine mm_aload_n (pc := 34) (j := 0) dX12_later_34 rfl rfl ?_
        refine mm_kVV (pc := 35) [] dX12_later_35 kX12_544 rfl sh_164 (Nat.le_of_ble_eq_true rfl) (Nat.le_of_ble_eq_true rfl) h (fun m35 hG h => ?_)
        refine mm_aload_n (pc := 38) (j := 0) dX12_later_38 rfl rfl ?_
        refine mm_iload_n (pc := 39) (j := 2) dX12_later_39 rfl rfl ?_
        refine mm_kVV (pc := 40) [.int x2] dX12_later_40 kX12_556 rfl sh_164 (Nat.le_of_ble_eq_true rfl) (Nat.le_of_ble_eq_true rfl) h (fun m40 hG h => ?_)
        refine mm_iload_n (pc := 43) (j := 3) dX12_later_43 rfl rfl ?_
        refine mm_if_ne (pc := 44) (tgt := 55) dX12_later_44 (by decide) (fun hc => ?_) (fun hc => ?_)
        · have h := mm_iff hc h
          refine mm_iload_n (pc := 55) (j := 3) dX12_later_55 rfl rfl ?_
          refine mm_iconst (pc := 56) (x := 1) dX12_later_56 rfl ?_
          refine mm_icmp_ne (pc := 57) (tgt := 68) dX12_later_57 (by decide) (fun hc => ?_) (fun hc => ?_)
          · have h := mm_iff hc h
            refine mm_aload_n (pc := 68) (j := 0) dX12_later_68 rfl rfl ?_
            refine mm_getR (pc := 69) (ci := 12) (N := 116) (r := 199) dX12_later_69 fX12_118 sh_164 rfl (g_164_50 hG) ?_
            refine mm_iconst (pc := 72) (x := 1) dX12_later_72 rfl ?_
            refine mm_iconst (pc := 73) (x := 3) dX12_later_73 rfl ?_
            refine mm_iload_n (pc := 74) (j := 1) dX12_later_74 rfl rfl ?_
            refine mm_imul (pc := 75) dX12_later_75 ?_
            refine mm_iadd (pc := 76) dX12_later_76 ?_
            obtain ⟨hi77, h⟩ := h
            refine mm_iaload (pc := 77) (N := 204) dX12_later_77 sh_199 hi77 ?_
            refine mm_istore (pc := 78) (lv' := [(4, .int (m40.1 199 (1 + (3 * x1)).toNatClampNeg)), (0, .ref 164), (1, .int x1), (2, .int x2), (3, .int x3)]) dX12_later_78 (by decide) rfl ?_
            refine mm_aload_n (pc := 80) (j := 1) dX12_later_80 rfl rfl ?_
            refine mm_kVV (pc := 81) [] dX12_later_81 kX12_547 rfl sh_164 (Nat.le_of_ble_eq_true rfl) (Nat.le_of_ble_eq_true rfl) h (fun m81 hG h => ?_)
            refine mm_iload (pc := 84) (j := 0) dX12_later_84 rfl ?_
            exact mm_iret (pc := 86) dX12_later_86 rfl (Nat.le_refl 0) (Nat.le_refl 0) ⟨_, rfl, rfl, hG, h⟩
          · have h := mm_ift hc h
            refine mm_aload_n (pc := 60) (j := 0) dX12_later_60 rfl rfl ?_
            refine mm_iload_n (pc := 61) (j := 1) dX12_later_61 rfl rfl ?_
            refine mm_kVI (pc := 62) [.int x1] dX12_later_62 kX12_459 rfl sh_164 (Nat.le_of_ble_eq_true rfl) (Nat.le_of_ble_eq_true rfl) h (fun z62 m62 hG h => ?_)
            refine mm_goto (pc := 65) (tgt := 78) dX12_later_65 (by decide) ?_
            refine mm_istore (pc := 78) (lv' := [(4, .int z62), (0, .ref 164), (1, .int x1), (2, .int x2), (3, .int x3)]) dX12_later_78 (by decide) rfl ?_
            refine mm_aload_n (pc := 80) (j := 1) dX12_later_80 rfl rfl ?_
            refine mm_kVV (pc := 81) [] dX12_later_81 kX12_547 rfl sh_164 (Nat.le_of_ble_eq_true rfl) (Nat.le_of_ble_eq_true rfl) h (fun m81 hG h => ?_)
            refine mm_iload (pc := 84) (j := 0) dX12_later_84 rfl ?_
            exact mm_iret (pc := 86) dX12_later_86 rfl (Nat.le_refl 0) (Nat.le_refl 0) ⟨_, rfl, rfl, hG, h⟩
        · have h := mm_ift hc h
          refine mm_aload_n (pc := 47) (j := 0) dX12_later_47 rfl rfl ?_
          refine mm_iload_n (pc := 48) (j := 1) dX12_later_48 rfl rfl ?_
          refine mm_kVI (pc := 49) [.int x1] dX12_later_49 kX12_465 rfl sh_164 (Nat.le_of_ble_eq_true rfl) (Nat.le_of_ble_eq_true rfl) h (fun z49 m49 hG h => ?_)
          refine mm_goto (pc := 52) (tgt := 78) dX12_later_52 (by decide) ?_
          refine mm_istore (pc := 78) (lv' := [(4, .int z49), (0, .ref 164), (1, .int x1), (2, .int x2), (3, .int x3)]) dX12_later_78 (by decide) rfl ?_
          refine mm_aload_n (pc := 80) (j := 1) dX12_later_80 rfl rfl ?_
          refine mm_kVV (pc := 81) [] dX12_later_81 kX12_547 rfl sh_164 (Nat.le_of_ble_eq_true rfl) (Nat.le_of_ble_eq_true rfl) h (fun m81 hG h => ?_)
          refine mm_iload (pc := 84) (j := 0) dX12_later_84 rfl ?_
          exact mm_iret (pc := 86) dX12_later_86 rfl (Nat.le_refl 0) (Nat.le_refl 0) ⟨_, rfl, rfl, hG, h⟩
      · have h := mm_ift hc h
        refine mm_iconst (pc := 32) (x := (-1)) dX12_later_32 rfl ?_
        exact mm_iret (pc := 33) dX12_later_33 rfl (Nat.le_refl 0) (Nat.le_refl 0) ⟨_, rfl, rfl, hG, h⟩
set_option maxRecDepth 100000 in
set_option maxHeartbeats 4000000 in
theorem rX12_cooled {d : Nat} {x1 : Int32} {x2 : Int32} {x3 : Int32} {M : mm_M} {K : Int32 → mm_M → Prop} (hG : mm_G M.2.2) (h : mm_CI mX12_areTwo d [.ref 164, .int x1, .int x2] M (fun z3 m3 => if z3 = 0 then (K (-1) m3) else (mm_CI mX12_isAhead d [.ref 164, .int x3, .int 0, .int 60] m3 (fun z14 m14 => if z14 = 0 then (K (-1) m14) else (mm_CV mX12_putsAside d [.ref 164] m14 (fun m23 => mm_CV mX12_daysGo d [.ref 164, .int x3] m23 (fun m28 => mm_CI mX12_hateOf d [.ref 164, .int x1, .int x2] m28 (fun z34 m34 => mm_CV mX12_takesBack d [.ref 164] m34 (fun m40 => K z34 m40))))))))) : mm_CI mX12_cooled (d + 1) [.ref 164, .int x1, .int x2, .int x3] M K := by
  show mm_W mX12_cooled (d + 1) 0 0 0 [(0, .ref 164), (1, .int x1), (2, .int x2), (3, .int x3)] [] mm_SH M 0 0 (mm_PI K)
  refine mm_aload_n (pc := 0) (j := 0) dX12_cooled_0 rfl rfl ?_
  refine mm_iload_n (pc := 1) (j := 1) dX12_cooled_1 rfl rfl ?_
  refine mm_iload_n (pc := 2) (j := 2) dX12_cooled_2 rfl rfl ?_
  refine mm_kVI (pc := 3) [.int x1, .int x2] dX12_cooled_3 kX12_541 rfl sh_164 (Nat.le_of_ble_eq_true rfl) (Nat.le_of_ble_eq_true rfl) h (fun z3 m3 hG h => ?_)
  refine mm_if_eq (pc := 6) (tgt := 20) dX12_cooled_6 (by decide) (fun hc => ?_) (fun hc => ?_)
  · have h := mm_ift hc h
    refine mm_iconst (pc := 20) (x := (-1)) dX12_cooled_20 rfl ?_
    exact mm_iret (pc := 21) dX12_cooled_21 rfl (Nat.le_refl 0) (Nat.le_refl 0) ⟨_, rfl, rfl, hG, h⟩
  · have h := mm_iff hc h
    refine mm_aload_n (pc := 9) (j := 0) dX12_cooled_9 rfl rfl ?_
    refine mm_iload_n (pc := 10) (j := 3) dX12_cooled_10 rfl rfl ?_
    refine mm_iconst (pc := 11) (x := 0) dX12_cooled_11 rfl ?_
    refine mm_bipush (pc := 12) (x := 60) dX12_cooled_12 rfl ?_
    refine mm_kVI (pc := 14) [.int x3, .int 0, .int 60] dX12_cooled_14 kX12_550 rfl sh_164 (Nat.le_of_ble_eq_true rfl) (Nat.le_of_ble_eq_true rfl) h (fun z14 m14 hG h => ?_)
    refine mm_if_ne (pc := 17) (tgt := 22) dX12_cooled_17 (by decide) (fun hc => ?_) (fun hc => ?_)
    · have h := mm_iff hc h
      refine mm_aload_n (pc := 22) (j := 0) dX12_cooled_22 rfl rfl ?_
      refine mm_kVV (pc := 23) [] dX12_cooled_23 kX12_544 rfl sh_164 (Nat.le_of_ble_eq_true rfl) (Nat.le_of_ble_eq_true rfl) h (fun m23 hG h => ?_)
      refine mm_aload_n (pc := 26) (j := 0) dX12_cooled_26 rfl rfl ?_
      refine mm_iload_n (pc := 27) (j := 3) dX12_cooled_27 rfl rfl ?_
      refine mm_kVV (pc := 28) [.int x3] dX12_cooled_28 kX12_556 rfl sh_164 (Nat.le_of_ble_eq_true rfl) (Nat.le_of_ble_eq_true rfl) h (fun m28 hG h => ?_)
      refine mm_aload_n (pc := 31) (j := 0) dX12_cooled_31 rfl rfl ?_
      refine mm_iload_n (pc := 32) (j := 1) dX12_cooled_32 rfl rfl ?_
      refine mm_iload_n (pc := 33) (j := 2) dX12_cooled_33 rfl rfl ?_
      refine mm_kVI (pc := 34) [.int x1, .int x2] dX12_cooled_34 kX12_415 rfl sh_164 (Nat.le_of_ble_eq_true rfl) (Nat.le_of_ble_eq_true rfl) h (fun z34 m34 hG h => ?_)
      refine mm_istore (pc := 37) (lv' := [(4, .int z34), (0, .ref 164), (1, .int x1), (2, .int x2), (3, .int x3)]) dX12_cooled_37 (by decide) rfl ?_
      refine mm_aload_n (pc := 39) (j := 1) dX12_cooled_39 rfl rfl ?_
      refine mm_kVV (pc := 40) [] dX12_cooled_40 kX12_547 rfl sh_164 (Nat.le_of_ble_eq_true rfl) (Nat.le_of_ble_eq_true rfl) h (fun m40 hG h => ?_)
      refine mm_iload (pc := 43) (j := 0) dX12_cooled_43 rfl ?_
      exact mm_iret (pc := 45) dX12_cooled_45 rfl (Nat.le_refl 0) (Nat.le_refl 0) ⟨_, rfl, rfl, hG, h⟩
    · have h := mm_ift hc h
      refine mm_iconst (pc := 20) (x := (-1)) dX12_cooled_20 rfl ?_
      exact mm_iret (pc := 21) dX12_cooled_21 rfl (Nat.le_refl 0) (Nat.le_refl 0) ⟨_, rfl, rfl, hG, h⟩
def jX12_starves_25 (d : Nat) (x1 : Int32) (M : mm_M) (K : Int32 → mm_M → Prop) (y1 : Int32) (y2 : Int32) : Prop := mm_W mX12_starves (d + 1) 0 0 25 [(0, .ref 164), (1, .int y1), (2, .int y2)] [] mm_SH M 0 0 (mm_PI K)
def jX12_starves_61 (d : Nat) (x1 : Int32) (M : mm_M) (K : Int32 → mm_M → Prop) (y1 : Int32) (y2 : Int32) : Prop := mm_W mX12_starves (d + 1) 0 0 61 [(0, .ref 164), (1, .int y1), (2, .int y2)] [] mm_SH M 0 0 (mm_PI K)
set_option maxRecDepth 100000 in
set_option maxHeartbeats 4000000 in
theorem rX12_starves {d : Nat} {x1 : Int32} {M : mm_M} {K : Int32 → mm_M → Prop} (hG : mm_G M.2.2) (h : mm_CI mX12_isHouse d [.ref 164, .long x1.toInt64] M (fun z3 m3 => if z3 = 0 then (K (-1) m3) else (mm_CI mX12_isThere d [.ref 164, .int x1] m3 (fun z11 m11 => if z11 = 0 then (K (-1) m11) else (mm_CV mX12_putsAside d [.ref 164] m11 (fun m22 => jX12_starves_25 d x1 m22 K x1 0)))))) : mm_CI mX12_starves (d + 1) [.ref 164, .int x1] M K := by
  show mm_W mX12_starves (d + 1) 0 0 0 [(0, .ref 164), (1, .int x1)] [] mm_SH M 0 0 (mm_PI K)
  refine mm_aload_n (pc := 0) (j := 0) dX12_starves_0 rfl rfl ?_
  refine mm_iload_n (pc := 1) (j := 1) dX12_starves_1 rfl rfl ?_
  refine mm_i2l (pc := 2) dX12_starves_2 ?_
  refine mm_kVI (pc := 3) [.long x1.toInt64] dX12_starves_3 kX12_534 rfl sh_164 (Nat.le_of_ble_eq_true rfl) (Nat.le_of_ble_eq_true rfl) h (fun z3 m3 hG h => ?_)
  refine mm_if_eq (pc := 6) (tgt := 17) dX12_starves_6 (by decide) (fun hc => ?_) (fun hc => ?_)
  · have h := mm_ift hc h
    refine mm_iconst (pc := 17) (x := (-1)) dX12_starves_17 rfl ?_
    exact mm_iret (pc := 18) dX12_starves_18 rfl (Nat.le_refl 0) (Nat.le_refl 0) ⟨_, rfl, rfl, hG, h⟩
  · have h := mm_iff hc h
    refine mm_aload_n (pc := 9) (j := 0) dX12_starves_9 rfl rfl ?_
    refine mm_iload_n (pc := 10) (j := 1) dX12_starves_10 rfl rfl ?_
    refine mm_kVI (pc := 11) [.int x1] dX12_starves_11 kX12_462 rfl sh_164 (Nat.le_of_ble_eq_true rfl) (Nat.le_of_ble_eq_true rfl) h (fun z11 m11 hG h => ?_)
    refine mm_if_ne (pc := 14) (tgt := 19) dX12_starves_14 (by decide) (fun hc => ?_) (fun hc => ?_)
    · have h := mm_iff hc h
      refine mm_iconst (pc := 19) (x := 0) dX12_starves_19 rfl ?_
      refine mm_istore_n (pc := 20) (lv' := [(2, .int 0), (0, .ref 164), (1, .int x1)]) dX12_starves_20 rfl (by decide) rfl ?_
      refine mm_aload_n (pc := 21) (j := 1) dX12_starves_21 rfl rfl ?_
      refine mm_kVV (pc := 22) [] dX12_starves_22 kX12_544 rfl sh_164 (Nat.le_of_ble_eq_true rfl) (Nat.le_of_ble_eq_true rfl) h (fun m22 hG h => ?_)
      exact mm_sub [1, 2, 0] rfl h
    · have h := mm_ift hc h
      refine mm_iconst (pc := 17) (x := (-1)) dX12_starves_17 rfl ?_
      exact mm_iret (pc := 18) dX12_starves_18 rfl (Nat.le_refl 0) (Nat.le_refl 0) ⟨_, rfl, rfl, hG, h⟩
set_option maxRecDepth 100000 in
set_option maxHeartbeats 4000000 in
theorem lX12_starves_25 {d : Nat} {x1 : Int32} {M : mm_M} {K : Int32 → mm_M → Prop} {y1 : Int32} {y2 : Int32} (hG : mm_G M.2.2) (h : mm_CI mX12_isThere d [.ref 164, .int y1] M (fun z27 m27 => if z27 = 0 then (jX12_starves_61 d x1 m27 K y1 y2) else (if 60 ≤ y2 then (jX12_starves_61 d x1 m27 K y1 y2) else (if 999 ≤ (m27.1 199 (0 : Int32).toNatClampNeg) then (jX12_starves_61 d x1 m27 K y1 y2) else (mm_CV mX12_dayGoes d [.ref 164] m27 (fun m52 => jX12_starves_25 d x1 m52 K y1 (y2 + 1))))))) : jX12_starves_25 d x1 M K y1 y2 := by
  unfold jX12_starves_25
  refine mm_aload_n (pc := 25) (j := 0) dX12_starves_25 rfl rfl ?_
  refine mm_iload_n (pc := 26) (j := 1) dX12_starves_26 rfl rfl ?_
  refine mm_kVI (pc := 27) [.int y1] dX12_starves_27 kX12_462 rfl sh_164 (Nat.le_of_ble_eq_true rfl) (Nat.le_of_ble_eq_true rfl) h (fun z27 m27 hG h => ?_)
  refine mm_if_eq (pc := 30) (tgt := 61) dX12_starves_30 (by decide) (fun hc => ?_) (fun hc => ?_)
  · have h := mm_ift hc h
    exact h
  · have h := mm_iff hc h
    refine mm_iload_n (pc := 33) (j := 2) dX12_starves_33 rfl rfl ?_
    refine mm_bipush (pc := 34) (x := 60) dX12_starves_34 rfl ?_
    refine mm_icmp_ge (pc := 36) (tgt := 61) dX12_starves_36 (by decide) (fun hc => ?_) (fun hc => ?_)
    · have h := mm_ift hc h
      exact h
    · have h := mm_iff hc h
      refine mm_aload_n (pc := 39) (j := 0) dX12_starves_39 rfl rfl ?_
      refine mm_getR (pc := 40) (ci := 12) (N := 116) (r := 199) dX12_starves_40 fX12_118 sh_164 rfl (g_164_50 hG) ?_
      refine mm_iconst (pc := 43) (x := 0) dX12_starves_43 rfl ?_
      refine mm_iaload (pc := 44) (N := 204) dX12_starves_44 sh_199 (mm_vin (k := 0) rfl (by decide) (by decide)) ?_
      refine mm_sipush (pc := 45) (x := 999) dX12_starves_45 rfl ?_
      refine mm_icmp_ge (pc := 48) (tgt := 61) dX12_starves_48 (by decide) (fun hc => ?_) (fun hc => ?_)
      · have h := mm_ift hc h
        exact h
      · have h := mm_iff hc h
        refine mm_aload_n (pc := 51) (j := 0) dX12_starves_51 rfl rfl ?_
        refine mm_kVV (pc := 52) [] dX12_starves_52 kX12_516 rfl sh_164 (Nat.le_of_ble_eq_true rfl) (Nat.le_of_ble_eq_true rfl) h (fun m52 hG h => ?_)
        refine mm_iinc (pc := 55) (j := 2) (v := y2 + 1) (lv' := [(2, .int (y2 + 1)), (0, .ref 164), (1, .int y1)]) dX12_starves_55 rfl rfl (by decide) rfl ?_
        refine mm_goto (pc := 58) (tgt := 25) dX12_starves_58 (by decide) ?_
        exact mm_sub [1, 2, 0] rfl h
set_option maxRecDepth 100000 in
set_option maxHeartbeats 4000000 in
theorem lX12_starves_61 {d : Nat} {x1 : Int32} {M : mm_M} {K : Int32 → mm_M → Prop} {y1 : Int32} {y2 : Int32} (hG : mm_G M.2.2) (h : mm_CI mX12_isThere d [.ref 164, .int y1] M (fun z63 m63 => if z63 = 0 then (mm_CV mX12_takesBack d [.ref 164] m63 (fun m76 => K (y2 - 1) m76)) else (mm_CV mX12_takesBack d [.ref 164] m63 (fun m76 => K (-1) m76)))) : jX12_starves_61 d x1 M K y1 y2 := by
  unfold jX12_starves_61
  refine mm_aload_n (pc := 61) (j := 0) dX12_starves_61 rfl rfl ?_
  refine mm_iload_n (pc := 62) (j := 1) dX12_starves_62 rfl rfl ?_
  refine mm_kVI (pc := 63) [.int y1] dX12_starves_63 kX12_462 rfl sh_164 (Nat.le_of_ble_eq_true rfl) (Nat.le_of_ble_eq_true rfl) h (fun z63 m63 hG h => ?_)
  refine mm_if_ne (pc := 66) (tgt := 73) dX12_starves_66 (by decide) (fun hc => ?_) (fun hc => ?_)
  · have h := mm_iff hc h
    refine mm_iconst (pc := 73) (x := 0) dX12_starves_73 rfl ?_
    refine mm_istore_n (pc := 74) (lv' := [(3, .int 0), (0, .ref 164), (1, .int y1), (2, .int y2)]) dX12_starves_74 rfl (by decide) rfl ?_
    refine mm_aload_n (pc := 75) (j := 1) dX12_starves_75 rfl rfl ?_
    refine mm_kVV (pc := 76) [] dX12_starves_76 kX12_547 rfl sh_164 (Nat.le_of_ble_eq_true rfl) (Nat.le_of_ble_eq_true rfl) h (fun m76 hG h => ?_)
    refine mm_iload_n (pc := 79) (j := 0) dX12_starves_79 rfl rfl ?_
    refine mm_if_eq (pc := 80) (tgt := 89) dX12_starves_80 (by decide) (fun hc => ?_) (fun hc => ?_)
    · refine mm_iconst (pc := 89) (x := (-1)) dX12_starves_89 rfl ?_
      exact mm_iret (pc := 90) dX12_starves_90 rfl (Nat.le_refl 0) (Nat.le_refl 0) ⟨_, rfl, rfl, hG, h⟩
    · exact absurd hc (by decide)
  · have h := mm_ift hc h
    refine mm_iconst (pc := 69) (x := 1) dX12_starves_69 rfl ?_
    refine mm_goto (pc := 70) (tgt := 74) dX12_starves_70 (by decide) ?_
    refine mm_istore_n (pc := 74) (lv' := [(3, .int 1), (0, .ref 164), (1, .int y1), (2, .int y2)]) dX12_starves_74 rfl (by decide) rfl ?_
    refine mm_aload_n (pc := 75) (j := 1) dX12_starves_75 rfl rfl ?_
    refine mm_kVV (pc := 76) [] dX12_starves_76 kX12_547 rfl sh_164 (Nat.le_of_ble_eq_true rfl) (Nat.le_of_ble_eq_true rfl) h (fun m76 hG h => ?_)
    refine mm_iload_n (pc := 79) (j := 0) dX12_starves_79 rfl rfl ?_
    refine mm_if_eq (pc := 80) (tgt := 89) dX12_starves_80 (by decide) (fun hc => ?_) (fun hc => ?_)
    · exact absurd hc (by decide)
    · refine mm_iload_n (pc := 83) (j := 3) dX12_starves_83 rfl rfl ?_
      refine mm_iconst (pc := 84) (x := 1) dX12_starves_84 rfl ?_
      refine mm_isub (pc := 85) dX12_starves_85 ?_
      refine mm_goto (pc := 86) (tgt := 90) dX12_starves_86 (by decide) ?_
      exact mm_iret (pc := 90) dX12_starves_90 rfl (Nat.le_refl 0) (Nat.le_refl 0) ⟨_, rfl, rfl, hG, h⟩
