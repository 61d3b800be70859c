def jX5_value_28 (d : Nat) (r1 : Nat) (n1 : Nat) (x2 : Int32) (x3 : Int32) (M : mm_M) (K : Int32 → mm_M → Prop) (y4 : Int32) (y5 : Int32) (y6 : Int32) : Prop := mm_W mX5_value (d + 1) 0 0 28 [(0, .ref 30), (1, .ref r1), (4, .int y4), (5, .int y5), (6, .int y6)] [] mm_SH M 0 0 (mm_PI K)
set_option maxRecDepth 100000 in
set_option maxHeartbeats 4000000 in
theorem rX5_value {d : Nat} {r1 : Nat} {n1 : Nat} {x2 : Int32} {x3 : Int32} {M : mm_M} {K : Int32 → mm_M → Prop} (hr1 : mm_SH[r1]? = some (0, n1)) (hG : mm_G M.2.2) (h : if (nI n1) ≤ x3 then (if 0 ≤ x2 then (jX5_value_28 d r1 n1 x2 x3 M K 0 (nI n1) x2) else (jX5_value_28 d r1 n1 x2 x3 M K 0 (nI n1) 0)) else (if 0 ≤ x2 then (jX5_value_28 d r1 n1 x2 x3 M K 0 x3 x2) else (jX5_value_28 d r1 n1 x2 x3 M K 0 x3 0))) : mm_CI mX5_value (d + 1) [.ref 30, .ref r1, .int x2, .int x3] M K := by
  show mm_W mX5_value (d + 1) 0 0 0 [(0, .ref 30), (1, .ref r1), (2, .int x2), (3, .int x3)] [] mm_SH M 0 0 (mm_PI K)
  refine mm_iconst (pc := 0) (x := 0) dX5_value_0 rfl ?_
  refine mm_istore (pc := 1) (lv' := [(4, .int 0), (0, .ref 30), (1, .ref r1), (2, .int x2), (3, .int x3)]) dX5_value_1 (by decide) rfl ?_
  refine mm_iload_n (pc := 3) (j := 4) dX5_value_3 rfl rfl ?_
  refine mm_aload_n (pc := 4) (j := 2) dX5_value_4 rfl rfl ?_
  refine mm_alen (pc := 5) (t := 0) (N := n1) dX5_value_5 hr1 (by decide) ?_
  refine mm_icmp_ge (pc := 6) (tgt := 13) dX5_value_6 (by decide) (fun hc => ?_) (fun hc => ?_)
  · have h := mm_ift hc h
    refine mm_aload_n (pc := 13) (j := 2) dX5_value_13 rfl rfl ?_
    refine mm_alen (pc := 14) (t := 0) (N := n1) dX5_value_14 hr1 (by decide) ?_
    refine mm_istore (pc := 15) (lv' := [(5, .int (nI n1)), (4, .int 0), (0, .ref 30), (1, .ref r1), (2, .int x2), (3, .int x3)]) dX5_value_15 (by decide) rfl ?_
    refine mm_iload_n (pc := 17) (j := 4) dX5_value_17 rfl rfl ?_
    refine mm_if_ge (pc := 18) (tgt := 25) dX5_value_18 (by decide) (fun hc => ?_) (fun hc => ?_)
    · have h := mm_ift hc h
      refine mm_iload_n (pc := 25) (j := 4) dX5_value_25 rfl rfl ?_
      refine mm_istore (pc := 26) (lv' := [(6, .int x2), (5, .int (nI n1)), (4, .int 0), (0, .ref 30), (1, .ref r1), (2, .int x2), (3, .int x3)]) dX5_value_26 (by decide) rfl ?_
      exact mm_sub [3, 4, 2, 1, 0] rfl h
    · have h := mm_iff hc h
      refine mm_iconst (pc := 21) (x := 0) dX5_value_21 rfl ?_
      refine mm_goto (pc := 22) (tgt := 26) dX5_value_22 (by decide) ?_
      refine mm_istore (pc := 26) (lv' := [(6, .int 0), (5, .int (nI n1)), (4, .int 0), (0, .ref 30), (1, .ref r1), (2, .int x2), (3, .int x3)]) dX5_value_26 (by decide) rfl ?_
      exact mm_sub [3, 4, 2, 1, 0] rfl h
  · have h := mm_iff hc h
    refine mm_iload_n (pc := 9) (j := 4) dX5_value_9 rfl rfl ?_
    refine mm_goto (pc := 10) (tgt := 15) dX5_value_10 (by decide) ?_
    refine mm_istore (pc := 15) (lv' := [(5, .int x3), (4, .int 0), (0, .ref 30), (1, .ref r1), (2, .int x2), (3, .int x3)]) dX5_value_15 (by decide) rfl ?_
    refine mm_iload_n (pc := 17) (j := 4) dX5_value_17 rfl rfl ?_
    refine mm_if_ge (pc := 18) (tgt := 25) dX5_value_18 (by decide) (fun hc => ?_) (fun hc => ?_)
    · have h := mm_ift hc h
      refine mm_iload_n (pc := 25) (j := 4) dX5_value_25 rfl rfl ?_
      refine mm_istore (pc := 26) (lv' := [(6, .int x2), (5, .int x3), (4, .int 0), (0, .ref 30), (1, .ref r1), (2, .int x2), (3, .int x3)]) dX5_value_26 (by decide) rfl ?_
      exact mm_sub [3, 4, 2, 1, 0] rfl h
    · have h := mm_iff hc h
      refine mm_iconst (pc := 21) (x := 0) dX5_value_21 rfl ?_
      refine mm_goto (pc := 22) (tgt := 26) dX5_value_22 (by decide) ?_
      refine mm_istore (pc := 26) (lv' := [(6, .int 0), (5, .int x3), (4, .int 0), (0, .ref 30), (1, .ref r1), (2, .int x2), (3, .int x3)]) dX5_value_26 (by decide) rfl ?_
      exact mm_sub [3, 4, 2, 1, 0] rfl h
set_option maxRecDepth 100000 in
set_option maxHeartbeats 4000000 in
theorem lX5_value_28 {d : Nat} {r1 : Nat} {n1 : Nat} {x2 : Int32} {x3 : Int32} {M : mm_M} {K : Int32 → mm_M → Prop} {y4 : Int32} {y5 : Int32} {y6 : Int32} (hr1 : mm_SH[r1]? = some (0, n1)) (hG : mm_G M.2.2) (h : if y5 ≤ y6 then (if y4 ≤ 0 then (K 0 M) else (vp_in (y4 - 1) 64 ∧ K (M.1 34 (y4 - 1).toNatClampNeg) M)) else (vp_in y6 n1 ∧ if (M.1 r1 y6.toNatClampNeg) < 10000 then (if (M.1 r1 y6.toNatClampNeg) < 0 then (if (-12) < (M.1 r1 y6.toNatClampNeg) then (if y4 ≤ 1 then (jX5_value_28 d r1 n1 x2 x3 M K y4 y5 (y6 + 1)) else (vp_in ((y4 + (-1)) - 1) 64 ∧ vp_in (y4 + (-1)) 64 ∧ mm_CI mX5_joined d [.int (M.1 r1 y6.toNatClampNeg), .int (M.1 34 ((y4 + (-1)) - 1).toNatClampNeg), .int (M.1 34 (y4 + (-1)).toNatClampNeg)] M (fun z195 m195 => vp_in ((y4 + (-1)) - 1) 64 ∧ jX5_value_28 d r1 n1 x2 x3 (mm_uI m195 34 ((y4 + (-1)) - 1).toNatClampNeg z195) K (y4 + (-1)) y5 (y6 + 1)))) else (if y4 ≤ 0 then (jX5_value_28 d r1 n1 x2 x3 M K y4 y5 (y6 + 1)) else (vp_in (y4 - 1) 64 ∧ mm_CI mX5_single d [.ref 30, .int (M.1 r1 y6.toNatClampNeg), .int (M.1 34 (y4 - 1).toNatClampNeg)] M (fun z153 m153 => vp_in (y4 - 1) 64 ∧ jX5_value_28 d r1 n1 x2 x3 (mm_uI m153 34 (y4 - 1).toNatClampNeg z153) K y4 y5 (y6 + 1))))) else (if 64 ≤ y4 then (jX5_value_28 d r1 n1 x2 x3 M K y4 y5 (y6 + 1)) else (vp_in y4 64 ∧ jX5_value_28 d r1 n1 x2 x3 (mm_uI M 34 y4.toNatClampNeg (M.1 r1 y6.toNatClampNeg)) K (y4 + 1) y5 (y6 + 1)))) else (if 64 ≤ y4 then (jX5_value_28 d r1 n1 x2 x3 M K y4 y5 (y6 + 1)) else (if (nI 24) ≤ ((M.1 r1 y6.toNatClampNeg) - 10000) then (jX5_value_28 d r1 n1 x2 x3 M K y4 y5 (y6 + 1)) else (vp_in ((M.1 r1 y6.toNatClampNeg) - 10000) 24 ∧ vp_in y4 64 ∧ jX5_value_28 d r1 n1 x2 x3 (mm_uI M 34 y4.toNatClampNeg (M.1 31 ((M.1 r1 y6.toNatClampNeg) - 10000).toNatClampNeg)) K (y4 + 1) y5 (y6 + 1)))))) : jX5_value_28 d r1 n1 x2 x3 M K y4 y5 y6 := by
  unfold jX5_value_28
  refine mm_iload (pc := 28) (j := 4) dX5_value_28 rfl ?_
  refine mm_iload (pc := 30) (j := 3) dX5_value_30 rfl ?_
  refine mm_icmp_ge (pc := 32) (tgt := 205) dX5_value_32 (by decide) (fun hc => ?_) (fun hc => ?_)
  · have h := mm_ift hc h
    refine mm_iload (pc := 205) (j := 2) dX5_value_205 rfl ?_
    refine mm_if_le (pc := 207) (tgt := 222) dX5_value_207 (by decide) (fun hc => ?_) (fun hc => ?_)
    · have h := mm_ift hc h
      refine mm_iconst (pc := 222) (x := 0) dX5_value_222 rfl ?_
      exact mm_iret (pc := 223) dX5_value_223 rfl (Nat.le_refl 0) (Nat.le_refl 0) ⟨_, rfl, rfl, hG, h⟩
    · have h := mm_iff hc h
      refine mm_aload_n (pc := 210) (j := 0) dX5_value_210 rfl rfl ?_
      refine mm_getR (pc := 211) (ci := 5) (N := 4) (r := 34) dX5_value_211 fX5_23 sh_30 rfl (g_30_3 hG) ?_
      refine mm_iload (pc := 214) (j := 2) dX5_value_214 rfl ?_
      refine mm_iconst (pc := 216) (x := 1) dX5_value_216 rfl ?_
      refine mm_isub (pc := 217) dX5_value_217 ?_
      obtain ⟨hi218, h⟩ := h
      refine mm_iaload (pc := 218) (N := 64) dX5_value_218 sh_34 hi218 ?_
      refine mm_goto (pc := 219) (tgt := 223) dX5_value_219 (by decide) ?_
      exact mm_iret (pc := 223) dX5_value_223 rfl (Nat.le_refl 0) (Nat.le_refl 0) ⟨_, rfl, rfl, hG, h⟩
  · have h := mm_iff hc h
    refine mm_aload_n (pc := 35) (j := 1) dX5_value_35 rfl rfl ?_
    refine mm_iload (pc := 36) (j := 4) dX5_value_36 rfl ?_
    obtain ⟨hi38, h⟩ := h
    refine mm_iaload (pc := 38) (N := n1) dX5_value_38 hr1 hi38 ?_
    refine mm_istore (pc := 39) (lv' := [(7, .int (M.1 r1 y6.toNatClampNeg)), (0, .ref 30), (1, .ref r1), (4, .int y4), (5, .int y5), (6, .int y6)]) dX5_value_39 (by decide) rfl ?_
    refine mm_iload (pc := 41) (j := 0) dX5_value_41 rfl ?_
    refine mm_sipush (pc := 43) (x := 10000) dX5_value_43 rfl ?_
    refine mm_icmp_lt (pc := 46) (tgt := 94) dX5_value_46 (by decide) (fun hc => ?_) (fun hc => ?_)
    · have h := mm_ift hc h
      refine mm_iload (pc := 94) (j := 0) dX5_value_94 rfl ?_
      refine mm_if_lt (pc := 96) (tgt := 121) dX5_value_96 (by decide) (fun hc => ?_) (fun hc => ?_)
      · have h := mm_ift hc h
        refine mm_iload (pc := 121) (j := 0) dX5_value_121 rfl ?_
        refine mm_bipush (pc := 123) (x := (-12)) dX5_value_123 rfl ?_
        refine mm_icmp_gt (pc := 125) (tgt := 160) dX5_value_125 (by decide) (fun hc => ?_) (fun hc => ?_)
        · have h := mm_ift hc h
          refine mm_iload (pc := 160) (j := 3) dX5_value_160 rfl ?_
          refine mm_iconst (pc := 162) (x := 1) dX5_value_162 rfl ?_
          refine mm_icmp_le (pc := 163) (tgt := 199) dX5_value_163 (by decide) (fun hc => ?_) (fun hc => ?_)
          · have h := mm_ift hc h
            refine mm_iinc (pc := 199) (j := 5) (v := y6 + 1) (lv' := [(6, .int (y6 + 1)), (7, .int (M.1 r1 y6.toNatClampNeg)), (0, .ref 30), (1, .ref r1), (4, .int y4), (5, .int y5)]) dX5_value_199 rfl rfl (by decide) rfl ?_
            refine mm_goto (pc := 202) (tgt := 28) dX5_value_202 (by decide) ?_
            exact mm_sub [2, 3, 4, 5, 0] rfl h
          · have h := mm_iff hc h
            refine mm_iinc (pc := 166) (j := 3) (v := y4 + (-1)) (lv' := [(4, .int (y4 + (-1))), (7, .int (M.1 r1 y6.toNatClampNeg)), (0, .ref 30), (1, .ref r1), (5, .int y5), (6, .int y6)]) dX5_value_166 rfl rfl (by decide) rfl ?_
            refine mm_aload_n (pc := 169) (j := 2) dX5_value_169 rfl rfl ?_
            refine mm_getR (pc := 170) (ci := 5) (N := 4) (r := 34) dX5_value_170 fX5_23 sh_30 rfl (g_30_3 hG) ?_
            refine mm_iload (pc := 173) (j := 0) dX5_value_173 rfl ?_
            refine mm_iconst (pc := 175) (x := 1) dX5_value_175 rfl ?_
            refine mm_isub (pc := 176) dX5_value_176 ?_
            refine mm_iload (pc := 177) (j := 1) dX5_value_177 rfl ?_
            refine mm_aload_n (pc := 179) (j := 2) dX5_value_179 rfl rfl ?_
            refine mm_getR (pc := 180) (ci := 5) (N := 4) (r := 34) dX5_value_180 fX5_23 sh_30 rfl (g_30_3 hG) ?_
            refine mm_iload (pc := 183) (j := 0) dX5_value_183 rfl ?_
            refine mm_iconst (pc := 185) (x := 1) dX5_value_185 rfl ?_
            refine mm_isub (pc := 186) dX5_value_186 ?_
            obtain ⟨hi187, h⟩ := h
            refine mm_iaload (pc := 187) (N := 64) dX5_value_187 sh_34 hi187 ?_
            refine mm_aload_n (pc := 188) (j := 2) dX5_value_188 rfl rfl ?_
            refine mm_getR (pc := 189) (ci := 5) (N := 4) (r := 34) dX5_value_189 fX5_23 sh_30 rfl (g_30_3 hG) ?_
            refine mm_iload (pc := 192) (j := 0) dX5_value_192 rfl ?_
            obtain ⟨hi194, h⟩ := h
            refine mm_iaload (pc := 194) (N := 64) dX5_value_194 sh_34 hi194 ?_
            refine mm_kSI (pc := 195) [.int (M.1 r1 y6.toNatClampNeg), .int (M.1 34 ((y4 + (-1)) - 1).toNatClampNeg), .int (M.1 34 (y4 + (-1)).toNatClampNeg)] dX5_value_195 kX5_30 rfl (Nat.le_of_ble_eq_true rfl) (Nat.le_of_ble_eq_true rfl) h (fun z195 m195 hG h => ?_)
            obtain ⟨hi198, h⟩ := h
            refine mm_iastore (pc := 198) (N := 64) dX5_value_198 sh_34 hi198 ?_
            refine mm_iinc (pc := 199) (j := 5) (v := y6 + 1) (lv' := [(6, .int (y6 + 1)), (4, .int (y4 + (-1))), (7, .int (M.1 r1 y6.toNatClampNeg)), (0, .ref 30), (1, .ref r1), (5, .int y5)]) dX5_value_199 rfl rfl (by decide) rfl ?_
            refine mm_goto (pc := 202) (tgt := 28) dX5_value_202 (by decide) ?_
            exact mm_sub [3, 4, 1, 5, 0] rfl h
        · have h := mm_iff hc h
          refine mm_iload (pc := 128) (j := 3) dX5_value_128 rfl ?_
          refine mm_if_le (pc := 130) (tgt := 199) dX5_value_130 (by decide) (fun hc => ?_) (fun hc => ?_)
          · have h := mm_ift hc h
            refine mm_iinc (pc := 199) (j := 5) (v := y6 + 1) (lv' := [(6, .int (y6 + 1)), (7, .int (M.1 r1 y6.toNatClampNeg)), (0, .ref 30), (1, .ref r1), (4, .int y4), (5, .int y5)]) dX5_value_199 rfl rfl (by decide) rfl ?_
            refine mm_goto (pc := 202) (tgt := 28) dX5_value_202 (by decide) ?_
            exact mm_sub [2, 3, 4, 5, 0] rfl h
          · have h := mm_iff hc h
            refine mm_aload_n (pc := 133) (j := 1) dX5_value_133 rfl rfl ?_
            refine mm_getR (pc := 134) (ci := 5) (N := 4) (r := 34) dX5_value_134 fX5_23 sh_30 rfl (g_30_3 hG) ?_
            refine mm_iload (pc := 137) (j := 3) dX5_value_137 rfl ?_
            refine mm_iconst (pc := 139) (x := 1) dX5_value_139 rfl ?_
            refine mm_isub (pc := 140) dX5_value_140 ?_
            refine mm_aload_n (pc := 141) (j := 1) dX5_value_141 rfl rfl ?_
            refine mm_iload (pc := 142) (j := 0) dX5_value_142 rfl ?_
            refine mm_aload_n (pc := 144) (j := 1) dX5_value_144 rfl rfl ?_
            refine mm_getR (pc := 145) (ci := 5) (N := 4) (r := 34) dX5_value_145 fX5_23 sh_30 rfl (g_30_3 hG) ?_
            refine mm_iload (pc := 148) (j := 3) dX5_value_148 rfl ?_
            refine mm_iconst (pc := 150) (x := 1) dX5_value_150 rfl ?_
            refine mm_isub (pc := 151) dX5_value_151 ?_
            obtain ⟨hi152, h⟩ := h
            refine mm_iaload (pc := 152) (N := 64) dX5_value_152 sh_34 hi152 ?_
            refine mm_kVI (pc := 153) [.int (M.1 r1 y6.toNatClampNeg), .int (M.1 34 (y4 - 1).toNatClampNeg)] dX5_value_153 kX5_26 rfl sh_30 (Nat.le_of_ble_eq_true rfl) (Nat.le_of_ble_eq_true rfl) h (fun z153 m153 hG h => ?_)
            obtain ⟨hi156, h⟩ := h
            refine mm_iastore (pc := 156) (N := 64) dX5_value_156 sh_34 hi156 ?_
            refine mm_goto (pc := 157) (tgt := 199) dX5_value_157 (by decide) ?_
            refine mm_iinc (pc := 199) (j := 5) (v := y6 + 1) (lv' := [(6, .int (y6 + 1)), (7, .int (M.1 r1 y6.toNatClampNeg)), (0, .ref 30), (1, .ref r1), (4, .int y4), (5, .int y5)]) dX5_value_199 rfl rfl (by decide) rfl ?_
            refine mm_goto (pc := 202) (tgt := 28) dX5_value_202 (by decide) ?_
            exact mm_sub [2, 3, 4, 5, 0] rfl h
      · have h := mm_iff hc h
        refine mm_iload (pc := 99) (j := 3) dX5_value_99 rfl ?_
        refine mm_bipush (pc := 101) (x := 64) dX5_value_101 rfl ?_
        refine mm_icmp_ge (pc := 103) (tgt := 199) dX5_value_103 (by decide) (fun hc => ?_) (fun hc => ?_)
        · have h := mm_ift hc h
          refine mm_iinc (pc := 199) (j := 5) (v := y6 + 1) (lv' := [(6, .int (y6 + 1)), (7, .int (M.1 r1 y6.toNatClampNeg)), (0, .ref 30), (1, .ref r1), (4, .int y4), (5, .int y5)]) dX5_value_199 rfl rfl (by decide) rfl ?_
          refine mm_goto (pc := 202) (tgt := 28) dX5_value_202 (by decide) ?_
          exact mm_sub [2, 3, 4, 5, 0] rfl h
        · have h := mm_iff hc h
          refine mm_aload_n (pc := 106) (j := 1) dX5_value_106 rfl rfl ?_
          refine mm_getR (pc := 107) (ci := 5) (N := 4) (r := 34) dX5_value_107 fX5_23 sh_30 rfl (g_30_3 hG) ?_
          refine mm_iload (pc := 110) (j := 3) dX5_value_110 rfl ?_
          refine mm_iload (pc := 112) (j := 0) dX5_value_112 rfl ?_
          obtain ⟨hi114, h⟩ := h
          refine mm_iastore (pc := 114) (N := 64) dX5_value_114 sh_34 hi114 ?_
          refine mm_iinc (pc := 115) (j := 3) (v := y4 + 1) (lv' := [(4, .int (y4 + 1)), (7, .int (M.1 r1 y6.toNatClampNeg)), (0, .ref 30), (1, .ref r1), (5, .int y5), (6, .int y6)]) dX5_value_115 rfl rfl (by decide) rfl ?_
          refine mm_goto (pc := 118) (tgt := 199) dX5_value_118 (by decide) ?_
          refine mm_iinc (pc := 199) (j := 5) (v := y6 + 1) (lv' := [(6, .int (y6 + 1)), (4, .int (y4 + 1)), (7, .int (M.1 r1 y6.toNatClampNeg)), (0, .ref 30), (1, .ref r1), (5, .int y5)]) dX5_value_199 rfl rfl (by decide) rfl ?_
          refine mm_goto (pc := 202) (tgt := 28) dX5_value_202 (by decide) ?_
          exact mm_sub [3, 4, 1, 5, 0] rfl h
    · have h := mm_iff hc h
      refine mm_iload (pc := 49) (j := 0) dX5_value_49 rfl ?_
      refine mm_sipush (pc := 51) (x := 10000) dX5_value_51 rfl ?_
      refine mm_isub (pc := 54) dX5_value_54 ?_
      refine mm_istore (pc := 55) (lv' := [(8, .int ((M.1 r1 y6.toNatClampNeg) - 10000)), (7, .int (M.1 r1 y6.toNatClampNeg)), (0, .ref 30), (1, .ref r1), (4, .int y4), (5, .int y5), (6, .int y6)]) dX5_value_55 (by decide) rfl ?_
      refine mm_iload (pc := 57) (j := 4) dX5_value_57 rfl ?_
      refine mm_bipush (pc := 59) (x := 64) dX5_value_59 rfl ?_
      refine mm_icmp_ge (pc := 61) (tgt := 91) dX5_value_61 (by decide) (fun hc => ?_) (fun hc => ?_)
      · have h := mm_ift hc h
        refine mm_goto (pc := 91) (tgt := 199) dX5_value_91 (by decide) ?_
        refine mm_iinc (pc := 199) (j := 6) (v := y6 + 1) (lv' := [(6, .int (y6 + 1)), (8, .int ((M.1 r1 y6.toNatClampNeg) - 10000)), (7, .int (M.1 r1 y6.toNatClampNeg)), (0, .ref 30), (1, .ref r1), (4, .int y4), (5, .int y5)]) dX5_value_199 rfl rfl (by decide) rfl ?_
        refine mm_goto (pc := 202) (tgt := 28) dX5_value_202 (by decide) ?_
        exact mm_sub [3, 4, 5, 6, 0] rfl h
      · have h := mm_iff hc h
        refine mm_iload (pc := 64) (j := 0) dX5_value_64 rfl ?_
        refine mm_aload_n (pc := 66) (j := 2) dX5_value_66 rfl rfl ?_
        refine mm_getR (pc := 67) (ci := 5) (N := 4) (r := 31) dX5_value_67 fX5_11 sh_30 rfl (g_30_0 hG) ?_
        refine mm_alen (pc := 70) (t := 0) (N := 24) dX5_value_70 sh_31 (by decide) ?_
        refine mm_icmp_ge (pc := 71) (tgt := 91) dX5_value_71 (by decide) (fun hc => ?_) (fun hc => ?_)
        · have h := mm_ift hc h
          refine mm_goto (pc := 91) (tgt := 199) dX5_value_91 (by decide) ?_
          refine mm_iinc (pc := 199) (j := 6) (v := y6 + 1) (lv' := [(6, .int (y6 + 1)), (8, .int ((M.1 r1 y6.toNatClampNeg) - 10000)), (7, .int (M.1 r1 y6.toNatClampNeg)), (0, .ref 30), (1, .ref r1), (4, .int y4), (5, .int y5)]) dX5_value_199 rfl rfl (by decide) rfl ?_
          refine mm_goto (pc := 202) (tgt := 28) dX5_value_202 (by decide) ?_
          exact mm_sub [3, 4, 5, 6, 0] rfl h
        · have h := mm_iff hc h
          refine mm_aload_n (pc := 74) (j := 2) dX5_value_74 rfl rfl ?_
          refine mm_getR (pc := 75) (ci := 5) (N := 4) (r := 34) dX5_value_75 fX5_23 sh_30 rfl (g_30_3 hG) ?_
          refine mm_iload (pc := 78) (j := 4) dX5_value_78 rfl ?_
          refine mm_aload_n (pc := 80) (j := 2) dX5_value_80 rfl rfl ?_
          refine mm_getR (pc := 81) (ci := 5) (N := 4) (r := 31) dX5_value_81 fX5_11 sh_30 rfl (g_30_0 hG) ?_
          refine mm_iload (pc := 84) (j := 0) dX5_value_84 rfl ?_
          obtain ⟨hi86, h⟩ := h
          refine mm_iaload (pc := 86) (N := 24) dX5_value_86 sh_31 hi86 ?_
          obtain ⟨hi87, h⟩ := h
          refine mm_iastore (pc := 87) (N := 64) dX5_value_87 sh_34 hi87 ?_
          refine mm_iinc (pc := 88) (j := 4) (v := y4 + 1) (lv' := [(4, .int (y4 + 1)), (8, .int ((M.1 r1 y6.toNatClampNeg) - 10000)), (7, .int (M.1 r1 y6.toNatClampNeg)), (0, .ref 30), (1, .ref r1), (5, .int y5), (6, .int y6)]) dX5_value_88 rfl rfl (by decide) rfl ?_
          refine mm_goto (pc := 91) (tgt := 199) dX5_value_91 (by decide) ?_
          refine mm_iinc (pc := 199) (j := 6) (v := y6 + 1) (lv' := [(6, .int (y6 + 1)), (4, .int (y4 + 1)), (8, .int ((M.1 r1 y6.toNatClampNeg) - 10000)), (7, .int (M.1 r1 y6.toNatClampNeg)), (0, .ref 30), (1, .ref r1), (5, .int y5)]) dX5_value_199 rfl rfl (by decide) rfl ?_
          refine mm_goto (pc := 202) (tgt := 28) dX5_value_202 (by decide) ?_
          exact mm_sub [4, 5, 1, 6, 0] rfl h
def jX5_single_15 (d : Nat) (x1 : Int32) (x2 : Int32) (M : mm_M) (K : Int32 → mm_M → Prop) (y1 : Int32) (y2 : Int32) (u0 : Int32) : Prop := mm_W mX5_single d 0 0 15 [(0, .ref 30), (1, .int y1), (2, .int y2)] [.int u0] mm_SH M 0 0 (mm_PI K)
set_option maxRecDepth 100000 in
set_option maxHeartbeats 4000000 in
theorem rX5_single {d : Nat} {x1 : Int32} {x2 : Int32} {M : mm_M} {K : Int32 → mm_M → Prop} (hG : mm_G M.2.2) (h : if x2 < 0 then (jX5_single_15 d x1 x2 M K x1 x2 0) else (if 7 ≤ x2 then (jX5_single_15 d x1 x2 M K x1 x2 0) else (jX5_single_15 d x1 x2 M K x1 x2 1))) : mm_CI mX5_single d [.ref 30, .int x1, .int x2] M K := by
  show mm_W mX5_single d 0 0 0 [(0, .ref 30), (1, .int x1), (2, .int x2)] [] mm_SH M 0 0 (mm_PI K)
  refine mm_iload_n (pc := 0) (j := 2) dX5_single_0 rfl rfl ?_
  refine mm_if_lt (pc := 1) (tgt := 14) dX5_single_1 (by decide) (fun hc => ?_) (fun hc => ?_)
  · have h := mm_ift hc h
    refine mm_iconst (pc := 14) (x := 0) dX5_single_14 rfl ?_
    exact h
  · have h := mm_iff hc h
    refine mm_iload_n (pc := 4) (j := 2) dX5_single_4 rfl rfl ?_
    refine mm_bipush (pc := 5) (x := 7) dX5_single_5 rfl ?_
    refine mm_icmp_ge (pc := 7) (tgt := 14) dX5_single_7 (by decide) (fun hc => ?_) (fun hc => ?_)
    · have h := mm_ift hc h
      refine mm_iconst (pc := 14) (x := 0) dX5_single_14 rfl ?_
      exact h
    · have h := mm_iff hc h
      refine mm_iconst (pc := 10) (x := 1) dX5_single_10 rfl ?_
      refine mm_goto (pc := 11) (tgt := 15) dX5_single_11 (by decide) ?_
      exact h
set_option maxRecDepth 100000 in
set_option maxHeartbeats 4000000 in
theorem lX5_single_15 {d : Nat} {x1 : Int32} {x2 : Int32} {M : mm_M} {K : Int32 → mm_M → Prop} {y1 : Int32} {y2 : Int32} {u0 : Int32} (hG : mm_G M.2.2) (h : if y1 = (-13) then (if u0 = 0 then (K 0 M) else (vp_in y2 7 ∧ K (M.1 32 y2.toNatClampNeg) M)) else (if y1 = (-12) then (if y2 = 0 then (K 1 M) else (K 0 M)) else (if u0 = 0 then (K (-1) M) else (vp_in y2 7 ∧ K (M.1 33 y2.toNatClampNeg) M)))) : jX5_single_15 d x1 x2 M K y1 y2 u0 := by
  unfold jX5_single_15
  refine mm_istore_n (pc := 15) (lv' := [(3, .int u0), (0, .ref 30), (1, .int y1), (2, .int y2)]) dX5_single_15 rfl (by decide) rfl ?_
  refine mm_iload_n (pc := 16) (j := 2) dX5_single_16 rfl rfl ?_
  by_cases hs17_0 : y1 = (-13)
  · have h := mm_ift hs17_0 h
    refine mm_lookup (pc := 17) (off := 37) (tgt := 54) dX5_single_17 (by decide) (by rw [hs17_0]; rfl) (by decide) ?_
    refine mm_iload_n (pc := 54) (j := 0) dX5_single_54 rfl rfl ?_
    refine mm_if_eq (pc := 55) (tgt := 67) dX5_single_55 (by decide) (fun hc => ?_) (fun hc => ?_)
    · have h := mm_ift hc h
      refine mm_iconst (pc := 67) (x := 0) dX5_single_67 rfl ?_
      exact mm_iret (pc := 68) dX5_single_68 rfl (Nat.le_refl 0) (Nat.le_refl 0) ⟨_, rfl, rfl, hG, h⟩
    · have h := mm_iff hc h
      refine mm_aload_n (pc := 58) (j := 1) dX5_single_58 rfl rfl ?_
      refine mm_getR (pc := 59) (ci := 5) (N := 4) (r := 32) dX5_single_59 fX5_17 sh_30 rfl (g_30_1 hG) ?_
      refine mm_iload_n (pc := 62) (j := 3) dX5_single_62 rfl rfl ?_
      obtain ⟨hi63, h⟩ := h
      refine mm_iaload (pc := 63) (N := 7) dX5_single_63 sh_32 hi63 ?_
      refine mm_goto (pc := 64) (tgt := 68) dX5_single_64 (by decide) ?_
      exact mm_iret (pc := 68) dX5_single_68 rfl (Nat.le_refl 0) (Nat.le_refl 0) ⟨_, rfl, rfl, hG, h⟩
  · have h := mm_iff hs17_0 h
    by_cases hs17_1 : y1 = (-12)
    · have h := mm_ift hs17_1 h
      refine mm_lookup (pc := 17) (off := 27) (tgt := 44) dX5_single_17 (by decide) (by rw [hs17_1]; rfl) (by decide) ?_
      refine mm_iload_n (pc := 44) (j := 3) dX5_single_44 rfl rfl ?_
      refine mm_if_ne (pc := 45) (tgt := 52) dX5_single_45 (by decide) (fun hc => ?_) (fun hc => ?_)
      · have h := mm_iff hc h
        refine mm_iconst (pc := 52) (x := 0) dX5_single_52 rfl ?_
        exact mm_iret (pc := 53) dX5_single_53 rfl (Nat.le_refl 0) (Nat.le_refl 0) ⟨_, rfl, rfl, hG, h⟩
      · have h := mm_ift hc h
        refine mm_iconst (pc := 48) (x := 1) dX5_single_48 rfl ?_
        refine mm_goto (pc := 49) (tgt := 53) dX5_single_49 (by decide) ?_
        exact mm_iret (pc := 53) dX5_single_53 rfl (Nat.le_refl 0) (Nat.le_refl 0) ⟨_, rfl, rfl, hG, h⟩
    · have h := mm_iff hs17_1 h
      refine mm_lookup (pc := 17) (off := 52) (tgt := 69) dX5_single_17 (by decide) (by show Op.lookupswitch.offset [(-13, 37), (-12, 27)] 52 (y1).toInt = 52; rw [lv_osw (a := -13) hs17_0 rfl]; rw [lv_osw (a := -12) hs17_1 rfl]; rfl) (by decide) ?_
      refine mm_iload_n (pc := 69) (j := 0) dX5_single_69 rfl rfl ?_
      refine mm_if_eq (pc := 70) (tgt := 82) dX5_single_70 (by decide) (fun hc => ?_) (fun hc => ?_)
      · have h := mm_ift hc h
        refine mm_iconst (pc := 82) (x := (-1)) dX5_single_82 rfl ?_
        exact mm_iret (pc := 83) dX5_single_83 rfl (Nat.le_refl 0) (Nat.le_refl 0) ⟨_, rfl, rfl, hG, h⟩
      · have h := mm_iff hc h
        refine mm_aload_n (pc := 73) (j := 1) dX5_single_73 rfl rfl ?_
        refine mm_getR (pc := 74) (ci := 5) (N := 4) (r := 33) dX5_single_74 fX5_20 sh_30 rfl (g_30_2 hG) ?_
        refine mm_iload_n (pc := 77) (j := 3) dX5_single_77 rfl rfl ?_
        obtain ⟨hi78, h⟩ := h
        refine mm_iaload (pc := 78) (N := 7) dX5_single_78 sh_33 hi78 ?_
        refine mm_goto (pc := 79) (tgt := 83) dX5_single_79 (by decide) ?_
        exact mm_iret (pc := 83) dX5_single_83 rfl (Nat.le_refl 0) (Nat.le_refl 0) ⟨_, rfl, rfl, hG, h⟩
def jX5_joined_109 (d : Nat) (x0 : Int32) (x1 : Int32) (x2 : Int32) (M : mm_M) (K : Int32 → mm_M → Prop) (y2 : Int32) (u0 : Int32) (u1 : Int32) : Prop := mm_W mX5_joined d 0 0 109 [(2, .int y2)] [.int u0, .int u1] mm_SH M 0 0 (mm_PI K)
def jX5_joined_191 (d : Nat) (x0 : Int32) (x1 : Int32) (x2 : Int32) (M : mm_M) (K : Int32 → mm_M → Prop) (y3 : Int64) : Prop := mm_W mX5_joined d 0 0 191 [(3, .long y3)] [] mm_SH M 0 0 (mm_PI K)
set_option maxRecDepth 100000 in
set_option maxHeartbeats 4000000 in
theorem rX5_joined {d : Nat} {x0 : Int32} {x1 : Int32} {x2 : Int32} {M : mm_M} {K : Int32 → mm_M → Prop} (hG : mm_G M.2.2) (h : if x0 = (-10) then (if x2 ≤ x1 then (K x2 M) else (K x1 M)) else (if x0 = (-9) then (K (x1 ||| x2) M) else (if x0 = (-8) then (K (x1 &&& x2) M) else (if x0 = (-7) then (if x1 = x2 then (K 1 M) else (K 0 M)) else (if x0 = (-6) then (if x1 ≤ x2 then (K 0 M) else (K 1 M)) else (if x0 = (-5) then (if x2 ≤ x1 then (K 0 M) else (K 1 M)) else (if x0 = (-4) then (if x2 = 0 then (K 0 M) else (¬ x2 = 0 ∧ ¬ x2 = 0 ∧ if (x1 - x1 / x2 * x2) = 0 then (K ((x1 / x2) - 0) M) else (if 0 ≤ x1 then (jX5_joined_109 d x0 x1 x2 M K x2 0 (x1 / x2)) else (jX5_joined_109 d x0 x1 x2 M K x2 1 (x1 / x2))))) else (if x0 = (-3) then (jX5_joined_191 d x0 x1 x2 M K (x1.toInt64 * x2.toInt64)) else (if x0 = (-2) then (jX5_joined_191 d x0 x1 x2 M K (x1.toInt64 - x2.toInt64)) else (if x0 = (-1) then (jX5_joined_191 d x0 x1 x2 M K (x1.toInt64 + x2.toInt64)) else (if x1 ≤ x2 then (K x2 M) else (K x1 M)))))))))))) : mm_CI mX5_joined d [.int x0, .int x1, .int x2] M K := by
  show mm_W mX5_joined d 0 0 0 [(0, .int x0), (1, .int x1), (2, .int x2)] [] mm_SH M 0 0 (mm_PI K)
  refine mm_iload_n (pc := 0) (j := 0) dX5_joined_0 rfl rfl ?_
  by_cases hs1_0 : x0 = (-10)
  · have h := mm_ift hs1_0 h
    refine mm_tableIn (pc := 1) (off := 168) (tgt := 169) dX5_joined_1 (by rw [hs1_0]; decide) (by rw [hs1_0]; decide) (by rw [hs1_0]; rfl) (by decide) ?_
    refine mm_iload_n (pc := 169) (j := 1) dX5_joined_169 rfl rfl ?_
    refine mm_iload_n (pc := 170) (j := 2) dX5_joined_170 rfl rfl ?_
    refine mm_icmp_ge (pc := 171) (tgt := 178) dX5_joined_171 (by decide) (fun hc => ?_) (fun hc => ?_)
    · have h := mm_ift hc h
      refine mm_iload_n (pc := 178) (j := 2) dX5_joined_178 rfl rfl ?_
      exact mm_iret (pc := 179) dX5_joined_179 rfl (Nat.le_refl 0) (Nat.le_refl 0) ⟨_, rfl, rfl, hG, h⟩
    · have h := mm_iff hc h
      refine mm_iload_n (pc := 174) (j := 1) dX5_joined_174 rfl rfl ?_
      refine mm_goto (pc := 175) (tgt := 179) dX5_joined_175 (by decide) ?_
      exact mm_iret (pc := 179) dX5_joined_179 rfl (Nat.le_refl 0) (Nat.le_refl 0) ⟨_, rfl, rfl, hG, h⟩
  · have h := mm_iff hs1_0 h
    by_cases hs1_1 : x0 = (-9)
    · have h := mm_ift hs1_1 h
      refine mm_tableIn (pc := 1) (off := 164) (tgt := 165) dX5_joined_1 (by rw [hs1_1]; decide) (by rw [hs1_1]; decide) (by rw [hs1_1]; rfl) (by decide) ?_
      refine mm_iload_n (pc := 165) (j := 1) dX5_joined_165 rfl rfl ?_
      refine mm_iload_n (pc := 166) (j := 2) dX5_joined_166 rfl rfl ?_
      refine mm_ior (pc := 167) dX5_joined_167 ?_
      exact mm_iret (pc := 168) dX5_joined_168 rfl (Nat.le_refl 0) (Nat.le_refl 0) ⟨_, rfl, rfl, hG, h⟩
    · have h := mm_iff hs1_1 h
      by_cases hs1_2 : x0 = (-8)
      · have h := mm_ift hs1_2 h
        refine mm_tableIn (pc := 1) (off := 160) (tgt := 161) dX5_joined_1 (by rw [hs1_2]; decide) (by rw [hs1_2]; decide) (by rw [hs1_2]; rfl) (by decide) ?_
        refine mm_iload_n (pc := 161) (j := 1) dX5_joined_161 rfl rfl ?_
        refine mm_iload_n (pc := 162) (j := 2) dX5_joined_162 rfl rfl ?_
        refine mm_iand (pc := 163) dX5_joined_163 ?_
        exact mm_iret (pc := 164) dX5_joined_164 rfl (Nat.le_refl 0) (Nat.le_refl 0) ⟨_, rfl, rfl, hG, h⟩
      · have h := mm_iff hs1_2 h
        by_cases hs1_3 : x0 = (-7)
        · have h := mm_ift hs1_3 h
          refine mm_tableIn (pc := 1) (off := 149) (tgt := 150) dX5_joined_1 (by rw [hs1_3]; decide) (by rw [hs1_3]; decide) (by rw [hs1_3]; rfl) (by decide) ?_
          refine mm_iload_n (pc := 150) (j := 1) dX5_joined_150 rfl rfl ?_
          refine mm_iload_n (pc := 151) (j := 2) dX5_joined_151 rfl rfl ?_
          refine mm_icmp_ne (pc := 152) (tgt := 159) dX5_joined_152 (by decide) (fun hc => ?_) (fun hc => ?_)
          · have h := mm_iff hc h
            refine mm_iconst (pc := 159) (x := 0) dX5_joined_159 rfl ?_
            exact mm_iret (pc := 160) dX5_joined_160 rfl (Nat.le_refl 0) (Nat.le_refl 0) ⟨_, rfl, rfl, hG, h⟩
          · have h := mm_ift hc h
            refine mm_iconst (pc := 155) (x := 1) dX5_joined_155 rfl ?_
            refine mm_goto (pc := 156) (tgt := 160) dX5_joined_156 (by decide) ?_
            exact mm_iret (pc := 160) dX5_joined_160 rfl (Nat.le_refl 0) (Nat.le_refl 0) ⟨_, rfl, rfl, hG, h⟩
        · have h := mm_iff hs1_3 h
          by_cases hs1_4 : x0 = (-6)
          · have h := mm_ift hs1_4 h
            refine mm_tableIn (pc := 1) (off := 138) (tgt := 139) dX5_joined_1 (by rw [hs1_4]; decide) (by rw [hs1_4]; decide) (by rw [hs1_4]; rfl) (by decide) ?_
            refine mm_iload_n (pc := 139) (j := 1) dX5_joined_139 rfl rfl ?_
            refine mm_iload_n (pc := 140) (j := 2) dX5_joined_140 rfl rfl ?_
            refine mm_icmp_le (pc := 141) (tgt := 148) dX5_joined_141 (by decide) (fun hc => ?_) (fun hc => ?_)
            · have h := mm_ift hc h
              refine mm_iconst (pc := 148) (x := 0) dX5_joined_148 rfl ?_
              exact mm_iret (pc := 149) dX5_joined_149 rfl (Nat.le_refl 0) (Nat.le_refl 0) ⟨_, rfl, rfl, hG, h⟩
            · have h := mm_iff hc h
              refine mm_iconst (pc := 144) (x := 1) dX5_joined_144 rfl ?_
              refine mm_goto (pc := 145) (tgt := 149) dX5_joined_145 (by decide) ?_
              exact mm_iret (pc := 149) dX5_joined_149 rfl (Nat.le_refl 0) (Nat.le_refl 0) ⟨_, rfl, rfl, hG, h⟩
          · have h := mm_iff hs1_4 h
            by_cases hs1_5 : x0 = (-5)
            · have h := mm_ift hs1_5 h
              refine mm_tableIn (pc := 1) (off := 127) (tgt := 128) dX5_joined_1 (by rw [hs1_5]; decide) (by rw [hs1_5]; decide) (by rw [hs1_5]; rfl) (by decide) ?_
              refine mm_iload_n (pc := 128) (j := 1) dX5_joined_128 rfl rfl ?_
              refine mm_iload_n (pc := 129) (j := 2) dX5_joined_129 rfl rfl ?_
              refine mm_icmp_ge (pc := 130) (tgt := 137) dX5_joined_130 (by decide) (fun hc => ?_) (fun hc => ?_)
              · have h := mm_ift hc h
                refine mm_iconst (pc := 137) (x := 0) dX5_joined_137 rfl ?_
                exact mm_iret (pc := 138) dX5_joined_138 rfl (Nat.le_refl 0) (Nat.le_refl 0) ⟨_, rfl, rfl, hG, h⟩
              · have h := mm_iff hc h
                refine mm_iconst (pc := 133) (x := 1) dX5_joined_133 rfl ?_
                refine mm_goto (pc := 134) (tgt := 138) dX5_joined_134 (by decide) ?_
                exact mm_iret (pc := 138) dX5_joined_138 rfl (Nat.le_refl 0) (Nat.le_refl 0) ⟨_, rfl, rfl, hG, h⟩
            · have h := mm_iff hs1_5 h
              by_cases hs1_6 : x0 = (-4)
              · have h := mm_ift hs1_6 h
                refine mm_tableIn (pc := 1) (off := 82) (tgt := 83) dX5_joined_1 (by rw [hs1_6]; decide) (by rw [hs1_6]; decide) (by rw [hs1_6]; rfl) (by decide) ?_
                refine mm_iload_n (pc := 83) (j := 2) dX5_joined_83 rfl rfl ?_
                refine mm_if_ne (pc := 84) (tgt := 91) dX5_joined_84 (by decide) (fun hc => ?_) (fun hc => ?_)
                · have h := mm_iff hc h
                  refine mm_iload_n (pc := 91) (j := 1) dX5_joined_91 rfl rfl ?_
                  refine mm_iload_n (pc := 92) (j := 2) dX5_joined_92 rfl rfl ?_
                  obtain ⟨hz93, h⟩ := h
                  refine mm_idiv (pc := 93) dX5_joined_93 hz93 ?_
                  refine mm_iload_n (pc := 94) (j := 1) dX5_joined_94 rfl rfl ?_
                  refine mm_iload_n (pc := 95) (j := 2) dX5_joined_95 rfl rfl ?_
                  obtain ⟨hz96, h⟩ := h
                  refine mm_irem (pc := 96) dX5_joined_96 hz96 ?_
                  refine mm_if_eq (pc := 97) (tgt := 125) dX5_joined_97 (by decide) (fun hc => ?_) (fun hc => ?_)
                  · have h := mm_ift hc h
                    refine mm_iconst (pc := 125) (x := 0) dX5_joined_125 rfl ?_
                    refine mm_isub (pc := 126) dX5_joined_126 ?_
                    exact mm_iret (pc := 127) dX5_joined_127 rfl (Nat.le_refl 0) (Nat.le_refl 0) ⟨_, rfl, rfl, hG, h⟩
                  · have h := mm_iff hc h
                    refine mm_iload_n (pc := 100) (j := 1) dX5_joined_100 rfl rfl ?_
                    refine mm_if_ge (pc := 101) (tgt := 108) dX5_joined_101 (by decide) (fun hc => ?_) (fun hc => ?_)
                    · have h := mm_ift hc h
                      refine mm_iconst (pc := 108) (x := 0) dX5_joined_108 rfl ?_
                      exact mm_sub [2] rfl h
                    · have h := mm_iff hc h
                      refine mm_iconst (pc := 104) (x := 1) dX5_joined_104 rfl ?_
                      refine mm_goto (pc := 105) (tgt := 109) dX5_joined_105 (by decide) ?_
                      exact mm_sub [2] rfl h
                · have h := mm_ift hc h
                  refine mm_iconst (pc := 87) (x := 0) dX5_joined_87 rfl ?_
                  refine mm_goto (pc := 88) (tgt := 127) dX5_joined_88 (by decide) ?_
                  exact mm_iret (pc := 127) dX5_joined_127 rfl (Nat.le_refl 0) (Nat.le_refl 0) ⟨_, rfl, rfl, hG, h⟩
              · have h := mm_iff hs1_6 h
                by_cases hs1_7 : x0 = (-3)
                · have h := mm_ift hs1_7 h
                  refine mm_tableIn (pc := 1) (off := 73) (tgt := 74) dX5_joined_1 (by rw [hs1_7]; decide) (by rw [hs1_7]; decide) (by rw [hs1_7]; rfl) (by decide) ?_
                  refine mm_iload_n (pc := 74) (j := 1) dX5_joined_74 rfl rfl ?_
                  refine mm_i2l (pc := 75) dX5_joined_75 ?_
                  refine mm_iload_n (pc := 76) (j := 2) dX5_joined_76 rfl rfl ?_
                  refine mm_i2l (pc := 77) dX5_joined_77 ?_
                  refine mm_lmul (pc := 78) dX5_joined_78 ?_
                  refine mm_lstore_n (pc := 79) (lv' := [(3, .long (x1.toInt64 * x2.toInt64)), (0, .int x0), (1, .int x1), (2, .int x2)]) dX5_joined_79 rfl (by decide) rfl ?_
                  refine mm_goto (pc := 80) (tgt := 191) dX5_joined_80 (by decide) ?_
                  exact mm_sub [0] rfl h
                · have h := mm_iff hs1_7 h
                  by_cases hs1_8 : x0 = (-2)
                  · have h := mm_ift hs1_8 h
                    refine mm_tableIn (pc := 1) (off := 64) (tgt := 65) dX5_joined_1 (by rw [hs1_8]; decide) (by rw [hs1_8]; decide) (by rw [hs1_8]; rfl) (by decide) ?_
                    refine mm_iload_n (pc := 65) (j := 1) dX5_joined_65 rfl rfl ?_
                    refine mm_i2l (pc := 66) dX5_joined_66 ?_
                    refine mm_iload_n (pc := 67) (j := 2) dX5_joined_67 rfl rfl ?_
                    refine mm_i2l (pc := 68) dX5_joined_68 ?_
                    refine mm_lsub (pc := 69) dX5_joined_69 ?_
                    refine mm_lstore_n (pc := 70) (lv' := [(3, .long (x1.toInt64 - x2.toInt64)), (0, .int x0), (1, .int x1), (2, .int x2)]) dX5_joined_70 rfl (by decide) rfl ?_
                    refine mm_goto (pc := 71) (tgt := 191) dX5_joined_71 (by decide) ?_
                    exact mm_sub [0] rfl h
                  · have h := mm_iff hs1_8 h
                    by_cases hs1_9 : x0 = (-1)
                    · have h := mm_ift hs1_9 h
                      refine mm_tableIn (pc := 1) (off := 55) (tgt := 56) dX5_joined_1 (by rw [hs1_9]; decide) (by rw [hs1_9]; decide) (by rw [hs1_9]; rfl) (by decide) ?_
                      refine mm_iload_n (pc := 56) (j := 1) dX5_joined_56 rfl rfl ?_
                      refine mm_i2l (pc := 57) dX5_joined_57 ?_
                      refine mm_iload_n (pc := 58) (j := 2) dX5_joined_58 rfl rfl ?_
                      refine mm_i2l (pc := 59) dX5_joined_59 ?_
                      refine mm_ladd (pc := 60) dX5_joined_60 ?_
                      refine mm_lstore_n (pc := 61) (lv' := [(3, .long (x1.toInt64 + x2.toInt64)), (0, .int x0), (1, .int x1), (2, .int x2)]) dX5_joined_61 rfl (by decide) rfl ?_
                      refine mm_goto (pc := 62) (tgt := 191) dX5_joined_62 (by decide) ?_
                      exact mm_sub [0] rfl h
                    · have h := mm_iff hs1_9 h
                      have ht1_0 := lv_neT hs1_0 (show ((-10) : Int32).toInt = -10 from rfl)
                      have ht1_1 := lv_neT hs1_1 (show ((-9) : Int32).toInt = -9 from rfl)
                      have ht1_2 := lv_neT hs1_2 (show ((-8) : Int32).toInt = -8 from rfl)
                      have ht1_3 := lv_neT hs1_3 (show ((-7) : Int32).toInt = -7 from rfl)
                      have ht1_4 := lv_neT hs1_4 (show ((-6) : Int32).toInt = -6 from rfl)
                      have ht1_5 := lv_neT hs1_5 (show ((-5) : Int32).toInt = -5 from rfl)
                      have ht1_6 := lv_neT hs1_6 (show ((-4) : Int32).toInt = -4 from rfl)
                      have ht1_7 := lv_neT hs1_7 (show ((-3) : Int32).toInt = -3 from rfl)
                      have ht1_8 := lv_neT hs1_8 (show ((-2) : Int32).toInt = -2 from rfl)
                      have ht1_9 := lv_neT hs1_9 (show ((-1) : Int32).toInt = -1 from rfl)
                      refine mm_tableOut (pc := 1) (tgt := 180) dX5_joined_1 (by omega) (by decide) ?_
                      refine mm_iload_n (pc := 180) (j := 1) dX5_joined_180 rfl rfl ?_
                      refine mm_iload_n (pc := 181) (j := 2) dX5_joined_181 rfl rfl ?_
                      refine mm_icmp_le (pc := 182) (tgt := 189) dX5_joined_182 (by decide) (fun hc => ?_) (fun hc => ?_)
                      · have h := mm_ift hc h
                        refine mm_iload_n (pc := 189) (j := 2) dX5_joined_189 rfl rfl ?_
                        exact mm_iret (pc := 190) dX5_joined_190 rfl (Nat.le_refl 0) (Nat.le_refl 0) ⟨_, rfl, rfl, hG, h⟩
                      · have h := mm_iff hc h
                        refine mm_iload_n (pc := 185) (j := 1) dX5_joined_185 rfl rfl ?_
                        refine mm_goto (pc := 186) (tgt := 190) dX5_joined_186 (by decide) ?_
                        exact mm_iret (pc := 190) dX5_joined_190 rfl (Nat.le_refl 0) (Nat.le_refl 0) ⟨_, rfl, rfl, hG, h⟩
set_option maxRecDepth 100000 in
set_option maxHeartbeats 4000000 in
theorem lX5_joined_109 {d : Nat} {x0 : Int32} {x1 : Int32} {x2 : Int32} {M : mm_M} {K : Int32 → mm_M → Prop} {y2 : Int32} {u0 : Int32} {u1 : Int32} (hG : mm_G M.2.2) (h : if 0 ≤ y2 then (if u0 = 0 then (K (u1 - 0) M) else (K (u1 - 1) M)) else (if u0 = 1 then (K (u1 - 0) M) else (K (u1 - 1) M))) : jX5_joined_109 d x0 x1 x2 M K y2 u0 u1 := by
  unfold jX5_joined_109
  refine mm_iload_n (pc := 109) (j := 0) dX5_joined_109 rfl rfl ?_
  refine mm_if_ge (pc := 110) (tgt := 117) dX5_joined_110 (by decide) (fun hc => ?_) (fun hc => ?_)
  · have h := mm_ift hc h
    refine mm_iconst (pc := 117) (x := 0) dX5_joined_117 rfl ?_
    refine mm_icmp_eq (pc := 118) (tgt := 125) dX5_joined_118 (by decide) (fun hc => ?_) (fun hc => ?_)
    · have h := mm_ift hc h
      refine mm_iconst (pc := 125) (x := 0) dX5_joined_125 rfl ?_
      refine mm_isub (pc := 126) dX5_joined_126 ?_
      exact mm_iret (pc := 127) dX5_joined_127 rfl (Nat.le_refl 0) (Nat.le_refl 0) ⟨_, rfl, rfl, hG, h⟩
    · have h := mm_iff hc h
      refine mm_iconst (pc := 121) (x := 1) dX5_joined_121 rfl ?_
      refine mm_goto (pc := 122) (tgt := 126) dX5_joined_122 (by decide) ?_
      refine mm_isub (pc := 126) dX5_joined_126 ?_
      exact mm_iret (pc := 127) dX5_joined_127 rfl (Nat.le_refl 0) (Nat.le_refl 0) ⟨_, rfl, rfl, hG, h⟩
  · have h := mm_iff hc h
    refine mm_iconst (pc := 113) (x := 1) dX5_joined_113 rfl ?_
    refine mm_goto (pc := 114) (tgt := 118) dX5_joined_114 (by decide) ?_
    refine mm_icmp_eq (pc := 118) (tgt := 125) dX5_joined_118 (by decide) (fun hc => ?_) (fun hc => ?_)
    · have h := mm_ift hc h
      refine mm_iconst (pc := 125) (x := 0) dX5_joined_125 rfl ?_
      refine mm_isub (pc := 126) dX5_joined_126 ?_
      exact mm_iret (pc := 127) dX5_joined_127 rfl (Nat.le_refl 0) (Nat.le_refl 0) ⟨_, rfl, rfl, hG, h⟩
    · have h := mm_iff hc h
      refine mm_iconst (pc := 121) (x := 1) dX5_joined_121 rfl ?_
      refine mm_goto (pc := 122) (tgt := 126) dX5_joined_122 (by decide) ?_
      refine mm_isub (pc := 126) dX5_joined_126 ?_
      exact mm_iret (pc := 127) dX5_joined_127 rfl (Nat.le_refl 0) (Nat.le_refl 0) ⟨_, rfl, rfl, hG, h⟩
set_option maxRecDepth 100000 in
set_option maxHeartbeats 4000000 in
theorem lX5_joined_191 {d : Nat} {x0 : Int32} {x1 : Int32} {x2 : Int32} {M : mm_M} {K : Int32 → mm_M → Prop} {y3 : Int64} (hG : mm_G M.2.2) (h : if y3 ≤ 1000000 then (if (-1000000) ≤ y3 then (K y3.toInt32 M) else (K (-1000000) M)) else (K 1000000 M)) : jX5_joined_191 d x0 x1 x2 M K y3 := by
  unfold jX5_joined_191
  refine mm_lload_n (pc := 191) (j := 0) dX5_joined_191 rfl rfl ?_
  refine mm_ldc2 (pc := 192) (x := 1000000) dX5_joined_192 cX5_34 ?_
  refine mm_lcmp (pc := 195) dX5_joined_195 ?_
  refine mm_if_le (pc := 196) (tgt := 204) dX5_joined_196 (by decide) (fun hc => ?_) (fun hc => ?_)
  · have h := mm_ift (lgc_le.mp hc) h
    refine mm_lload_n (pc := 204) (j := 0) dX5_joined_204 rfl rfl ?_
    refine mm_ldc2 (pc := 205) (x := (-1000000)) dX5_joined_205 cX5_37 ?_
    refine mm_lcmp (pc := 208) dX5_joined_208 ?_
    refine mm_if_ge (pc := 209) (tgt := 217) dX5_joined_209 (by decide) (fun hc => ?_) (fun hc => ?_)
    · have h := mm_ift (lgc_ge.mp hc) h
      refine mm_lload_n (pc := 217) (j := 0) dX5_joined_217 rfl rfl ?_
      refine mm_l2i (pc := 218) dX5_joined_218 ?_
      exact mm_iret (pc := 219) dX5_joined_219 rfl (Nat.le_refl 0) (Nat.le_refl 0) ⟨_, rfl, rfl, hG, h⟩
    · have h := mm_iff (fun q => hc (lgc_ge.mpr q)) h
      refine mm_ldc (pc := 212) (x := (-1000000)) dX5_joined_212 cX5_39 ?_
      refine mm_goto (pc := 214) (tgt := 219) dX5_joined_214 (by decide) ?_
      exact mm_iret (pc := 219) dX5_joined_219 rfl (Nat.le_refl 0) (Nat.le_refl 0) ⟨_, rfl, rfl, hG, h⟩
  · have h := mm_iff (fun q => hc (lgc_le.mpr q)) h
    refine mm_ldc (pc := 199) (x := 1000000) dX5_joined_199 cX5_36 ?_
    refine mm_goto (pc := 201) (tgt := 219) dX5_joined_201 (by decide) ?_
    exact mm_iret (pc := 219) dX5_joined_219 rfl (Nat.le_refl 0) (Nat.le_refl 0) ⟨_, rfl, rfl, hG, h⟩
