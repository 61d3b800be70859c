def jX5_value_28 (d : Nat) (r1 : Nat) (n1 : Nat) (x2 : Int32) (x3 : Int32) (M : mm_M) (K : Int32 → mm_M → Prop) (y4 : Int32) (y5 : Int32) (y6 : Int32) : Prop := mm_W mX5_value (d + 1) 0 0 28 [(0, .ref 30), (1, .ref r1), (4, .int y4), (5, .int y5), (6, .int y6)] [] mm_SH M 0 0 (mm_PI K)
set_option maxRecDepth 100000 in
set_option maxHeartbeats 4000000 in
theorem rX5_value {d : Nat} {r1 : Nat} {n1 : Nat} {x2 : Int32} {x3 : Int32} {M : mm_M} {K : Int32 → mm_M → Prop} (hr1 : mm_SH[r1]? = some (0, n1)) (hG : mm_G M.2.2) (h : if (nI n1) ≤ x3 then (if 0 ≤ x2 then (jX5_value_28 d r1 n1 x2 x3 M K 0 (nI n1) x2) else (jX5_value_28 d r1 n1 x2 x3 M K 0 (nI n1) 0)) else (if 0 ≤ x2 then (jX5_value_28 d r1 n1 x2 x3 M K 0 x3 x2) else (jX5_value_28 d r1 n1 x2 x3 M K 0 x3 0))) : mm_CI mX5_value (d + 1) [.ref 30, .ref r1, .int x2, .int x3] M K := by
  show mm_W mX5_value (d + 1) 0 0 0 [(0, .ref 30), (1, .ref r1), (2, .int x2), (3, .int x3)] [] mm_SH M 0 0 (mm_PI K)
  refine mm_iconst (x := 0) dX5_value_0 rfl ?_
  refine mm_istore (lv' := [(4, .int 0), (0, .ref 30), (1, .ref r1), (2, .int x2), (3, .int x3)]) dX5_value_1 (by decide) rfl ?_
  refine mm_iload_n (j := 4) dX5_value_3 rfl rfl ?_
  refine mm_aload_n (j := 2) dX5_value_4 rfl rfl ?_
  refine mm_alen (t := 0) (N := n1) dX5_value_5 hr1 (by decide) ?_
  refine mm_icmp_ge (tgt := 13) dX5_value_6 (by decide) (fun hc => ?_) (fun hc => ?_)
  · rw [if_pos hc] at h
    refine mm_aload_n (j := 2) dX5_value_13 rfl rfl ?_
    refine mm_alen (t := 0) (N := n1) dX5_value_14 hr1 (by decide) ?_
    refine mm_istore (lv' := [(5, .int (nI n1)), (4, .int 0), (0, .ref 30), (1, .ref r1), (2, .int x2), (3, .int x3)]) dX5_value_15 (by decide) rfl ?_
    refine mm_iload_n (j := 4) dX5_value_17 rfl rfl ?_
    refine mm_if_ge (tgt := 25) dX5_value_18 (by decide) (fun hc => ?_) (fun hc => ?_)
    · rw [if_pos hc] at h
      refine mm_iload_n (j := 4) dX5_value_25 rfl rfl ?_
      refine mm_istore (lv' := [(6, .int x2), (5, .int (nI n1)), (4, .int 0), (0, .ref 30), (1, .ref r1), (2, .int x2), (3, .int x3)]) dX5_value_26 (by decide) rfl ?_
      exact mm_sub [3, 4, 2, 1, 0] rfl h
    · rw [if_neg hc] at h
      refine mm_iconst (x := 0) dX5_value_21 rfl ?_
      refine mm_goto (tgt := 26) dX5_value_22 (by decide) ?_
      refine mm_istore (lv' := [(6, .int 0), (5, .int (nI n1)), (4, .int 0), (0, .ref 30), (1, .ref r1), (2, .int x2), (3, .int x3)]) dX5_value_26 (by decide) rfl ?_
      exact mm_sub [3, 4, 2, 1, 0] rfl h
  · rw [if_neg hc] at h
    refine mm_iload_n (j := 4) dX5_value_9 rfl rfl ?_
    refine mm_goto (tgt := 15) dX5_value_10 (by decide) ?_
    refine mm_istore (lv' := [(5, .int x3), (4, .int 0), (0, .ref 30), (1, .ref r1), (2, .int x2), (3, .int x3)]) dX5_value_15 (by decide) rfl ?_
    refine mm_iload_n (j := 4) dX5_value_17 rfl rfl ?_
    refine mm_if_ge (tgt := 25) dX5_value_18 (by decide) (fun hc => ?_) (fun hc => ?_)
    · rw [if_pos hc] at h
      refine mm_iload_n (j := 4) dX5_value_25 rfl rfl ?_
      refine mm_istore (lv' := [(6, .int x2), (5, .int x3), (4, .int 0), (0, .ref 30), (1, .ref r1), (2, .int x2), (3, .int x3)]) dX5_value_26 (by decide) rfl ?_
      exact mm_sub [3, 4, 2, 1, 0] rfl h
    · rw [if_neg hc] at h
      refine mm_iconst (x := 0) dX5_value_21 rfl ?_
      refine mm_goto (tgt := 26) dX5_value_22 (by decide) ?_
      refine mm_istore (lv' := [(6, .int 0), (5, .int x3), (4, .int 0), (0, .ref 30), (1, .ref r1), (2, .int x2), (3, .int x3)]) dX5_value_26 (by decide) rfl ?_
      exact mm_sub [3, 4, 2, 1, 0] rfl h
set_option maxRecDepth 100000 in
set_option maxHeartbeats 4000000 in
theorem lX5_value_28 {d : Nat} {r1 : Nat} {n1 : Nat} {x2 : Int32} {x3 : Int32} {M : mm_M} {K : Int32 → mm_M → Prop} {y4 : Int32} {y5 : Int32} {y6 : Int32} (hr1 : mm_SH[r1]? = some (0, n1)) (hG : mm_G M.2.2) (h : if y5 ≤ y6 then (if y4 ≤ 0 then (K 0 M) else (vp_in (y4 - 1) 64 ∧ K (M.1 34 (y4 - 1).toNatClampNeg) M)) else (vp_in y6 n1 ∧ if (M.1 r1 (y6).toNatClampNeg) < 10000 then (if (M.1 r1 (y6).toNatClampNeg) < 0 then (if (-12) < (M.1 r1 (y6).toNatClampNeg) then (if y4 ≤ 1 then (jX5_value_28 d r1 n1 x2 x3 M K y4 y5 (y6 + 1)) else (vp_in ((y4 + (-1)) - 1) 64 ∧ vp_in (y4 + (-1)) 64 ∧ mm_CI mX5_joined d [.int (M.1 r1 (y6).toNatClampNeg), .int (M.1 34 ((y4 + (-1)) - 1).toNatClampNeg), .int (M.1 34 (y4 + (-1)).toNatClampNeg)] M (fun z195 m195 => vp_in ((y4 + (-1)) - 1) 64 ∧ jX5_value_28 d r1 n1 x2 x3 (mm_uI m195 34 ((y4 + (-1)) - 1).toNatClampNeg z195) K (y4 + (-1)) y5 (y6 + 1)))) else (if y4 ≤ 0 then (jX5_value_28 d r1 n1 x2 x3 M K y4 y5 (y6 + 1)) else (vp_in (y4 - 1) 64 ∧ mm_CI mX5_single d [.ref 30, .int (M.1 r1 (y6).toNatClampNeg), .int (M.1 34 (y4 - 1).toNatClampNeg)] M (fun z153 m153 => vp_in (y4 - 1) 64 ∧ jX5_value_28 d r1 n1 x2 x3 (mm_uI m153 34 (y4 - 1).toNatClampNeg z153) K y4 y5 (y6 + 1))))) else (if 64 ≤ y4 then (jX5_value_28 d r1 n1 x2 x3 M K y4 y5 (y6 + 1)) else (vp_in y4 64 ∧ jX5_value_28 d r1 n1 x2 x3 (mm_uI M 34 (y4).toNatClampNeg (M.1 r1 (y6).toNatClampNeg)) K (y4 + 1) y5 (y6 + 1)))) else (if 64 ≤ y4 then (jX5_value_28 d r1 n1 x2 x3 M K y4 y5 (y6 + 1)) else (if (nI 24) ≤ ((M.1 r1 (y6).toNatClampNeg) - 10000) then (jX5_value_28 d r1 n1 x2 x3 M K y4 y5 (y6 + 1)) else (vp_in ((M.1 r1 (y6).toNatClampNeg) - 10000) 24 ∧ vp_in y4 64 ∧ jX5_value_28 d r1 n1 x2 x3 (mm_uI M 34 (y4).toNatClampNeg (M.1 31 ((M.1 r1 (y6).toNatClampNeg) - 10000).toNatClampNeg)) K (y4 + 1) y5 (y6 + 1)))))) : jX5_value_28 d r1 n1 x2 x3 M K y4 y5 y6 := by
  unfold jX5_value_28
  refine mm_iload (j := 4) dX5_value_28 rfl ?_
  refine mm_iload (j := 3) dX5_value_30 rfl ?_
  refine mm_icmp_ge (tgt := 205) dX5_value_32 (by decide) (fun hc => ?_) (fun hc => ?_)
  · rw [if_pos hc] at h
    refine mm_iload (j := 2) dX5_value_205 rfl ?_
    refine mm_if_le (tgt := 222) dX5_value_207 (by decide) (fun hc => ?_) (fun hc => ?_)
    · rw [if_pos hc] at h
      refine mm_iconst (x := 0) dX5_value_222 rfl ?_
      exact mm_iret dX5_value_223 rfl (Nat.le_refl 0) (Nat.le_refl 0) ⟨_, rfl, rfl, hG, h⟩
    · rw [if_neg hc] at h
      refine mm_aload_n (j := 0) dX5_value_210 rfl rfl ?_
      refine mm_getR (ci := 5) (N := 4) (r := 34) dX5_value_211 fX5_23 sh_30 rfl (g_30_3 hG) ?_
      refine mm_iload (j := 2) dX5_value_214 rfl ?_
      refine mm_iconst (x := 1) dX5_value_216 rfl ?_
      refine mm_isub dX5_value_217 ?_
      obtain ⟨hi218, h⟩ := h
      refine mm_iaload (N := 64) dX5_value_218 sh_34 hi218 ?_
      refine mm_goto (tgt := 223) dX5_value_219 (by decide) ?_
      exact mm_iret dX5_value_223 rfl (Nat.le_refl 0) (Nat.le_refl 0) ⟨_, rfl, rfl, hG, h⟩
  · rw [if_neg hc] at h
    refine mm_aload_n (j := 1) dX5_value_35 rfl rfl ?_
    refine mm_iload (j := 4) dX5_value_36 rfl ?_
    obtain ⟨hi38, h⟩ := h
    refine mm_iaload (N := n1) dX5_value_38 hr1 hi38 ?_
    refine mm_istore (lv' := [(7, .int (M.1 r1 (y6).toNatClampNeg)), (0, .ref 30), (1, .ref r1), (4, .int y4), (5, .int y5), (6, .int y6)]) dX5_value_39 (by decide) rfl ?_
    refine mm_iload (j := 0) dX5_value_41 rfl ?_
    refine mm_sipush (x := 10000) dX5_value_43 rfl ?_
    refine mm_icmp_lt (tgt := 94) dX5_value_46 (by decide) (fun hc => ?_) (fun hc => ?_)
    · rw [if_pos hc] at h
      refine mm_iload (j := 0) dX5_value_94 rfl ?_
      refine mm_if_lt (tgt := 121) dX5_value_96 (by decide) (fun hc => ?_) (fun hc => ?_)
      · rw [if_pos hc] at h
        refine mm_iload (j := 0) dX5_value_121 rfl ?_
        refine mm_bipush (x := (-12)) dX5_value_123 rfl ?_
        refine mm_icmp_gt (tgt := 160) dX5_value_125 (by decide) (fun hc => ?_) (fun hc => ?_)
        · rw [if_pos hc] at h
          refine mm_iload (j := 3) dX5_value_160 rfl ?_
          refine mm_iconst (x := 1) dX5_value_162 rfl ?_
          refine mm_icmp_le (tgt := 199) dX5_value_163 (by decide) (fun hc => ?_) (fun hc => ?_)
          · rw [if_pos hc] at h
            refine mm_iinc (j := 5) (v := y6 + 1) (lv' := [(6, .int (y6 + 1)), (7, .int (M.1 r1 (y6).toNatClampNeg)), (0, .ref 30), (1, .ref r1), (4, .int y4), (5, .int y5)]) dX5_value_199 rfl rfl (by decide) rfl ?_
            refine mm_goto (tgt := 28) dX5_value_202 (by decide) ?_
            exact mm_sub [2, 3, 4, 5, 0] rfl h
          · rw [if_neg hc] at h
            refine mm_iinc (j := 3) (v := y4 + (-1)) (lv' := [(4, .int (y4 + (-1))), (7, .int (M.1 r1 (y6).toNatClampNeg)), (0, .ref 30), (1, .ref r1), (5, .int y5), (6, .int y6)]) dX5_value_166 rfl rfl (by decide) rfl ?_
            refine mm_aload_n (j := 2) dX5_value_169 rfl rfl ?_
            refine mm_getR (ci := 5) (N := 4) (r := 34) dX5_value_170 fX5_23 sh_30 rfl (g_30_3 hG) ?_
            refine mm_iload (j := 0) dX5_value_173 rfl ?_
            refine mm_iconst (x := 1) dX5_value_175 rfl ?_
            refine mm_isub dX5_value_176 ?_
            refine mm_iload (j := 1) dX5_value_177 rfl ?_
            refine mm_aload_n (j := 2) dX5_value_179 rfl rfl ?_
            refine mm_getR (ci := 5) (N := 4) (r := 34) dX5_value_180 fX5_23 sh_30 rfl (g_30_3 hG) ?_
            refine mm_iload (j := 0) dX5_value_183 rfl ?_
            refine mm_iconst (x := 1) dX5_value_185 rfl ?_
            refine mm_isub dX5_value_186 ?_
            obtain ⟨hi187, h⟩ := h
            refine mm_iaload (N := 64) dX5_value_187 sh_34 hi187 ?_
            refine mm_aload_n (j := 2) dX5_value_188 rfl rfl ?_
            refine mm_getR (ci := 5) (N := 4) (r := 34) dX5_value_189 fX5_23 sh_30 rfl (g_30_3 hG) ?_
            refine mm_iload (j := 0) dX5_value_192 rfl ?_
            obtain ⟨hi194, h⟩ := h
            refine mm_iaload (N := 64) dX5_value_194 sh_34 hi194 ?_
            refine mm_kSI [.int (M.1 r1 (y6).toNatClampNeg), .int (M.1 34 ((y4 + (-1)) - 1).toNatClampNeg), .int (M.1 34 (y4 + (-1)).toNatClampNeg)] dX5_value_195 kX5_30 rfl (by decide) (by decide) h (fun z195 m195 hG h => ?_)
            obtain ⟨hi198, h⟩ := h
            refine mm_iastore (N := 64) dX5_value_198 sh_34 hi198 ?_
            refine mm_iinc (j := 5) (v := y6 + 1) (lv' := [(6, .int (y6 + 1)), (4, .int (y4 + (-1))), (7, .int (M.1 r1 (y6).toNatClampNeg)), (0, .ref 30), (1, .ref r1), (5, .int y5)]) dX5_value_199 rfl rfl (by decide) rfl ?_
            refine mm_goto (tgt := 28) dX5_value_202 (by decide) ?_
            exact mm_sub [3, 4, 1, 5, 0] rfl h
        · rw [if_neg hc] at h
          refine mm_iload (j := 3) dX5_value_128 rfl ?_
          refine mm_if_le (tgt := 199) dX5_value_130 (by decide) (fun hc => ?_) (fun hc => ?_)
          · rw [if_pos hc] at h
            refine mm_iinc (j := 5) (v := y6 + 1) (lv' := [(6, .int (y6 + 1)), (7, .int (M.1 r1 (y6).toNatClampNeg)), (0, .ref 30), (1, .ref r1), (4, .int y4), (5, .int y5)]) dX5_value_199 rfl rfl (by decide) rfl ?_
            refine mm_goto (tgt := 28) dX5_value_202 (by decide) ?_
            exact mm_sub [2, 3, 4, 5, 0] rfl h
          · rw [if_neg hc] at h
            refine mm_aload_n (j := 1) dX5_value_133 rfl rfl ?_
            refine mm_getR (ci := 5) (N := 4) (r := 34) dX5_value_134 fX5_23 sh_30 rfl (g_30_3 hG) ?_
            refine mm_iload (j := 3) dX5_value_137 rfl ?_
            refine mm_iconst (x := 1) dX5_value_139 rfl ?_
            refine mm_isub dX5_value_140 ?_
            refine mm_aload_n (j := 1) dX5_value_141 rfl rfl ?_
            refine mm_iload (j := 0) dX5_value_142 rfl ?_
            refine mm_aload_n (j := 1) dX5_value_144 rfl rfl ?_
            refine mm_getR (ci := 5) (N := 4) (r := 34) dX5_value_145 fX5_23 sh_30 rfl (g_30_3 hG) ?_
            refine mm_iload (j := 3) dX5_value_148 rfl ?_
            refine mm_iconst (x := 1) dX5_value_150 rfl ?_
            refine mm_isub dX5_value_151 ?_
            obtain ⟨hi152, h⟩ := h
            refine mm_iaload (N := 64) dX5_value_152 sh_34 hi152 ?_
            refine mm_kVI [.int (M.1 r1 (y6).toNatClampNeg), .int (M.1 34 (y4 - 1).toNatClampNeg)] dX5_value_153 kX5_26 rfl sh_30 (by decide) (by decide) h (fun z153 m153 hG h => ?_)
            obtain ⟨hi156, h⟩ := h
            refine mm_iastore (N := 64) dX5_value_156 sh_34 hi156 ?_
            refine mm_goto (tgt := 199) dX5_value_157 (by decide) ?_
            refine mm_iinc (j := 5) (v := y6 + 1) (lv' := [(6, .int (y6 + 1)), (7, .int (M.1 r1 (y6).toNatClampNeg)), (0, .ref 30), (1, .ref r1), (4, .int y4), (5, .int y5)]) dX5_value_199 rfl rfl (by decide) rfl ?_
            refine mm_goto (tgt := 28) dX5_value_202 (by decide) ?_
            exact mm_sub [2, 3, 4, 5, 0] rfl h
      · rw [if_neg hc] at h
        refine mm_iload (j := 3) dX5_value_99 rfl ?_
        refine mm_bipush (x := 64) dX5_value_101 rfl ?_
        refine mm_icmp_ge (tgt := 199) dX5_value_103 (by decide) (fun hc => ?_) (fun hc => ?_)
        · rw [if_pos hc] at h
          refine mm_iinc (j := 5) (v := y6 + 1) (lv' := [(6, .int (y6 + 1)), (7, .int (M.1 r1 (y6).toNatClampNeg)), (0, .ref 30), (1, .ref r1), (4, .int y4), (5, .int y5)]) dX5_value_199 rfl rfl (by decide) rfl ?_
          refine mm_goto (tgt := 28) dX5_value_202 (by decide) ?_
          exact mm_sub [2, 3, 4, 5, 0] rfl h
        · rw [if_neg hc] at h
          refine mm_aload_n (j := 1) dX5_value_106 rfl rfl ?_
          refine mm_getR (ci := 5) (N := 4) (r := 34) dX5_value_107 fX5_23 sh_30 rfl (g_30_3 hG) ?_
          refine mm_iload (j := 3) dX5_value_110 rfl ?_
          refine mm_iload (j := 0) dX5_value_112 rfl ?_
          obtain ⟨hi114, h⟩ := h
          refine mm_iastore (N := 64) dX5_value_114 sh_34 hi114 ?_
          refine mm_iinc (j := 3) (v := y4 + 1) (lv' := [(4, .int (y4 + 1)), (7, .int (M.1 r1 (y6).toNatClampNeg)), (0, .ref 30), (1, .ref r1), (5, .int y5), (6, .int y6)]) dX5_value_115 rfl rfl (by decide) rfl ?_
          refine mm_goto (tgt := 199) dX5_value_118 (by decide) ?_
          refine mm_iinc (j := 5) (v := y6 + 1) (lv' := [(6, .int (y6 + 1)), (4, .int (y4 + 1)), (7, .int (M.1 r1 (y6).toNatClampNeg)), (0, .ref 30), (1, .ref r1), (5, .int y5)]) dX5_value_199 rfl rfl (by decide) rfl ?_
          refine mm_goto (tgt := 28) dX5_value_202 (by decide) ?_
          exact mm_sub [3, 4, 1, 5, 0] rfl h
    · rw [if_neg hc] at h
      refine mm_iload (j := 0) dX5_value_49 rfl ?_
      refine mm_sipush (x := 10000) dX5_value_51 rfl ?_
      refine mm_isub dX5_value_54 ?_
      refine mm_istore (lv' := [(8, .int ((M.1 r1 (y6).toNatClampNeg) - 10000)), (7, .int (M.1 r1 (y6).toNatClampNeg)), (0, .ref 30), (1, .ref r1), (4, .int y4), (5, .int y5), (6, .int y6)]) dX5_value_55 (by decide) rfl ?_
      refine mm_iload (j := 4) dX5_value_57 rfl ?_
      refine mm_bipush (x := 64) dX5_value_59 rfl ?_
      refine mm_icmp_ge (tgt := 91) dX5_value_61 (by decide) (fun hc => ?_) (fun hc => ?_)
      · rw [if_pos hc] at h
        refine mm_goto (tgt := 199) dX5_value_91 (by decide) ?_
        refine mm_iinc (j := 6) (v := y6 + 1) (lv' := [(6, .int (y6 + 1)), (8, .int ((M.1 r1 (y6).toNatClampNeg) - 10000)), (7, .int (M.1 r1 (y6).toNatClampNeg)), (0, .ref 30), (1, .ref r1), (4, .int y4), (5, .int y5)]) dX5_value_199 rfl rfl (by decide) rfl ?_
        refine mm_goto (tgt := 28) dX5_value_202 (by decide) ?_
        exact mm_sub [3, 4, 5, 6, 0] rfl h
      · rw [if_neg hc] at h
        refine mm_iload (j := 0) dX5_value_64 rfl ?_
        refine mm_aload_n (j := 2) dX5_value_66 rfl rfl ?_
        refine mm_getR (ci := 5) (N := 4) (r := 31) dX5_value_67 fX5_11 sh_30 rfl (g_30_0 hG) ?_
        refine mm_alen (t := 0) (N := 24) dX5_value_70 sh_31 (by decide) ?_
        refine mm_icmp_ge (tgt := 91) dX5_value_71 (by decide) (fun hc => ?_) (fun hc => ?_)
        · rw [if_pos hc] at h
          refine mm_goto (tgt := 199) dX5_value_91 (by decide) ?_
          refine mm_iinc (j := 6) (v := y6 + 1) (lv' := [(6, .int (y6 + 1)), (8, .int ((M.1 r1 (y6).toNatClampNeg) - 10000)), (7, .int (M.1 r1 (y6).toNatClampNeg)), (0, .ref 30), (1, .ref r1), (4, .int y4), (5, .int y5)]) dX5_value_199 rfl rfl (by decide) rfl ?_
          refine mm_goto (tgt := 28) dX5_value_202 (by decide) ?_
          exact mm_sub [3, 4, 5, 6, 0] rfl h
        · rw [if_neg hc] at h
          refine mm_aload_n (j := 2) dX5_value_74 rfl rfl ?_
          refine mm_getR (ci := 5) (N := 4) (r := 34) dX5_value_75 fX5_23 sh_30 rfl (g_30_3 hG) ?_
          refine mm_iload (j := 4) dX5_value_78 rfl ?_
          refine mm_aload_n (j := 2) dX5_value_80 rfl rfl ?_
          refine mm_getR (ci := 5) (N := 4) (r := 31) dX5_value_81 fX5_11 sh_30 rfl (g_30_0 hG) ?_
          refine mm_iload (j := 0) dX5_value_84 rfl ?_
          obtain ⟨hi86, h⟩ := h
          refine mm_iaload (N := 24) dX5_value_86 sh_31 hi86 ?_
          obtain ⟨hi87, h⟩ := h
          refine mm_iastore (N := 64) dX5_value_87 sh_34 hi87 ?_
          refine mm_iinc (j := 4) (v := y4 + 1) (lv' := [(4, .int (y4 + 1)), (8, .int ((M.1 r1 (y6).toNatClampNeg) - 10000)), (7, .int (M.1 r1 (y6).toNatClampNeg)), (0, .ref 30), (1, .ref r1), (5, .int y5), (6, .int y6)]) dX5_value_88 rfl rfl (by decide) rfl ?_
          refine mm_goto (tgt := 199) dX5_value_91 (by decide) ?_
          refine mm_iinc (j := 6) (v := y6 + 1) (lv' := [(6, .int (y6 + 1)), (4, .int (y4 + 1)), (8, .int ((M.1 r1 (y6).toNatClampNeg) - 10000)), (7, .int (M.1 r1 (y6).toNatClampNeg)), (0, .ref 30), (1, .ref r1), (5, .int y5)]) dX5_value_199 rfl rfl (by decide) rfl ?_
          refine mm_goto (tgt := 28) dX5_value_202 (by decide) ?_
          exact mm_sub [4, 5, 1, 6, 0] rfl h
def jX5_single_15 (d : Nat) (x1 : Int32) (x2 : Int32) (M : mm_M) (K : Int32 → mm_M → Prop) (y1 : Int32) (y2 : Int32) (u0 : Int32) : Prop := mm_W mX5_single d 0 0 15 [(0, .ref 30), (1, .int y1), (2, .int y2)] [.int u0] mm_SH M 0 0 (mm_PI K)
set_option maxRecDepth 100000 in
set_option maxHeartbeats 4000000 in
theorem rX5_single {d : Nat} {x1 : Int32} {x2 : Int32} {M : mm_M} {K : Int32 → mm_M → Prop} (hG : mm_G M.2.2) (h : if x2 < 0 then (jX5_single_15 d x1 x2 M K x1 x2 0) else (if 7 ≤ x2 then (jX5_single_15 d x1 x2 M K x1 x2 0) else (jX5_single_15 d x1 x2 M K x1 x2 1))) : mm_CI mX5_single d [.ref 30, .int x1, .int x2] M K := by
  show mm_W mX5_single d 0 0 0 [(0, .ref 30), (1, .int x1), (2, .int x2)] [] mm_SH M 0 0 (mm_PI K)
  refine mm_iload_n (j := 2) dX5_single_0 rfl rfl ?_
  refine mm_if_lt (tgt := 14) dX5_single_1 (by decide) (fun hc => ?_) (fun hc => ?_)
  · rw [if_pos hc] at h
    refine mm_iconst (x := 0) dX5_single_14 rfl ?_
    exact h
  · rw [if_neg hc] at h
    refine mm_iload_n (j := 2) dX5_single_4 rfl rfl ?_
    refine mm_bipush (x := 7) dX5_single_5 rfl ?_
    refine mm_icmp_ge (tgt := 14) dX5_single_7 (by decide) (fun hc => ?_) (fun hc => ?_)
    · rw [if_pos hc] at h
      refine mm_iconst (x := 0) dX5_single_14 rfl ?_
      exact h
    · rw [if_neg hc] at h
      refine mm_iconst (x := 1) dX5_single_10 rfl ?_
      refine mm_goto (tgt := 15) dX5_single_11 (by decide) ?_
      exact h
set_option maxRecDepth 100000 in
set_option maxHeartbeats 4000000 in
theorem lX5_single_15 {d : Nat} {x1 : Int32} {x2 : Int32} {M : mm_M} {K : Int32 → mm_M → Prop} {y1 : Int32} {y2 : Int32} {u0 : Int32} (hG : mm_G M.2.2) (h : if y1 = (-13) then (if u0 = 0 then (K 0 M) else (vp_in y2 7 ∧ K (M.1 32 (y2).toNatClampNeg) M)) else (if y1 = (-12) then (if y2 = 0 then (K 1 M) else (K 0 M)) else (if u0 = 0 then (K (-1) M) else (vp_in y2 7 ∧ K (M.1 33 (y2).toNatClampNeg) M)))) : jX5_single_15 d x1 x2 M K y1 y2 u0 := by
  unfold jX5_single_15
  refine mm_istore_n (lv' := [(3, .int u0), (0, .ref 30), (1, .int y1), (2, .int y2)]) dX5_single_15 rfl (by decide) rfl ?_
  refine mm_iload_n (j := 2) dX5_single_16 rfl rfl ?_
  by_cases hs17_0 : y1 = (-13)
  · rw [if_pos hs17_0] at h
    refine mm_lookup (off := 37) (tgt := 54) dX5_single_17 (by decide) (by rw [hs17_0]; rfl) (by decide) ?_
    refine mm_iload_n (j := 0) dX5_single_54 rfl rfl ?_
    refine mm_if_eq (tgt := 67) dX5_single_55 (by decide) (fun hc => ?_) (fun hc => ?_)
    · rw [if_pos hc] at h
      refine mm_iconst (x := 0) dX5_single_67 rfl ?_
      exact mm_iret dX5_single_68 rfl (Nat.le_refl 0) (Nat.le_refl 0) ⟨_, rfl, rfl, hG, h⟩
    · rw [if_neg hc] at h
      refine mm_aload_n (j := 1) dX5_single_58 rfl rfl ?_
      refine mm_getR (ci := 5) (N := 4) (r := 32) dX5_single_59 fX5_17 sh_30 rfl (g_30_1 hG) ?_
      refine mm_iload_n (j := 3) dX5_single_62 rfl rfl ?_
      obtain ⟨hi63, h⟩ := h
      refine mm_iaload (N := 7) dX5_single_63 sh_32 hi63 ?_
      refine mm_goto (tgt := 68) dX5_single_64 (by decide) ?_
      exact mm_iret dX5_single_68 rfl (Nat.le_refl 0) (Nat.le_refl 0) ⟨_, rfl, rfl, hG, h⟩
  · rw [if_neg hs17_0] at h
    by_cases hs17_1 : y1 = (-12)
    · rw [if_pos hs17_1] at h
      refine mm_lookup (off := 27) (tgt := 44) dX5_single_17 (by decide) (by rw [hs17_1]; rfl) (by decide) ?_
      refine mm_iload_n (j := 3) dX5_single_44 rfl rfl ?_
      refine mm_if_ne (tgt := 52) dX5_single_45 (by decide) (fun hc => ?_) (fun hc => ?_)
      · rw [if_neg hc] at h
        refine mm_iconst (x := 0) dX5_single_52 rfl ?_
        exact mm_iret dX5_single_53 rfl (Nat.le_refl 0) (Nat.le_refl 0) ⟨_, rfl, rfl, hG, h⟩
      · rw [if_pos hc] at h
        refine mm_iconst (x := 1) dX5_single_48 rfl ?_
        refine mm_goto (tgt := 53) dX5_single_49 (by decide) ?_
        exact mm_iret dX5_single_53 rfl (Nat.le_refl 0) (Nat.le_refl 0) ⟨_, rfl, rfl, hG, h⟩
    · rw [if_neg hs17_1] at h
      refine mm_lookup (off := 52) (tgt := 69) dX5_single_17 (by decide) (by rw [lv_osw hs17_0 rfl]; rw [lv_osw hs17_1 rfl]; rfl) (by decide) ?_
      refine mm_iload_n (j := 0) dX5_single_69 rfl rfl ?_
      refine mm_if_eq (tgt := 82) dX5_single_70 (by decide) (fun hc => ?_) (fun hc => ?_)
      · rw [if_pos hc] at h
        refine mm_iconst (x := (-1)) dX5_single_82 rfl ?_
        exact mm_iret dX5_single_83 rfl (Nat.le_refl 0) (Nat.le_refl 0) ⟨_, rfl, rfl, hG, h⟩
      · rw [if_neg hc] at h
        refine mm_aload_n (j := 1) dX5_single_73 rfl rfl ?_
        refine mm_getR (ci := 5) (N := 4) (r := 33) dX5_single_74 fX5_20 sh_30 rfl (g_30_2 hG) ?_
        refine mm_iload_n (j := 3) dX5_single_77 rfl rfl ?_
        obtain ⟨hi78, h⟩ := h
        refine mm_iaload (N := 7) dX5_single_78 sh_33 hi78 ?_
        refine mm_goto (tgt := 83) dX5_single_79 (by decide) ?_
        exact mm_iret dX5_single_83 rfl (Nat.le_refl 0) (Nat.le_refl 0) ⟨_, rfl, rfl, hG, h⟩
def jX5_joined_109 (d : Nat) (x0 : Int32) (x1 : Int32) (x2 : Int32) (M : mm_M) (K : Int32 → mm_M → Prop) (y2 : Int32) (u0 : Int32) (u1 : Int32) : Prop := mm_W mX5_joined d 0 0 109 [(2, .int y2)] [.int u0, .int u1] mm_SH M 0 0 (mm_PI K)
def jX5_joined_191 (d : Nat) (x0 : Int32) (x1 : Int32) (x2 : Int32) (M : mm_M) (K : Int32 → mm_M → Prop) (y3 : Int64) : Prop := mm_W mX5_joined d 0 0 191 [(3, .long y3)] [] mm_SH M 0 0 (mm_PI K)
set_option maxRecDepth 100000 in
set_option maxHeartbeats 4000000 in
theorem rX5_joined {d : Nat} {x0 : Int32} {x1 : Int32} {x2 : Int32} {M : mm_M} {K : Int32 → mm_M → Prop} (hG : mm_G M.2.2) (h : if x0 = (-10) then (if x2 ≤ x1 then (K x2 M) else (K x1 M)) else (if x0 = (-9) then (K (x1 ||| x2) M) else (if x0 = (-8) then (K (x1 &&& x2) M) else (if x0 = (-7) then (if x1 = x2 then (K 1 M) else (K 0 M)) else (if x0 = (-6) then (if x1 ≤ x2 then (K 0 M) else (K 1 M)) else (if x0 = (-5) then (if x2 ≤ x1 then (K 0 M) else (K 1 M)) else (if x0 = (-4) then (if x2 = 0 then (K 0 M) else (¬ x2 = 0 ∧ ¬ x2 = 0 ∧ if (x1 - x1 / x2 * x2) = 0 then (K ((x1 / x2) - 0) M) else (if 0 ≤ x1 then (jX5_joined_109 d x0 x1 x2 M K x2 0 (x1 / x2)) else (jX5_joined_109 d x0 x1 x2 M K x2 1 (x1 / x2))))) else (if x0 = (-3) then (jX5_joined_191 d x0 x1 x2 M K (x1.toInt64 * x2.toInt64)) else (if x0 = (-2) then (jX5_joined_191 d x0 x1 x2 M K (x1.toInt64 - x2.toInt64)) else (if x0 = (-1) then (jX5_joined_191 d x0 x1 x2 M K (x1.toInt64 + x2.toInt64)) else (if x1 ≤ x2 then (K x2 M) else (K x1 M)))))))))))) : mm_CI mX5_joined d [.int x0, .int x1, .int x2] M K := by
  show mm_W mX5_joined d 0 0 0 [(0, .int x0), (1, .int x1), (2, .int x2)] [] mm_SH M 0 0 (mm_PI K)
  refine mm_iload_n (j := 0) dX5_joined_0 rfl rfl ?_
  by_cases hs1_0 : x0 = (-10)
  · rw [if_pos hs1_0] at h
    refine mm_tableIn (off := 168) (tgt := 169) dX5_joined_1 (by rw [hs1_0]; decide) (by rw [hs1_0]; decide) (by rw [hs1_0]; rfl) (by decide) ?_
    refine mm_iload_n (j := 1) dX5_joined_169 rfl rfl ?_
    refine mm_iload_n (j := 2) dX5_joined_170 rfl rfl ?_
    refine mm_icmp_ge (tgt := 178) dX5_joined_171 (by decide) (fun hc => ?_) (fun hc => ?_)
    · rw [if_pos hc] at h
      refine mm_iload_n (j := 2) dX5_joined_178 rfl rfl ?_
      exact mm_iret dX5_joined_179 rfl (Nat.le_refl 0) (Nat.le_refl 0) ⟨_, rfl, rfl, hG, h⟩
    · rw [if_neg hc] at h
      refine mm_iload_n (j := 1) dX5_joined_174 rfl rfl ?_
      refine mm_goto (tgt := 179) dX5_joined_175 (by decide) ?_
      exact mm_iret dX5_joined_179 rfl (Nat.le_refl 0) (Nat.le_refl 0) ⟨_, rfl, rfl, hG, h⟩
  · rw [if_neg hs1_0] at h
    by_cases hs1_1 : x0 = (-9)
    · rw [if_pos hs1_1] at h
      refine mm_tableIn (off := 164) (tgt := 165) dX5_joined_1 (by rw [hs1_1]; decide) (by rw [hs1_1]; decide) (by rw [hs1_1]; rfl) (by decide) ?_
      refine mm_iload_n (j := 1) dX5_joined_165 rfl rfl ?_
      refine mm_iload_n (j := 2) dX5_joined_166 rfl rfl ?_
      refine mm_ior dX5_joined_167 ?_
      exact mm_iret dX5_joined_168 rfl (Nat.le_refl 0) (Nat.le_refl 0) ⟨_, rfl, rfl, hG, h⟩
    · rw [if_neg hs1_1] at h
      by_cases hs1_2 : x0 = (-8)
      · rw [if_pos hs1_2] at h
        refine mm_tableIn (off := 160) (tgt := 161) dX5_joined_1 (by rw [hs1_2]; decide) (by rw [hs1_2]; decide) (by rw [hs1_2]; rfl) (by decide) ?_
        refine mm_iload_n (j := 1) dX5_joined_161 rfl rfl ?_
        refine mm_iload_n (j := 2) dX5_joined_162 rfl rfl ?_
        refine mm_iand dX5_joined_163 ?_
        exact mm_iret dX5_joined_164 rfl (Nat.le_refl 0) (Nat.le_refl 0) ⟨_, rfl, rfl, hG, h⟩
      · rw [if_neg hs1_2] at h
        by_cases hs1_3 : x0 = (-7)
        · rw [if_pos hs1_3] at h
          refine mm_tableIn (off := 149) (tgt := 150) dX5_joined_1 (by rw [hs1_3]; decide) (by rw [hs1_3]; decide) (by rw [hs1_3]; rfl) (by decide) ?_
          refine mm_iload_n (j := 1) dX5_joined_150 rfl rfl ?_
          refine mm_iload_n (j := 2) dX5_joined_151 rfl rfl ?_
          refine mm_icmp_ne (tgt := 159) dX5_joined_152 (by decide) (fun hc => ?_) (fun hc => ?_)
          · rw [if_neg hc] at h
            refine mm_iconst (x := 0) dX5_joined_159 rfl ?_
            exact mm_iret dX5_joined_160 rfl (Nat.le_refl 0) (Nat.le_refl 0) ⟨_, rfl, rfl, hG, h⟩
          · rw [if_pos hc] at h
            refine mm_iconst (x := 1) dX5_joined_155 rfl ?_
            refine mm_goto (tgt := 160) dX5_joined_156 (by decide) ?_
            exact mm_iret dX5_joined_160 rfl (Nat.le_refl 0) (Nat.le_refl 0) ⟨_, rfl, rfl, hG, h⟩
        · rw [if_neg hs1_3] at h
          by_cases hs1_4 : x0 = (-6)
          · rw [if_pos hs1_4] at h
            refine mm_tableIn (off := 138) (tgt := 139) dX5_joined_1 (by rw [hs1_4]; decide) (by rw [hs1_4]; decide) (by rw [hs1_4]; rfl) (by decide) ?_
            refine mm_iload_n (j := 1) dX5_joined_139 rfl rfl ?_
            refine mm_iload_n (j := 2) dX5_joined_140 rfl rfl ?_
            refine mm_icmp_le (tgt := 148) dX5_joined_141 (by decide) (fun hc => ?_) (fun hc => ?_)
            · rw [if_pos hc] at h
              refine mm_iconst (x := 0) dX5_joined_148 rfl ?_
              exact mm_iret dX5_joined_149 rfl (Nat.le_refl 0) (Nat.le_refl 0) ⟨_, rfl, rfl, hG, h⟩
            · rw [if_neg hc] at h
              refine mm_iconst (x := 1) dX5_joined_144 rfl ?_
              refine mm_goto (tgt := 149) dX5_joined_145 (by decide) ?_
              exact mm_iret dX5_joined_149 rfl (Nat.le_refl 0) (Nat.le_refl 0) ⟨_, rfl, rfl, hG, h⟩
          · rw [if_neg hs1_4] at h
            by_cases hs1_5 : x0 = (-5)
            · rw [if_pos hs1_5] at h
              refine mm_tableIn (off := 127) (tgt := 128) dX5_joined_1 (by rw [hs1_5]; decide) (by rw [hs1_5]; decide) (by rw [hs1_5]; rfl) (by decide) ?_
              refine mm_iload_n (j := 1) dX5_joined_128 rfl rfl ?_
              refine mm_iload_n (j := 2) dX5_joined_129 rfl rfl ?_
              refine mm_icmp_ge (tgt := 137) dX5_joined_130 (by decide) (fun hc => ?_) (fun hc => ?_)
              · rw [if_pos hc] at h
                refine mm_iconst (x := 0) dX5_joined_137 rfl ?_
                exact mm_iret dX5_joined_138 rfl (Nat.le_refl 0) (Nat.le_refl 0) ⟨_, rfl, rfl, hG, h⟩
              · rw [if_neg hc] at h
                refine mm_iconst (x := 1) dX5_joined_133 rfl ?_
                refine mm_goto (tgt := 138) dX5_joined_134 (by decide) ?_
                exact mm_iret dX5_joined_138 rfl (Nat.le_refl 0) (Nat.le_refl 0) ⟨_, rfl, rfl, hG, h⟩
            · rw [if_neg hs1_5] at h
              by_cases hs1_6 : x0 = (-4)
              · rw [if_pos hs1_6] at h
                refine mm_tableIn (off := 82) (tgt := 83) dX5_joined_1 (by rw [hs1_6]; decide) (by rw [hs1_6]; decide) (by rw [hs1_6]; rfl) (by decide) ?_
                refine mm_iload_n (j := 2) dX5_joined_83 rfl rfl ?_
                refine mm_if_ne (tgt := 91) dX5_joined_84 (by decide) (fun hc => ?_) (fun hc => ?_)
                · rw [if_neg hc] at h
                  refine mm_iload_n (j := 1) dX5_joined_91 rfl rfl ?_
                  refine mm_iload_n (j := 2) dX5_joined_92 rfl rfl ?_
                  obtain ⟨hz93, h⟩ := h
                  refine mm_idiv dX5_joined_93 hz93 ?_
                  refine mm_iload_n (j := 1) dX5_joined_94 rfl rfl ?_
                  refine mm_iload_n (j := 2) dX5_joined_95 rfl rfl ?_
                  obtain ⟨hz96, h⟩ := h
                  refine mm_irem dX5_joined_96 hz96 ?_
                  refine mm_if_eq (tgt := 125) dX5_joined_97 (by decide) (fun hc => ?_) (fun hc => ?_)
                  · rw [if_pos hc] at h
                    refine mm_iconst (x := 0) dX5_joined_125 rfl ?_
                    refine mm_isub dX5_joined_126 ?_
                    exact mm_iret dX5_joined_127 rfl (Nat.le_refl 0) (Nat.le_refl 0) ⟨_, rfl, rfl, hG, h⟩
                  · rw [if_neg hc] at h
                    refine mm_iload_n (j := 1) dX5_joined_100 rfl rfl ?_
                    refine mm_if_ge (tgt := 108) dX5_joined_101 (by decide) (fun hc => ?_) (fun hc => ?_)
                    · rw [if_pos hc] at h
                      refine mm_iconst (x := 0) dX5_joined_108 rfl ?_
                      exact mm_sub [2] rfl h
                    · rw [if_neg hc] at h
                      refine mm_iconst (x := 1) dX5_joined_104 rfl ?_
                      refine mm_goto (tgt := 109) dX5_joined_105 (by decide) ?_
                      exact mm_sub [2] rfl h
                · rw [if_pos hc] at h
                  refine mm_iconst (x := 0) dX5_joined_87 rfl ?_
                  refine mm_goto (tgt := 127) dX5_joined_88 (by decide) ?_
                  exact mm_iret dX5_joined_127 rfl (Nat.le_refl 0) (Nat.le_refl 0) ⟨_, rfl, rfl, hG, h⟩
              · rw [if_neg hs1_6] at h
                by_cases hs1_7 : x0 = (-3)
                · rw [if_pos hs1_7] at h
                  refine mm_tableIn (off := 73) (tgt := 74) dX5_joined_1 (by rw [hs1_7]; decide) (by rw [hs1_7]; decide) (by rw [hs1_7]; rfl) (by decide) ?_
                  refine mm_iload_n (j := 1) dX5_joined_74 rfl rfl ?_
                  refine mm_i2l dX5_joined_75 ?_
                  refine mm_iload_n (j := 2) dX5_joined_76 rfl rfl ?_
                  refine mm_i2l dX5_joined_77 ?_
                  refine mm_lmul dX5_joined_78 ?_
                  refine mm_lstore_n (lv' := [(3, .long (x1.toInt64 * x2.toInt64)), (0, .int x0), (1, .int x1), (2, .int x2)]) dX5_joined_79 rfl (by decide) rfl ?_
                  refine mm_goto (tgt := 191) dX5_joined_80 (by decide) ?_
                  exact mm_sub [0] rfl h
                · rw [if_neg hs1_7] at h
                  by_cases hs1_8 : x0 = (-2)
                  · rw [if_pos hs1_8] at h
                    refine mm_tableIn (off := 64) (tgt := 65) dX5_joined_1 (by rw [hs1_8]; decide) (by rw [hs1_8]; decide) (by rw [hs1_8]; rfl) (by decide) ?_
                    refine mm_iload_n (j := 1) dX5_joined_65 rfl rfl ?_
                    refine mm_i2l dX5_joined_66 ?_
                    refine mm_iload_n (j := 2) dX5_joined_67 rfl rfl ?_
                    refine mm_i2l dX5_joined_68 ?_
                    refine mm_lsub dX5_joined_69 ?_
                    refine mm_lstore_n (lv' := [(3, .long (x1.toInt64 - x2.toInt64)), (0, .int x0), (1, .int x1), (2, .int x2)]) dX5_joined_70 rfl (by decide) rfl ?_
                    refine mm_goto (tgt := 191) dX5_joined_71 (by decide) ?_
                    exact mm_sub [0] rfl h
                  · rw [if_neg hs1_8] at h
                    by_cases hs1_9 : x0 = (-1)
                    · rw [if_pos hs1_9] at h
                      refine mm_tableIn (off := 55) (tgt := 56) dX5_joined_1 (by rw [hs1_9]; decide) (by rw [hs1_9]; decide) (by rw [hs1_9]; rfl) (by decide) ?_
                      refine mm_iload_n (j := 1) dX5_joined_56 rfl rfl ?_
                      refine mm_i2l dX5_joined_57 ?_
                      refine mm_iload_n (j := 2) dX5_joined_58 rfl rfl ?_
                      refine mm_i2l dX5_joined_59 ?_
                      refine mm_ladd dX5_joined_60 ?_
                      refine mm_lstore_n (lv' := [(3, .long (x1.toInt64 + x2.toInt64)), (0, .int x0), (1, .int x1), (2, .int x2)]) dX5_joined_61 rfl (by decide) rfl ?_
                      refine mm_goto (tgt := 191) dX5_joined_62 (by decide) ?_
                      exact mm_sub [0] rfl h
                    · rw [if_neg hs1_9] at h
                      have ht1_0 := lv_neT hs1_0 (show ((-10) : Int32).toInt = -10 from rfl)
                      have ht1_1 := lv_neT hs1_1 (show ((-9) : Int32).toInt = -9 from rfl)
                      have ht1_2 := lv_neT hs1_2 (show ((-8) : Int32).toInt = -8 from rfl)
                      have ht1_3 := lv_neT hs1_3 (show ((-7) : Int32).toInt = -7 from rfl)
                      have ht1_4 := lv_neT hs1_4 (show ((-6) : Int32).toInt = -6 from rfl)
                      have ht1_5 := lv_neT hs1_5 (show ((-5) : Int32).toInt = -5 from rfl)
                      have ht1_6 := lv_neT hs1_6 (show ((-4) : Int32).toInt = -4 from rfl)
                      have ht1_7 := lv_neT hs1_7 (show ((-3) : Int32).toInt = -3 from rfl)
                      have ht1_8 := lv_neT hs1_8 (show ((-2) : Int32).toInt = -2 from rfl)
                      have ht1_9 := lv_neT hs1_9 (show ((-1) : Int32).toInt = -1 from rfl)
                      refine mm_tableOut (tgt := 180) dX5_joined_1 (by omega) (by decide) ?_
                      refine mm_iload_n (j := 1) dX5_joined_180 rfl rfl ?_
                      refine mm_iload_n (j := 2) dX5_joined_181 rfl rfl ?_
                      refine mm_icmp_le (tgt := 189) dX5_joined_182 (by decide) (fun hc => ?_) (fun hc => ?_)
                      · rw [if_pos hc] at h
                        refine mm_iload_n (j := 2) dX5_joined_189 rfl rfl ?_
                        exact mm_iret dX5_joined_190 rfl (Nat.le_refl 0) (Nat.le_refl 0) ⟨_, rfl, rfl, hG, h⟩
                      · rw [if_neg hc] at h
                        refine mm_iload_n (j := 1) dX5_joined_185 rfl rfl ?_
                        refine mm_goto (tgt := 190) dX5_joined_186 (by decide) ?_
                        exact mm_iret dX5_joined_190 rfl (Nat.le_refl 0) (Nat.le_refl 0) ⟨_, rfl, rfl, hG, h⟩
set_option maxRecDepth 100000 in
set_option maxHeartbeats 4000000 in
theorem lX5_joined_109 {d : Nat} {x0 : Int32} {x1 : Int32} {x2 : Int32} {M : mm_M} {K : Int32 → mm_M → Prop} {y2 : Int32} {u0 : Int32} {u1 : Int32} (hG : mm_G M.2.2) (h : if 0 ≤ y2 then (if u0 = 0 then (K (u1 - 0) M) else (K (u1 - 1) M)) else (if u0 = 1 then (K (u1 - 0) M) else (K (u1 - 1) M))) : jX5_joined_109 d x0 x1 x2 M K y2 u0 u1 := by
  unfold jX5_joined_109
  refine mm_iload_n (j := 0) dX5_joined_109 rfl rfl ?_
  refine mm_if_ge (tgt := 117) dX5_joined_110 (by decide) (fun hc => ?_) (fun hc => ?_)
  · rw [if_pos hc] at h
    refine mm_iconst (x := 0) dX5_joined_117 rfl ?_
    refine mm_icmp_eq (tgt := 125) dX5_joined_118 (by decide) (fun hc => ?_) (fun hc => ?_)
    · rw [if_pos hc] at h
      refine mm_iconst (x := 0) dX5_joined_125 rfl ?_
      refine mm_isub dX5_joined_126 ?_
      exact mm_iret dX5_joined_127 rfl (Nat.le_refl 0) (Nat.le_refl 0) ⟨_, rfl, rfl, hG, h⟩
    · rw [if_neg hc] at h
      refine mm_iconst (x := 1) dX5_joined_121 rfl ?_
      refine mm_goto (tgt := 126) dX5_joined_122 (by decide) ?_
      refine mm_isub dX5_joined_126 ?_
      exact mm_iret dX5_joined_127 rfl (Nat.le_refl 0) (Nat.le_refl 0) ⟨_, rfl, rfl, hG, h⟩
  · rw [if_neg hc] at h
    refine mm_iconst (x := 1) dX5_joined_113 rfl ?_
    refine mm_goto (tgt := 118) dX5_joined_114 (by decide) ?_
    refine mm_icmp_eq (tgt := 125) dX5_joined_118 (by decide) (fun hc => ?_) (fun hc => ?_)
    · rw [if_pos hc] at h
      refine mm_iconst (x := 0) dX5_joined_125 rfl ?_
      refine mm_isub dX5_joined_126 ?_
      exact mm_iret dX5_joined_127 rfl (Nat.le_refl 0) (Nat.le_refl 0) ⟨_, rfl, rfl, hG, h⟩
    · rw [if_neg hc] at h
      refine mm_iconst (x := 1) dX5_joined_121 rfl ?_
      refine mm_goto (tgt := 126) dX5_joined_122 (by decide) ?_
      refine mm_isub dX5_joined_126 ?_
      exact mm_iret dX5_joined_127 rfl (Nat.le_refl 0) (Nat.le_refl 0) ⟨_, rfl, rfl, hG, h⟩
set_option maxRecDepth 100000 in
set_option maxHeartbeats 4000000 in
theorem lX5_joined_191 {d : Nat} {x0 : Int32} {x1 : Int32} {x2 : Int32} {M : mm_M} {K : Int32 → mm_M → Prop} {y3 : Int64} (hG : mm_G M.2.2) (h : if y3 ≤ 1000000 then (if (-1000000) ≤ y3 then (K y3.toInt32 M) else (K (-1000000) M)) else (K 1000000 M)) : jX5_joined_191 d x0 x1 x2 M K y3 := by
  unfold jX5_joined_191
  refine mm_lload_n (j := 0) dX5_joined_191 rfl rfl ?_
  refine mm_ldc2 (x := 1000000) dX5_joined_192 cX5_34 ?_
  refine mm_lcmp dX5_joined_195 ?_
  refine mm_if_le (tgt := 204) dX5_joined_196 (by decide) (fun hc => ?_) (fun hc => ?_)
  · rw [if_pos (lgc_le.mp hc)] at h
    refine mm_lload_n (j := 0) dX5_joined_204 rfl rfl ?_
    refine mm_ldc2 (x := (-1000000)) dX5_joined_205 cX5_37 ?_
    refine mm_lcmp dX5_joined_208 ?_
    refine mm_if_ge (tgt := 217) dX5_joined_209 (by decide) (fun hc => ?_) (fun hc => ?_)
    · rw [if_pos (lgc_ge.mp hc)] at h
      refine mm_lload_n (j := 0) dX5_joined_217 rfl rfl ?_
      refine mm_l2i dX5_joined_218 ?_
      exact mm_iret dX5_joined_219 rfl (Nat.le_refl 0) (Nat.le_refl 0) ⟨_, rfl, rfl, hG, h⟩
    · rw [if_neg (fun q => hc (lgc_ge.mpr q))] at h
      refine mm_ldc (x := (-1000000)) dX5_joined_212 cX5_39 ?_
      refine mm_goto (tgt := 219) dX5_joined_214 (by decide) ?_
      exact mm_iret dX5_joined_219 rfl (Nat.le_refl 0) (Nat.le_refl 0) ⟨_, rfl, rfl, hG, h⟩
  · rw [if_neg (fun q => hc (lgc_le.mpr q))] at h
    refine mm_ldc (x := 1000000) dX5_joined_199 cX5_36 ?_
    refine mm_goto (tgt := 219) dX5_joined_201 (by decide) ?_
    exact mm_iret dX5_joined_219 rfl (Nat.le_refl 0) (Nat.le_refl 0) ⟨_, rfl, rfl, hG, h⟩
