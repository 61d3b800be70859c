set_option maxRecDepth 100000 in
set_option maxHeartbeats 4000000 in
theorem rX12_isIn {d : Nat} {x0 : Int64} {x2 : Int64} {x4 : Int64} {M : mm_M} {K : Int32 → mm_M → Prop} (hG : mm_G M.2.2) (h : if x0 < x2 then (K 0 M) else (if x4 < x0 then (K 0 M) else (K 1 M))) : mm_CI mX12_isIn d [.long x0, .long x2, .long x4] M K := by
  show mm_W mX12_isIn d 0 0 0 [(0, .long x0), (2, .long x2), (4, .long x4)] [] mm_SH M 0 0 (mm_PI K)
  refine mm_lload_n (j := 0) dX12_isIn_0 rfl rfl ?_
  refine mm_lload_n (j := 1) dX12_isIn_1 rfl rfl ?_
  refine mm_lcmp dX12_isIn_2 ?_
  refine mm_if_lt (tgt := 17) dX12_isIn_3 (by decide) (fun hc => ?_) (fun hc => ?_)
  · rw [if_pos (lgc_lt.mp hc)] at h
    refine mm_iconst (x := 0) dX12_isIn_17 rfl ?_
    exact mm_zret dX12_isIn_18 rfl rfl (Nat.le_refl 0) (Nat.le_refl 0) ⟨_, rfl, rfl, hG, h⟩
  · rw [if_neg (fun q => hc (lgc_lt.mpr q))] at h
    refine mm_lload_n (j := 0) dX12_isIn_6 rfl rfl ?_
    refine mm_lload (j := 2) dX12_isIn_7 rfl ?_
    refine mm_lcmp dX12_isIn_9 ?_
    refine mm_if_gt (tgt := 17) dX12_isIn_10 (by decide) (fun hc => ?_) (fun hc => ?_)
    · rw [if_pos (lgc_gt.mp hc)] at h
      refine mm_iconst (x := 0) dX12_isIn_17 rfl ?_
      exact mm_zret dX12_isIn_18 rfl rfl (Nat.le_refl 0) (Nat.le_refl 0) ⟨_, rfl, rfl, hG, h⟩
    · rw [if_neg (fun q => hc (lgc_gt.mpr q))] at h
      refine mm_iconst (x := 1) dX12_isIn_13 rfl ?_
      refine mm_goto (tgt := 18) dX12_isIn_14 (by decide) ?_
      exact mm_zret dX12_isIn_18 rfl rfl (Nat.le_refl 0) (Nat.le_refl 0) ⟨_, rfl, rfl, hG, h⟩
set_option maxRecDepth 100000 in
set_option maxHeartbeats 4000000 in
theorem rX12_cut {d : Nat} {x0 : Int64} {M : mm_M} {K : Int32 → mm_M → Prop} (hG : mm_G M.2.2) (h : if 0 ≤ x0 then (if x0 ≤ 99 then (K x0.toInt32 M) else (K 99 M)) else (K 0 M)) : mm_CI mX12_cut d [.long x0] M K := by
  show mm_W mX12_cut d 0 0 0 [(0, .long x0)] [] mm_SH M 0 0 (mm_PI K)
  refine mm_lload_n (j := 0) dX12_cut_0 rfl rfl ?_
  refine mm_lconst (x := 0) dX12_cut_1 rfl ?_
  refine mm_lcmp dX12_cut_2 ?_
  refine mm_if_ge (tgt := 10) dX12_cut_3 (by decide) (fun hc => ?_) (fun hc => ?_)
  · rw [if_pos (lgc_ge.mp hc)] at h
    refine mm_lload_n (j := 0) dX12_cut_10 rfl rfl ?_
    refine mm_ldc2 (x := 99) dX12_cut_11 cX12_255 ?_
    refine mm_lcmp dX12_cut_14 ?_
    refine mm_if_le (tgt := 23) dX12_cut_15 (by decide) (fun hc => ?_) (fun hc => ?_)
    · rw [if_pos (lgc_le.mp hc)] at h
      refine mm_lload_n (j := 0) dX12_cut_23 rfl rfl ?_
      refine mm_l2i dX12_cut_24 ?_
      exact mm_iret dX12_cut_25 rfl (Nat.le_refl 0) (Nat.le_refl 0) ⟨_, rfl, rfl, hG, h⟩
    · rw [if_neg (fun q => hc (lgc_le.mpr q))] at h
      refine mm_bipush (x := 99) dX12_cut_18 rfl ?_
      refine mm_goto (tgt := 25) dX12_cut_20 (by decide) ?_
      exact mm_iret dX12_cut_25 rfl (Nat.le_refl 0) (Nat.le_refl 0) ⟨_, rfl, rfl, hG, h⟩
  · rw [if_neg (fun q => hc (lgc_ge.mpr q))] at h
    refine mm_iconst (x := 0) dX12_cut_6 rfl ?_
    refine mm_goto (tgt := 25) dX12_cut_7 (by decide) ?_
    exact mm_iret dX12_cut_25 rfl (Nat.le_refl 0) (Nat.le_refl 0) ⟨_, rfl, rfl, hG, h⟩
def jX12_feed_28 (d : Nat) (x1 : Int32) (x2 : Int32) (x3 : Int32) (x4 : Int32) (x5 : Int32) (M : mm_M) (K : Int32 → mm_M → Prop) (y1 : Int32) (y2 : Int32) (y3 : Int32) (y4 : Int32) (y5 : Int32) (y6 : Int32) : Prop := mm_W mX12_feed d 0 0 28 [(0, .ref 164), (1, .int y1), (2, .int y2), (3, .int y3), (4, .int y4), (5, .int y5), (6, .int y6)] [] mm_SH M 0 0 (mm_PI K)
def jX12_feed_81 (d : Nat) (x1 : Int32) (x2 : Int32) (x3 : Int32) (x4 : Int32) (x5 : Int32) (M : mm_M) (K : Int32 → mm_M → Prop) (y1 : Int32) (y2 : Int32) (y3 : Int32) (y4 : Int32) (y5 : Int32) (y6 : Int32) (u0 : Int32) : Prop := mm_W mX12_feed d 0 0 81 [(0, .ref 164), (1, .int y1), (2, .int y2), (3, .int y3), (4, .int y4), (5, .int y5), (6, .int y6)] [.int u0] mm_SH M 0 0 (mm_PI K)
set_option maxRecDepth 100000 in
set_option maxHeartbeats 4000000 in
theorem rX12_feed {d : Nat} {x1 : Int32} {x2 : Int32} {x3 : Int32} {x4 : Int32} {x5 : Int32} {M : mm_M} {K : Int32 → mm_M → Prop} (hG : mm_G M.2.2) (h : if ((M.1 164 1) + 20) ≤ 1600 then (jX12_feed_28 d x1 x2 x3 x4 x5 M K x1 x2 x3 x4 x5 0) else (K (-1) (mm_uI M 166 (0).toNatClampNeg ((M.1 166 (0).toNatClampNeg) + 1)))) : mm_CI mX12_feed d [.ref 164, .int x1, .int x2, .int x3, .int x4, .int x5] M K := by
  show mm_W mX12_feed d 0 0 0 [(0, .ref 164), (1, .int x1), (2, .int x2), (3, .int x3), (4, .int x4), (5, .int x5)] [] mm_SH M 0 0 (mm_PI K)
  refine mm_aload_n (j := 0) dX12_feed_0 rfl rfl ?_
  refine mm_getI (ci := 12) (N := 116) dX12_feed_1 fX12_257 sh_164 rfl ?_
  refine mm_bipush (x := 20) dX12_feed_4 rfl ?_
  refine mm_iadd dX12_feed_6 ?_
  refine mm_sipush (x := 1600) dX12_feed_7 rfl ?_
  refine mm_icmp_le (tgt := 25) dX12_feed_10 (by decide) (fun hc => ?_) (fun hc => ?_)
  · rw [if_pos hc] at h
    refine mm_iconst (x := 0) dX12_feed_25 rfl ?_
    refine mm_istore (lv' := [(6, .int 0), (0, .ref 164), (1, .int x1), (2, .int x2), (3, .int x3), (4, .int x4), (5, .int x5)]) dX12_feed_26 (by decide) rfl ?_
    exact mm_sub [1, 2, 3, 4, 5, 6, 0] rfl h
  · rw [if_neg hc] at h
    refine mm_aload_n (j := 0) dX12_feed_13 rfl rfl ?_
    refine mm_getR (ci := 12) (N := 116) (r := 166) dX12_feed_14 fX12_17 sh_164 rfl (g_164_9 hG) ?_
    refine mm_iconst (x := 0) dX12_feed_17 rfl ?_
    refine mm_dup2 dX12_feed_18 rfl rfl ?_
    refine mm_iaload (N := 6) dX12_feed_19 sh_166 (by decide) ?_
    refine mm_iconst (x := 1) dX12_feed_20 rfl ?_
    refine mm_iadd dX12_feed_21 ?_
    refine mm_iastore (N := 6) dX12_feed_22 sh_166 (by decide) ?_
    refine mm_iconst (x := (-1)) dX12_feed_23 rfl ?_
    exact mm_iret dX12_feed_24 rfl (Nat.le_refl 0) (Nat.le_refl 0) ⟨_, rfl, rfl, hG, h⟩
set_option maxRecDepth 100000 in
set_option maxHeartbeats 4000000 in
theorem lX12_feed_28 {d : Nat} {x1 : Int32} {x2 : Int32} {x3 : Int32} {x4 : Int32} {x5 : Int32} {M : mm_M} {K : Int32 → mm_M → Prop} {y1 : Int32} {y2 : Int32} {y3 : Int32} {y4 : Int32} {y5 : Int32} {y6 : Int32} (hG : mm_G M.2.2) (h : if 20 ≤ y6 then (K (M.1 164 1) M) else (if 4 ≤ y6 then (if 8 ≤ y6 then (if 12 ≤ y6 then (if 16 ≤ y6 then (jX12_feed_81 d x1 x2 x3 x4 x5 M K y1 y2 y3 y4 y5 y6 y5) else (jX12_feed_81 d x1 x2 x3 x4 x5 M K y1 y2 y3 y4 y5 y6 y4)) else (jX12_feed_81 d x1 x2 x3 x4 x5 M K y1 y2 y3 y4 y5 y6 y3)) else (jX12_feed_81 d x1 x2 x3 x4 x5 M K y1 y2 y3 y4 y5 y6 y2)) else (jX12_feed_81 d x1 x2 x3 x4 x5 M K y1 y2 y3 y4 y5 y6 y1))) : jX12_feed_28 d x1 x2 x3 x4 x5 M K y1 y2 y3 y4 y5 y6 := by
  unfold jX12_feed_28
  refine mm_iload (j := 6) dX12_feed_28 rfl ?_
  refine mm_bipush (x := 20) dX12_feed_30 rfl ?_
  refine mm_icmp_ge (tgt := 124) dX12_feed_32 (by decide) (fun hc => ?_) (fun hc => ?_)
  · rw [if_pos hc] at h
    refine mm_aload_n (j := 0) dX12_feed_124 rfl rfl ?_
    refine mm_getI (ci := 12) (N := 116) dX12_feed_125 fX12_257 sh_164 rfl ?_
    exact mm_iret dX12_feed_128 rfl (Nat.le_refl 0) (Nat.le_refl 0) ⟨_, rfl, rfl, hG, h⟩
  · rw [if_neg hc] at h
    refine mm_iload (j := 6) dX12_feed_35 rfl ?_
    refine mm_iconst (x := 4) dX12_feed_37 rfl ?_
    refine mm_icmp_ge (tgt := 45) dX12_feed_38 (by decide) (fun hc => ?_) (fun hc => ?_)
    · rw [if_pos hc] at h
      refine mm_iload (j := 6) dX12_feed_45 rfl ?_
      refine mm_bipush (x := 8) dX12_feed_47 rfl ?_
      refine mm_icmp_ge (tgt := 56) dX12_feed_49 (by decide) (fun hc => ?_) (fun hc => ?_)
      · rw [if_pos hc] at h
        refine mm_iload (j := 6) dX12_feed_56 rfl ?_
        refine mm_bipush (x := 12) dX12_feed_58 rfl ?_
        refine mm_icmp_ge (tgt := 67) dX12_feed_60 (by decide) (fun hc => ?_) (fun hc => ?_)
        · rw [if_pos hc] at h
          refine mm_iload (j := 6) dX12_feed_67 rfl ?_
          refine mm_bipush (x := 16) dX12_feed_69 rfl ?_
          refine mm_icmp_ge (tgt := 79) dX12_feed_71 (by decide) (fun hc => ?_) (fun hc => ?_)
          · rw [if_pos hc] at h
            refine mm_iload (j := 5) dX12_feed_79 rfl ?_
            exact h
          · rw [if_neg hc] at h
            refine mm_iload (j := 4) dX12_feed_74 rfl ?_
            refine mm_goto (tgt := 81) dX12_feed_76 (by decide) ?_
            exact h
        · rw [if_neg hc] at h
          refine mm_iload_n (j := 3) dX12_feed_63 rfl rfl ?_
          refine mm_goto (tgt := 81) dX12_feed_64 (by decide) ?_
          exact h
      · rw [if_neg hc] at h
        refine mm_iload_n (j := 2) dX12_feed_52 rfl rfl ?_
        refine mm_goto (tgt := 81) dX12_feed_53 (by decide) ?_
        exact h
    · rw [if_neg hc] at h
      refine mm_iload_n (j := 1) dX12_feed_41 rfl rfl ?_
      refine mm_goto (tgt := 81) dX12_feed_42 (by decide) ?_
      exact h
set_option maxRecDepth 100000 in
set_option maxHeartbeats 4000000 in
theorem lX12_feed_81 {d : Nat} {x1 : Int32} {x2 : Int32} {x3 : Int32} {x4 : Int32} {x5 : Int32} {M : mm_M} {K : Int32 → mm_M → Prop} {y1 : Int32} {y2 : Int32} {y3 : Int32} {y4 : Int32} {y5 : Int32} {y6 : Int32} {u0 : Int32} (hG : mm_G M.2.2) (h : vp_in (M.1 164 1) 1600 ∧ jX12_feed_28 d x1 x2 x3 x4 x5 (mm_uI (mm_uI M 165 (M.1 164 1).toNatClampNeg ((u0 >>> ((8 * (3 - (y6 - y6 / 4 * 4))) &&& 31)) &&& 255)) 164 1 (((mm_uI M 165 (M.1 164 1).toNatClampNeg ((u0 >>> ((8 * (3 - (y6 - y6 / 4 * 4))) &&& 31)) &&& 255)).1 164 1) + 1)) K y1 y2 y3 y4 y5 (y6 + 1)) : jX12_feed_81 d x1 x2 x3 x4 x5 M K y1 y2 y3 y4 y5 y6 u0 := by
  unfold jX12_feed_81
  refine mm_istore (lv' := [(7, .int u0), (0, .ref 164), (1, .int y1), (2, .int y2), (3, .int y3), (4, .int y4), (5, .int y5), (6, .int y6)]) dX12_feed_81 (by decide) rfl ?_
  refine mm_aload_n (j := 1) dX12_feed_83 rfl rfl ?_
  refine mm_getR (ci := 12) (N := 116) (r := 165) dX12_feed_84 fX12_7 sh_164 rfl (g_164_0 hG) ?_
  refine mm_aload_n (j := 1) dX12_feed_87 rfl rfl ?_
  refine mm_getI (ci := 12) (N := 116) dX12_feed_88 fX12_257 sh_164 rfl ?_
  refine mm_iload (j := 0) dX12_feed_91 rfl ?_
  refine mm_bipush (x := 8) dX12_feed_93 rfl ?_
  refine mm_iconst (x := 3) dX12_feed_95 rfl ?_
  refine mm_iload (j := 7) dX12_feed_96 rfl ?_
  refine mm_iconst (x := 4) dX12_feed_98 rfl ?_
  refine mm_irem dX12_feed_99 (by decide) ?_
  refine mm_isub dX12_feed_100 ?_
  refine mm_imul dX12_feed_101 ?_
  refine mm_ishr dX12_feed_102 ?_
  refine mm_sipush (x := 255) dX12_feed_103 rfl ?_
  refine mm_iand dX12_feed_106 ?_
  obtain ⟨hi107, h⟩ := h
  refine mm_iastore (N := 1600) dX12_feed_107 sh_165 hi107 ?_
  refine mm_aload_n (j := 1) dX12_feed_108 rfl rfl ?_
  refine mm_dup dX12_feed_109 rfl ?_
  refine mm_getI (ci := 12) (N := 116) dX12_feed_110 fX12_257 sh_164 rfl ?_
  refine mm_iconst (x := 1) dX12_feed_113 rfl ?_
  refine mm_iadd dX12_feed_114 ?_
  refine mm_putI (ci := 12) (N := 116) dX12_feed_115 fX12_257 sh_164 (by decide +kernel) rfl rfl rfl ?_
  refine mm_iinc (j := 7) (v := y6 + 1) (lv' := [(6, .int (y6 + 1)), (7, .int u0), (0, .ref 164), (1, .int y1), (2, .int y2), (3, .int y3), (4, .int y4), (5, .int y5)]) dX12_feed_118 rfl rfl (by decide) rfl ?_
  refine mm_goto (tgt := 28) dX12_feed_121 (by decide) ?_
  exact mm_sub [2, 3, 4, 5, 6, 7, 0] rfl h
set_option maxRecDepth 100000 in
set_option maxHeartbeats 4000000 in
theorem rX12_end {d : Nat} {x1 : Int32} {M : mm_M} {K : Int32 → mm_M → Prop} (hG : mm_G M.2.2) (h : if x1 < 0 then (K 0 (mm_uI M 166 (0).toNatClampNeg ((M.1 166 (0).toNatClampNeg) + 1))) else (if x1 ≤ (M.1 164 1) then (K 1 (mm_uI M 164 1 x1)) else (K 0 (mm_uI M 166 (0).toNatClampNeg ((M.1 166 (0).toNatClampNeg) + 1))))) : mm_CI mX12_end d [.ref 164, .int x1] M K := by
  show mm_W mX12_end d 0 0 0 [(0, .ref 164), (1, .int x1)] [] mm_SH M 0 0 (mm_PI K)
  refine mm_iload_n (j := 1) dX12_end_0 rfl rfl ?_
  refine mm_if_lt (tgt := 12) dX12_end_1 (by decide) (fun hc => ?_) (fun hc => ?_)
  · rw [if_pos hc] at h
    refine mm_aload_n (j := 0) dX12_end_12 rfl rfl ?_
    refine mm_getR (ci := 12) (N := 116) (r := 166) dX12_end_13 fX12_17 sh_164 rfl (g_164_9 hG) ?_
    refine mm_iconst (x := 0) dX12_end_16 rfl ?_
    refine mm_dup2 dX12_end_17 rfl rfl ?_
    refine mm_iaload (N := 6) dX12_end_18 sh_166 (by decide) ?_
    refine mm_iconst (x := 1) dX12_end_19 rfl ?_
    refine mm_iadd dX12_end_20 ?_
    refine mm_iastore (N := 6) dX12_end_21 sh_166 (by decide) ?_
    refine mm_iconst (x := 0) dX12_end_22 rfl ?_
    exact mm_zret dX12_end_23 rfl rfl (Nat.le_refl 0) (Nat.le_refl 0) ⟨_, rfl, rfl, hG, h⟩
  · rw [if_neg hc] at h
    refine mm_iload_n (j := 1) dX12_end_4 rfl rfl ?_
    refine mm_aload_n (j := 0) dX12_end_5 rfl rfl ?_
    refine mm_getI (ci := 12) (N := 116) dX12_end_6 fX12_257 sh_164 rfl ?_
    refine mm_icmp_le (tgt := 24) dX12_end_9 (by decide) (fun hc => ?_) (fun hc => ?_)
    · rw [if_pos hc] at h
      refine mm_aload_n (j := 0) dX12_end_24 rfl rfl ?_
      refine mm_iload_n (j := 1) dX12_end_25 rfl rfl ?_
      refine mm_putI (ci := 12) (N := 116) dX12_end_26 fX12_257 sh_164 (by decide +kernel) rfl rfl rfl ?_
      refine mm_iconst (x := 1) dX12_end_29 rfl ?_
      exact mm_zret dX12_end_30 rfl rfl (Nat.le_refl 0) (Nat.le_refl 0) ⟨_, rfl, rfl, hG, h⟩
    · rw [if_neg hc] at h
      refine mm_aload_n (j := 0) dX12_end_12 rfl rfl ?_
      refine mm_getR (ci := 12) (N := 116) (r := 166) dX12_end_13 fX12_17 sh_164 rfl (g_164_9 hG) ?_
      refine mm_iconst (x := 0) dX12_end_16 rfl ?_
      refine mm_dup2 dX12_end_17 rfl rfl ?_
      refine mm_iaload (N := 6) dX12_end_18 sh_166 (by decide) ?_
      refine mm_iconst (x := 1) dX12_end_19 rfl ?_
      refine mm_iadd dX12_end_20 ?_
      refine mm_iastore (N := 6) dX12_end_21 sh_166 (by decide) ?_
      refine mm_iconst (x := 0) dX12_end_22 rfl ?_
      exact mm_zret dX12_end_23 rfl rfl (Nat.le_refl 0) (Nat.le_refl 0) ⟨_, rfl, rfl, hG, h⟩
set_option maxRecDepth 100000 in
set_option maxHeartbeats 4000000 in
theorem rX12_fail {d : Nat} {x1 : Int32} {x2 : Int32} {M : mm_M} {K : mm_M → Prop} (hG : mm_G M.2.2) (h : if (M.1 164 5) = 0 then (K (mm_uI (mm_uI M 164 5 x1) 164 6 x2)) else (K M)) : mm_CV mX12_fail d [.ref 164, .int x1, .int x2] M K := by
  show mm_W mX12_fail d 0 0 0 [(0, .ref 164), (1, .int x1), (2, .int x2)] [] mm_SH M 0 0 (mm_PV K)
  refine mm_aload_n (j := 0) dX12_fail_0 rfl rfl ?_
  refine mm_getI (ci := 12) (N := 116) dX12_fail_1 fX12_260 sh_164 rfl ?_
  refine mm_if_eq (tgt := 8) dX12_fail_4 (by decide) (fun hc => ?_) (fun hc => ?_)
  · rw [if_pos hc] at h
    refine mm_aload_n (j := 0) dX12_fail_8 rfl rfl ?_
    refine mm_iload_n (j := 1) dX12_fail_9 rfl rfl ?_
    refine mm_putI (ci := 12) (N := 116) dX12_fail_10 fX12_260 sh_164 (by decide +kernel) rfl rfl rfl ?_
    refine mm_aload_n (j := 0) dX12_fail_13 rfl rfl ?_
    refine mm_iload_n (j := 2) dX12_fail_14 rfl rfl ?_
    refine mm_putI (ci := 12) (N := 116) dX12_fail_15 fX12_263 sh_164 (by decide +kernel) rfl rfl rfl ?_
    exact mm_vret dX12_fail_18 rfl (Nat.le_refl 0) (Nat.le_refl 0) ⟨rfl, rfl, hG, h⟩
  · rw [if_neg hc] at h
    exact mm_vret dX12_fail_7 rfl (Nat.le_refl 0) (Nat.le_refl 0) ⟨rfl, rfl, hG, h⟩
set_option maxRecDepth 100000 in
set_option maxHeartbeats 4000000 in
theorem rX12_isLetter {d : Nat} {x0 : Int32} {M : mm_M} {K : Int32 → mm_M → Prop} (hG : mm_G M.2.2) (h : if x0 < 97 then (K 0 M) else (if 122 < x0 then (K 0 M) else (K 1 M))) : mm_CI mX12_isLetter d [.int x0] M K := by
  show mm_W mX12_isLetter d 0 0 0 [(0, .int x0)] [] mm_SH M 0 0 (mm_PI K)
  refine mm_iload_n (j := 0) dX12_isLetter_0 rfl rfl ?_
  refine mm_bipush (x := 97) dX12_isLetter_1 rfl ?_
  refine mm_icmp_lt (tgt := 16) dX12_isLetter_3 (by decide) (fun hc => ?_) (fun hc => ?_)
  · rw [if_pos hc] at h
    refine mm_iconst (x := 0) dX12_isLetter_16 rfl ?_
    exact mm_zret dX12_isLetter_17 rfl rfl (Nat.le_refl 0) (Nat.le_refl 0) ⟨_, rfl, rfl, hG, h⟩
  · rw [if_neg hc] at h
    refine mm_iload_n (j := 0) dX12_isLetter_6 rfl rfl ?_
    refine mm_bipush (x := 122) dX12_isLetter_7 rfl ?_
    refine mm_icmp_gt (tgt := 16) dX12_isLetter_9 (by decide) (fun hc => ?_) (fun hc => ?_)
    · rw [if_pos hc] at h
      refine mm_iconst (x := 0) dX12_isLetter_16 rfl ?_
      exact mm_zret dX12_isLetter_17 rfl rfl (Nat.le_refl 0) (Nat.le_refl 0) ⟨_, rfl, rfl, hG, h⟩
    · rw [if_neg hc] at h
      refine mm_iconst (x := 1) dX12_isLetter_12 rfl ?_
      refine mm_goto (tgt := 17) dX12_isLetter_13 (by decide) ?_
      exact mm_zret dX12_isLetter_17 rfl rfl (Nat.le_refl 0) (Nat.le_refl 0) ⟨_, rfl, rfl, hG, h⟩
set_option maxRecDepth 100000 in
set_option maxHeartbeats 4000000 in
theorem rX12_isDigit {d : Nat} {x0 : Int32} {M : mm_M} {K : Int32 → mm_M → Prop} (hG : mm_G M.2.2) (h : if x0 < 48 then (K 0 M) else (if 57 < x0 then (K 0 M) else (K 1 M))) : mm_CI mX12_isDigit d [.int x0] M K := by
  show mm_W mX12_isDigit d 0 0 0 [(0, .int x0)] [] mm_SH M 0 0 (mm_PI K)
  refine mm_iload_n (j := 0) dX12_isDigit_0 rfl rfl ?_
  refine mm_bipush (x := 48) dX12_isDigit_1 rfl ?_
  refine mm_icmp_lt (tgt := 16) dX12_isDigit_3 (by decide) (fun hc => ?_) (fun hc => ?_)
  · rw [if_pos hc] at h
    refine mm_iconst (x := 0) dX12_isDigit_16 rfl ?_
    exact mm_zret dX12_isDigit_17 rfl rfl (Nat.le_refl 0) (Nat.le_refl 0) ⟨_, rfl, rfl, hG, h⟩
  · rw [if_neg hc] at h
    refine mm_iload_n (j := 0) dX12_isDigit_6 rfl rfl ?_
    refine mm_bipush (x := 57) dX12_isDigit_7 rfl ?_
    refine mm_icmp_gt (tgt := 16) dX12_isDigit_9 (by decide) (fun hc => ?_) (fun hc => ?_)
    · rw [if_pos hc] at h
      refine mm_iconst (x := 0) dX12_isDigit_16 rfl ?_
      exact mm_zret dX12_isDigit_17 rfl rfl (Nat.le_refl 0) (Nat.le_refl 0) ⟨_, rfl, rfl, hG, h⟩
    · rw [if_neg hc] at h
      refine mm_iconst (x := 1) dX12_isDigit_12 rfl ?_
      refine mm_goto (tgt := 17) dX12_isDigit_13 (by decide) ?_
      exact mm_zret dX12_isDigit_17 rfl rfl (Nat.le_refl 0) (Nat.le_refl 0) ⟨_, rfl, rfl, hG, h⟩
def jX12_look_0 (d : Nat) (M : mm_M) (K : Int32 → mm_M → Prop) : Prop := mm_W mX12_look d 0 0 0 [(0, .ref 164)] [] mm_SH M 0 0 (mm_PI K)
set_option maxRecDepth 100000 in
set_option maxHeartbeats 4000000 in
theorem rX12_look {d : Nat} {M : mm_M} {K : Int32 → mm_M → Prop} (hG : mm_G M.2.2) (h : if (M.1 164 3) ≤ (M.1 164 2) then (if (M.1 164 3) ≤ (M.1 164 2) then (K (-1) M) else (vp_in (M.1 164 2) 1600 ∧ K (M.1 165 (M.1 164 2).toNatClampNeg) M)) else (vp_in (M.1 164 2) 1600 ∧ if (M.1 165 (M.1 164 2).toNatClampNeg) = 10 then (jX12_look_0 d (mm_uI M 164 2 ((M.1 164 2) + 1)) K) else (vp_in (M.1 164 2) 1600 ∧ if (M.1 165 (M.1 164 2).toNatClampNeg) = 32 then (jX12_look_0 d (mm_uI M 164 2 ((M.1 164 2) + 1)) K) else (if (M.1 164 3) ≤ (M.1 164 2) then (K (-1) M) else (vp_in (M.1 164 2) 1600 ∧ K (M.1 165 (M.1 164 2).toNatClampNeg) M))))) : mm_CI mX12_look d [.ref 164] M K := by
  show mm_W mX12_look d 0 0 0 [(0, .ref 164)] [] mm_SH M 0 0 (mm_PI K)
  refine mm_aload_n (j := 0) dX12_look_0 rfl rfl ?_
  refine mm_getI (ci := 12) (N := 116) dX12_look_1 fX12_266 sh_164 rfl ?_
  refine mm_aload_n (j := 0) dX12_look_4 rfl rfl ?_
  refine mm_getI (ci := 12) (N := 116) dX12_look_5 fX12_269 sh_164 rfl ?_
  refine mm_icmp_ge (tgt := 52) dX12_look_8 (by decide) (fun hc => ?_) (fun hc => ?_)
  · rw [if_pos hc] at h
    refine mm_aload_n (j := 0) dX12_look_52 rfl rfl ?_
    refine mm_getI (ci := 12) (N := 116) dX12_look_53 fX12_266 sh_164 rfl ?_
    refine mm_aload_n (j := 0) dX12_look_56 rfl rfl ?_
    refine mm_getI (ci := 12) (N := 116) dX12_look_57 fX12_269 sh_164 rfl ?_
    refine mm_icmp_ge (tgt := 75) dX12_look_60 (by decide) (fun hc => ?_) (fun hc => ?_)
    · rw [if_pos hc] at h
      refine mm_iconst (x := (-1)) dX12_look_75 rfl ?_
      exact mm_iret dX12_look_76 rfl (Nat.le_refl 0) (Nat.le_refl 0) ⟨_, rfl, rfl, hG, h⟩
    · rw [if_neg hc] at h
      refine mm_aload_n (j := 0) dX12_look_63 rfl rfl ?_
      refine mm_getR (ci := 12) (N := 116) (r := 165) dX12_look_64 fX12_7 sh_164 rfl (g_164_0 hG) ?_
      refine mm_aload_n (j := 0) dX12_look_67 rfl rfl ?_
      refine mm_getI (ci := 12) (N := 116) dX12_look_68 fX12_266 sh_164 rfl ?_
      obtain ⟨hi71, h⟩ := h
      refine mm_iaload (N := 1600) dX12_look_71 sh_165 hi71 ?_
      refine mm_goto (tgt := 76) dX12_look_72 (by decide) ?_
      exact mm_iret dX12_look_76 rfl (Nat.le_refl 0) (Nat.le_refl 0) ⟨_, rfl, rfl, hG, h⟩
  · rw [if_neg hc] at h
    refine mm_aload_n (j := 0) dX12_look_11 rfl rfl ?_
    refine mm_getR (ci := 12) (N := 116) (r := 165) dX12_look_12 fX12_7 sh_164 rfl (g_164_0 hG) ?_
    refine mm_aload_n (j := 0) dX12_look_15 rfl rfl ?_
    refine mm_getI (ci := 12) (N := 116) dX12_look_16 fX12_266 sh_164 rfl ?_
    obtain ⟨hi19, h⟩ := h
    refine mm_iaload (N := 1600) dX12_look_19 sh_165 hi19 ?_
    refine mm_bipush (x := 10) dX12_look_20 rfl ?_
    refine mm_icmp_eq (tgt := 39) dX12_look_22 (by decide) (fun hc => ?_) (fun hc => ?_)
    · rw [if_pos hc] at h
      refine mm_aload_n (j := 0) dX12_look_39 rfl rfl ?_
      refine mm_dup dX12_look_40 rfl ?_
      refine mm_getI (ci := 12) (N := 116) dX12_look_41 fX12_266 sh_164 rfl ?_
      refine mm_iconst (x := 1) dX12_look_44 rfl ?_
      refine mm_iadd dX12_look_45 ?_
      refine mm_putI (ci := 12) (N := 116) dX12_look_46 fX12_266 sh_164 (by decide +kernel) rfl rfl rfl ?_
      refine mm_goto (tgt := 0) dX12_look_49 (by decide) ?_
      exact h
    · rw [if_neg hc] at h
      refine mm_aload_n (j := 0) dX12_look_25 rfl rfl ?_
      refine mm_getR (ci := 12) (N := 116) (r := 165) dX12_look_26 fX12_7 sh_164 rfl (g_164_0 hG) ?_
      refine mm_aload_n (j := 0) dX12_look_29 rfl rfl ?_
      refine mm_getI (ci := 12) (N := 116) dX12_look_30 fX12_266 sh_164 rfl ?_
      obtain ⟨hi33, h⟩ := h
      refine mm_iaload (N := 1600) dX12_look_33 sh_165 hi33 ?_
      refine mm_bipush (x := 32) dX12_look_34 rfl ?_
      refine mm_icmp_ne (tgt := 52) dX12_look_36 (by decide) (fun hc => ?_) (fun hc => ?_)
      · rw [if_neg hc] at h
        refine mm_aload_n (j := 0) dX12_look_52 rfl rfl ?_
        refine mm_getI (ci := 12) (N := 116) dX12_look_53 fX12_266 sh_164 rfl ?_
        refine mm_aload_n (j := 0) dX12_look_56 rfl rfl ?_
        refine mm_getI (ci := 12) (N := 116) dX12_look_57 fX12_269 sh_164 rfl ?_
        refine mm_icmp_ge (tgt := 75) dX12_look_60 (by decide) (fun hc => ?_) (fun hc => ?_)
        · rw [if_pos hc] at h
          refine mm_iconst (x := (-1)) dX12_look_75 rfl ?_
          exact mm_iret dX12_look_76 rfl (Nat.le_refl 0) (Nat.le_refl 0) ⟨_, rfl, rfl, hG, h⟩
        · rw [if_neg hc] at h
          refine mm_aload_n (j := 0) dX12_look_63 rfl rfl ?_
          refine mm_getR (ci := 12) (N := 116) (r := 165) dX12_look_64 fX12_7 sh_164 rfl (g_164_0 hG) ?_
          refine mm_aload_n (j := 0) dX12_look_67 rfl rfl ?_
          refine mm_getI (ci := 12) (N := 116) dX12_look_68 fX12_266 sh_164 rfl ?_
          obtain ⟨hi71, h⟩ := h
          refine mm_iaload (N := 1600) dX12_look_71 sh_165 hi71 ?_
          refine mm_goto (tgt := 76) dX12_look_72 (by decide) ?_
          exact mm_iret dX12_look_76 rfl (Nat.le_refl 0) (Nat.le_refl 0) ⟨_, rfl, rfl, hG, h⟩
      · rw [if_pos hc] at h
        refine mm_aload_n (j := 0) dX12_look_39 rfl rfl ?_
        refine mm_dup dX12_look_40 rfl ?_
        refine mm_getI (ci := 12) (N := 116) dX12_look_41 fX12_266 sh_164 rfl ?_
        refine mm_iconst (x := 1) dX12_look_44 rfl ?_
        refine mm_iadd dX12_look_45 ?_
        refine mm_putI (ci := 12) (N := 116) dX12_look_46 fX12_266 sh_164 (by decide +kernel) rfl rfl rfl ?_
        refine mm_goto (tgt := 0) dX12_look_49 (by decide) ?_
        exact h
set_option maxRecDepth 100000 in
set_option maxHeartbeats 4000000 in
theorem lX12_look_0 {d : Nat} {M : mm_M} {K : Int32 → mm_M → Prop} (hG : mm_G M.2.2) (h : if (M.1 164 3) ≤ (M.1 164 2) then (if (M.1 164 3) ≤ (M.1 164 2) then (K (-1) M) else (vp_in (M.1 164 2) 1600 ∧ K (M.1 165 (M.1 164 2).toNatClampNeg) M)) else (vp_in (M.1 164 2) 1600 ∧ if (M.1 165 (M.1 164 2).toNatClampNeg) = 10 then (jX12_look_0 d (mm_uI M 164 2 ((M.1 164 2) + 1)) K) else (vp_in (M.1 164 2) 1600 ∧ if (M.1 165 (M.1 164 2).toNatClampNeg) = 32 then (jX12_look_0 d (mm_uI M 164 2 ((M.1 164 2) + 1)) K) else (if (M.1 164 3) ≤ (M.1 164 2) then (K (-1) M) else (vp_in (M.1 164 2) 1600 ∧ K (M.1 165 (M.1 164 2).toNatClampNeg) M))))) : jX12_look_0 d  M K  := by
  unfold jX12_look_0
  refine mm_aload_n (j := 0) dX12_look_0 rfl rfl ?_
  refine mm_getI (ci := 12) (N := 116) dX12_look_1 fX12_266 sh_164 rfl ?_
  refine mm_aload_n (j := 0) dX12_look_4 rfl rfl ?_
  refine mm_getI (ci := 12) (N := 116) dX12_look_5 fX12_269 sh_164 rfl ?_
  refine mm_icmp_ge (tgt := 52) dX12_look_8 (by decide) (fun hc => ?_) (fun hc => ?_)
  · rw [if_pos hc] at h
    refine mm_aload_n (j := 0) dX12_look_52 rfl rfl ?_
    refine mm_getI (ci := 12) (N := 116) dX12_look_53 fX12_266 sh_164 rfl ?_
    refine mm_aload_n (j := 0) dX12_look_56 rfl rfl ?_
    refine mm_getI (ci := 12) (N := 116) dX12_look_57 fX12_269 sh_164 rfl ?_
    refine mm_icmp_ge (tgt := 75) dX12_look_60 (by decide) (fun hc => ?_) (fun hc => ?_)
    · rw [if_pos hc] at h
      refine mm_iconst (x := (-1)) dX12_look_75 rfl ?_
      exact mm_iret dX12_look_76 rfl (Nat.le_refl 0) (Nat.le_refl 0) ⟨_, rfl, rfl, hG, h⟩
    · rw [if_neg hc] at h
      refine mm_aload_n (j := 0) dX12_look_63 rfl rfl ?_
      refine mm_getR (ci := 12) (N := 116) (r := 165) dX12_look_64 fX12_7 sh_164 rfl (g_164_0 hG) ?_
      refine mm_aload_n (j := 0) dX12_look_67 rfl rfl ?_
      refine mm_getI (ci := 12) (N := 116) dX12_look_68 fX12_266 sh_164 rfl ?_
      obtain ⟨hi71, h⟩ := h
      refine mm_iaload (N := 1600) dX12_look_71 sh_165 hi71 ?_
      refine mm_goto (tgt := 76) dX12_look_72 (by decide) ?_
      exact mm_iret dX12_look_76 rfl (Nat.le_refl 0) (Nat.le_refl 0) ⟨_, rfl, rfl, hG, h⟩
  · rw [if_neg hc] at h
    refine mm_aload_n (j := 0) dX12_look_11 rfl rfl ?_
    refine mm_getR (ci := 12) (N := 116) (r := 165) dX12_look_12 fX12_7 sh_164 rfl (g_164_0 hG) ?_
    refine mm_aload_n (j := 0) dX12_look_15 rfl rfl ?_
    refine mm_getI (ci := 12) (N := 116) dX12_look_16 fX12_266 sh_164 rfl ?_
    obtain ⟨hi19, h⟩ := h
    refine mm_iaload (N := 1600) dX12_look_19 sh_165 hi19 ?_
    refine mm_bipush (x := 10) dX12_look_20 rfl ?_
    refine mm_icmp_eq (tgt := 39) dX12_look_22 (by decide) (fun hc => ?_) (fun hc => ?_)
    · rw [if_pos hc] at h
      refine mm_aload_n (j := 0) dX12_look_39 rfl rfl ?_
      refine mm_dup dX12_look_40 rfl ?_
      refine mm_getI (ci := 12) (N := 116) dX12_look_41 fX12_266 sh_164 rfl ?_
      refine mm_iconst (x := 1) dX12_look_44 rfl ?_
      refine mm_iadd dX12_look_45 ?_
      refine mm_putI (ci := 12) (N := 116) dX12_look_46 fX12_266 sh_164 (by decide +kernel) rfl rfl rfl ?_
      refine mm_goto (tgt := 0) dX12_look_49 (by decide) ?_
      exact h
    · rw [if_neg hc] at h
      refine mm_aload_n (j := 0) dX12_look_25 rfl rfl ?_
      refine mm_getR (ci := 12) (N := 116) (r := 165) dX12_look_26 fX12_7 sh_164 rfl (g_164_0 hG) ?_
      refine mm_aload_n (j := 0) dX12_look_29 rfl rfl ?_
      refine mm_getI (ci := 12) (N := 116) dX12_look_30 fX12_266 sh_164 rfl ?_
      obtain ⟨hi33, h⟩ := h
      refine mm_iaload (N := 1600) dX12_look_33 sh_165 hi33 ?_
      refine mm_bipush (x := 32) dX12_look_34 rfl ?_
      refine mm_icmp_ne (tgt := 52) dX12_look_36 (by decide) (fun hc => ?_) (fun hc => ?_)
      · rw [if_neg hc] at h
        refine mm_aload_n (j := 0) dX12_look_52 rfl rfl ?_
        refine mm_getI (ci := 12) (N := 116) dX12_look_53 fX12_266 sh_164 rfl ?_
        refine mm_aload_n (j := 0) dX12_look_56 rfl rfl ?_
        refine mm_getI (ci := 12) (N := 116) dX12_look_57 fX12_269 sh_164 rfl ?_
        refine mm_icmp_ge (tgt := 75) dX12_look_60 (by decide) (fun hc => ?_) (fun hc => ?_)
        · rw [if_pos hc] at h
          refine mm_iconst (x := (-1)) dX12_look_75 rfl ?_
          exact mm_iret dX12_look_76 rfl (Nat.le_refl 0) (Nat.le_refl 0) ⟨_, rfl, rfl, hG, h⟩
        · rw [if_neg hc] at h
          refine mm_aload_n (j := 0) dX12_look_63 rfl rfl ?_
          refine mm_getR (ci := 12) (N := 116) (r := 165) dX12_look_64 fX12_7 sh_164 rfl (g_164_0 hG) ?_
          refine mm_aload_n (j := 0) dX12_look_67 rfl rfl ?_
          refine mm_getI (ci := 12) (N := 116) dX12_look_68 fX12_266 sh_164 rfl ?_
          obtain ⟨hi71, h⟩ := h
          refine mm_iaload (N := 1600) dX12_look_71 sh_165 hi71 ?_
          refine mm_goto (tgt := 76) dX12_look_72 (by decide) ?_
          exact mm_iret dX12_look_76 rfl (Nat.le_refl 0) (Nat.le_refl 0) ⟨_, rfl, rfl, hG, h⟩
      · rw [if_pos hc] at h
        refine mm_aload_n (j := 0) dX12_look_39 rfl rfl ?_
        refine mm_dup dX12_look_40 rfl ?_
        refine mm_getI (ci := 12) (N := 116) dX12_look_41 fX12_266 sh_164 rfl ?_
        refine mm_iconst (x := 1) dX12_look_44 rfl ?_
        refine mm_iadd dX12_look_45 ?_
        refine mm_putI (ci := 12) (N := 116) dX12_look_46 fX12_266 sh_164 (by decide +kernel) rfl rfl rfl ?_
        refine mm_goto (tgt := 0) dX12_look_49 (by decide) ?_
        exact h
def jX12_isHere_35 (d : Nat) (r1 : Nat) (n1 : Nat) (M : mm_M) (K : Int32 → mm_M → Prop) (y2 : Int32) : Prop := mm_W mX12_isHere (d + 1) 0 0 35 [(0, .ref 164), (1, .ref r1), (2, .int y2)] [] mm_SH M 0 0 (mm_PI K)
def jX12_isHere_76 (d : Nat) (r1 : Nat) (n1 : Nat) (M : mm_M) (K : Int32 → mm_M → Prop) (y3 : Int32) : Prop := mm_W mX12_isHere (d + 1) 0 0 76 [(0, .ref 164), (1, .ref r1), (3, .int y3)] [] mm_SH M 0 0 (mm_PI K)
set_option maxRecDepth 100000 in
set_option maxHeartbeats 4000000 in
theorem rX12_isHere {d : Nat} {r1 : Nat} {n1 : Nat} {M : mm_M} {K : Int32 → mm_M → Prop} (hr1 : mm_SH[r1]? = some (2, n1)) (hG : mm_G M.2.2) (h : if (M.1 164 5) = 0 then (mm_CI mX12_look d [.ref 164] M (fun z8 m8 => mm_CI mX12_isLetter d [.int z8] m8 (fun z11 m11 => if z11 = 0 then (K 0 m11) else (if (m11.1 164 2) = (m11.1 164 4) then (K 0 m11) else (jX12_isHere_35 d r1 n1 m11 K (m11.1 164 2)))))) else (K 0 M)) : mm_CI mX12_isHere (d + 1) [.ref 164, .ref r1] M K := by
  show mm_W mX12_isHere (d + 1) 0 0 0 [(0, .ref 164), (1, .ref r1)] [] mm_SH M 0 0 (mm_PI K)
  refine mm_aload_n (j := 0) dX12_isHere_0 rfl rfl ?_
  refine mm_getI (ci := 12) (N := 116) dX12_isHere_1 fX12_260 sh_164 rfl ?_
  refine mm_if_ne (tgt := 28) dX12_isHere_4 (by decide) (fun hc => ?_) (fun hc => ?_)
  · rw [if_neg hc] at h
    refine mm_iconst (x := 0) dX12_isHere_28 rfl ?_
    exact mm_zret dX12_isHere_29 rfl rfl (Nat.le_refl 0) (Nat.le_refl 0) ⟨_, rfl, rfl, hG, h⟩
  · rw [if_pos hc] at h
    refine mm_aload_n (j := 0) dX12_isHere_7 rfl rfl ?_
    refine mm_kVI [] dX12_isHere_8 kX12_272 rfl sh_164 (by decide) (by decide) h (fun z8 m8 hG h => ?_)
    refine mm_kSI [.int z8] dX12_isHere_11 kX12_276 rfl (by decide) (by decide) h (fun z11 m11 hG h => ?_)
    refine mm_if_eq (tgt := 28) dX12_isHere_14 (by decide) (fun hc => ?_) (fun hc => ?_)
    · rw [if_pos hc] at h
      refine mm_iconst (x := 0) dX12_isHere_28 rfl ?_
      exact mm_zret dX12_isHere_29 rfl rfl (Nat.le_refl 0) (Nat.le_refl 0) ⟨_, rfl, rfl, hG, h⟩
    · rw [if_neg hc] at h
      refine mm_aload_n (j := 0) dX12_isHere_17 rfl rfl ?_
      refine mm_getI (ci := 12) (N := 116) dX12_isHere_18 fX12_266 sh_164 rfl ?_
      refine mm_aload_n (j := 0) dX12_isHere_21 rfl rfl ?_
      refine mm_getI (ci := 12) (N := 116) dX12_isHere_22 fX12_280 sh_164 rfl ?_
      refine mm_icmp_ne (tgt := 30) dX12_isHere_25 (by decide) (fun hc => ?_) (fun hc => ?_)
      · rw [if_neg hc] at h
        refine mm_aload_n (j := 0) dX12_isHere_30 rfl rfl ?_
        refine mm_getI (ci := 12) (N := 116) dX12_isHere_31 fX12_266 sh_164 rfl ?_
        refine mm_istore_n (lv' := [(2, .int (m11.1 164 2)), (0, .ref 164), (1, .ref r1)]) dX12_isHere_34 rfl (by decide) rfl ?_
        exact mm_sub [1, 2, 0] rfl h
      · rw [if_pos hc] at h
        refine mm_iconst (x := 0) dX12_isHere_28 rfl ?_
        exact mm_zret dX12_isHere_29 rfl rfl (Nat.le_refl 0) (Nat.le_refl 0) ⟨_, rfl, rfl, hG, h⟩
set_option maxRecDepth 100000 in
set_option maxHeartbeats 4000000 in
theorem lX12_isHere_35 {d : Nat} {r1 : Nat} {n1 : Nat} {M : mm_M} {K : Int32 → mm_M → Prop} {y2 : Int32} (hr1 : mm_SH[r1]? = some (2, n1)) (hG : mm_G M.2.2) (h : if (M.1 164 3) ≤ y2 then (if (y2 - (M.1 164 2)) = (nI n1) then (jX12_isHere_76 d r1 n1 M K 0) else (K 0 M)) else (vp_in y2 1600 ∧ mm_CI mX12_isLetter d [.int (M.1 165 (y2).toNatClampNeg)] M (fun z49 m49 => if z49 = 0 then (if (y2 - (m49.1 164 2)) = (nI n1) then (jX12_isHere_76 d r1 n1 m49 K 0) else (K 0 m49)) else (jX12_isHere_35 d r1 n1 m49 K (y2 + 1))))) : jX12_isHere_35 d r1 n1 M K y2 := by
  unfold jX12_isHere_35
  refine mm_iload_n (j := 2) dX12_isHere_35 rfl rfl ?_
  refine mm_aload_n (j := 0) dX12_isHere_36 rfl rfl ?_
  refine mm_getI (ci := 12) (N := 116) dX12_isHere_37 fX12_269 sh_164 rfl ?_
  refine mm_icmp_ge (tgt := 61) dX12_isHere_40 (by decide) (fun hc => ?_) (fun hc => ?_)
  · rw [if_pos hc] at h
    refine mm_iload_n (j := 2) dX12_isHere_61 rfl rfl ?_
    refine mm_aload_n (j := 0) dX12_isHere_62 rfl rfl ?_
    refine mm_getI (ci := 12) (N := 116) dX12_isHere_63 fX12_266 sh_164 rfl ?_
    refine mm_isub dX12_isHere_66 ?_
    refine mm_aload_n (j := 1) dX12_isHere_67 rfl rfl ?_
    refine mm_alen (t := 2) (N := n1) dX12_isHere_68 hr1 (by decide) ?_
    refine mm_icmp_eq (tgt := 74) dX12_isHere_69 (by decide) (fun hc => ?_) (fun hc => ?_)
    · rw [if_pos hc] at h
      refine mm_iconst (x := 0) dX12_isHere_74 rfl ?_
      refine mm_istore_n (lv' := [(3, .int 0), (0, .ref 164), (1, .ref r1), (2, .int y2)]) dX12_isHere_75 rfl (by decide) rfl ?_
      exact mm_sub [1, 2, 0] rfl h
    · rw [if_neg hc] at h
      refine mm_iconst (x := 0) dX12_isHere_72 rfl ?_
      exact mm_zret dX12_isHere_73 rfl rfl (Nat.le_refl 0) (Nat.le_refl 0) ⟨_, rfl, rfl, hG, h⟩
  · rw [if_neg hc] at h
    refine mm_aload_n (j := 0) dX12_isHere_43 rfl rfl ?_
    refine mm_getR (ci := 12) (N := 116) (r := 165) dX12_isHere_44 fX12_7 sh_164 rfl (g_164_0 hG) ?_
    refine mm_iload_n (j := 2) dX12_isHere_47 rfl rfl ?_
    obtain ⟨hi48, h⟩ := h
    refine mm_iaload (N := 1600) dX12_isHere_48 sh_165 hi48 ?_
    refine mm_kSI [.int (M.1 165 (y2).toNatClampNeg)] dX12_isHere_49 kX12_276 rfl (by decide) (by decide) h (fun z49 m49 hG h => ?_)
    refine mm_if_eq (tgt := 61) dX12_isHere_52 (by decide) (fun hc => ?_) (fun hc => ?_)
    · rw [if_pos hc] at h
      refine mm_iload_n (j := 2) dX12_isHere_61 rfl rfl ?_
      refine mm_aload_n (j := 0) dX12_isHere_62 rfl rfl ?_
      refine mm_getI (ci := 12) (N := 116) dX12_isHere_63 fX12_266 sh_164 rfl ?_
      refine mm_isub dX12_isHere_66 ?_
      refine mm_aload_n (j := 1) dX12_isHere_67 rfl rfl ?_
      refine mm_alen (t := 2) (N := n1) dX12_isHere_68 hr1 (by decide) ?_
      refine mm_icmp_eq (tgt := 74) dX12_isHere_69 (by decide) (fun hc => ?_) (fun hc => ?_)
      · rw [if_pos hc] at h
        refine mm_iconst (x := 0) dX12_isHere_74 rfl ?_
        refine mm_istore_n (lv' := [(3, .int 0), (0, .ref 164), (1, .ref r1), (2, .int y2)]) dX12_isHere_75 rfl (by decide) rfl ?_
        exact mm_sub [1, 2, 0] rfl h
      · rw [if_neg hc] at h
        refine mm_iconst (x := 0) dX12_isHere_72 rfl ?_
        exact mm_zret dX12_isHere_73 rfl rfl (Nat.le_refl 0) (Nat.le_refl 0) ⟨_, rfl, rfl, hG, h⟩
    · rw [if_neg hc] at h
      refine mm_iinc (j := 2) (v := y2 + 1) (lv' := [(2, .int (y2 + 1)), (0, .ref 164), (1, .ref r1)]) dX12_isHere_55 rfl rfl (by decide) rfl ?_
      refine mm_goto (tgt := 35) dX12_isHere_58 (by decide) ?_
      exact mm_sub [1, 2, 0] rfl h
set_option maxRecDepth 100000 in
set_option maxHeartbeats 4000000 in
theorem lX12_isHere_76 {d : Nat} {r1 : Nat} {n1 : Nat} {M : mm_M} {K : Int32 → mm_M → Prop} {y3 : Int32} (hr1 : mm_SH[r1]? = some (2, n1)) (hG : mm_G M.2.2) (h : if (nI n1) ≤ y3 then (K 1 M) else (vp_in ((M.1 164 2) + y3) 1600 ∧ vp_in y3 n1 ∧ if (M.1 165 ((M.1 164 2) + y3).toNatClampNeg) = (M.1 r1 (y3).toNatClampNeg) then (jX12_isHere_76 d r1 n1 M K (y3 + 1)) else (K 0 M))) : jX12_isHere_76 d r1 n1 M K y3 := by
  unfold jX12_isHere_76
  refine mm_iload_n (j := 2) dX12_isHere_76 rfl rfl ?_
  refine mm_aload_n (j := 1) dX12_isHere_77 rfl rfl ?_
  refine mm_alen (t := 2) (N := n1) dX12_isHere_78 hr1 (by decide) ?_
  refine mm_icmp_ge (tgt := 107) dX12_isHere_79 (by decide) (fun hc => ?_) (fun hc => ?_)
  · rw [if_pos hc] at h
    refine mm_iconst (x := 1) dX12_isHere_107 rfl ?_
    exact mm_zret dX12_isHere_108 rfl rfl (Nat.le_refl 0) (Nat.le_refl 0) ⟨_, rfl, rfl, hG, h⟩
  · rw [if_neg hc] at h
    refine mm_aload_n (j := 0) dX12_isHere_82 rfl rfl ?_
    refine mm_getR (ci := 12) (N := 116) (r := 165) dX12_isHere_83 fX12_7 sh_164 rfl (g_164_0 hG) ?_
    refine mm_aload_n (j := 0) dX12_isHere_86 rfl rfl ?_
    refine mm_getI (ci := 12) (N := 116) dX12_isHere_87 fX12_266 sh_164 rfl ?_
    refine mm_iload_n (j := 2) dX12_isHere_90 rfl rfl ?_
    refine mm_iadd dX12_isHere_91 ?_
    obtain ⟨hi92, h⟩ := h
    refine mm_iaload (N := 1600) dX12_isHere_92 sh_165 hi92 ?_
    refine mm_aload_n (j := 1) dX12_isHere_93 rfl rfl ?_
    refine mm_iload_n (j := 2) dX12_isHere_94 rfl rfl ?_
    obtain ⟨hi95, h⟩ := h
    refine mm_caload (N := n1) dX12_isHere_95 hr1 hi95 ?_
    refine mm_icmp_eq (tgt := 101) dX12_isHere_96 (by decide) (fun hc => ?_) (fun hc => ?_)
    · rw [if_pos hc] at h
      refine mm_iinc (j := 2) (v := y3 + 1) (lv' := [(3, .int (y3 + 1)), (0, .ref 164), (1, .ref r1)]) dX12_isHere_101 rfl rfl (by decide) rfl ?_
      refine mm_goto (tgt := 76) dX12_isHere_104 (by decide) ?_
      exact mm_sub [1, 2, 0] rfl h
    · rw [if_neg hc] at h
      refine mm_iconst (x := 0) dX12_isHere_99 rfl ?_
      exact mm_zret dX12_isHere_100 rfl rfl (Nat.le_refl 0) (Nat.le_refl 0) ⟨_, rfl, rfl, hG, h⟩
set_option maxRecDepth 100000 in
set_option maxHeartbeats 4000000 in
theorem rX12_takes {d : Nat} {r1 : Nat} {n1 : Nat} {M : mm_M} {K : Int32 → mm_M → Prop} (hr1 : mm_SH[r1]? = some (2, n1)) (hG : mm_G M.2.2) (h : mm_CI mX12_isHere d [.ref 164, .ref r1] M (fun z2 m2 => if z2 = 0 then (K 0 m2) else (K 1 (mm_uI (mm_uI m2 164 2 ((m2.1 164 2) + (nI n1))) 164 4 ((mm_uI m2 164 2 ((m2.1 164 2) + (nI n1))).1 164 2))))) : mm_CI mX12_takes (d + 1) [.ref 164, .ref r1] M K := by
  show mm_W mX12_takes (d + 1) 0 0 0 [(0, .ref 164), (1, .ref r1)] [] mm_SH M 0 0 (mm_PI K)
  refine mm_aload_n (j := 0) dX12_takes_0 rfl rfl ?_
  refine mm_aload_n (j := 1) dX12_takes_1 rfl rfl ?_
  refine mm_kVI [.ref r1] dX12_takes_2 kX12_283 rfl sh_164 (by decide) (by decide) h (fun z2 m2 hG h => ?_)
  refine mm_if_ne (tgt := 10) dX12_takes_5 (by decide) (fun hc => ?_) (fun hc => ?_)
  · rw [if_neg hc] at h
    refine mm_aload_n (j := 0) dX12_takes_10 rfl rfl ?_
    refine mm_dup dX12_takes_11 rfl ?_
    refine mm_getI (ci := 12) (N := 116) dX12_takes_12 fX12_266 sh_164 rfl ?_
    refine mm_aload_n (j := 1) dX12_takes_15 rfl rfl ?_
    refine mm_alen (t := 2) (N := n1) dX12_takes_16 hr1 (by decide) ?_
    refine mm_iadd dX12_takes_17 ?_
    refine mm_putI (ci := 12) (N := 116) dX12_takes_18 fX12_266 sh_164 (by decide +kernel) rfl rfl rfl ?_
    refine mm_aload_n (j := 0) dX12_takes_21 rfl rfl ?_
    refine mm_aload_n (j := 0) dX12_takes_22 rfl rfl ?_
    refine mm_getI (ci := 12) (N := 116) dX12_takes_23 fX12_266 sh_164 rfl ?_
    refine mm_putI (ci := 12) (N := 116) dX12_takes_26 fX12_280 sh_164 (by decide +kernel) rfl rfl rfl ?_
    refine mm_iconst (x := 1) dX12_takes_29 rfl ?_
    exact mm_zret dX12_takes_30 rfl rfl (Nat.le_refl 0) (Nat.le_refl 0) ⟨_, rfl, rfl, hG, h⟩
  · rw [if_pos hc] at h
    refine mm_iconst (x := 0) dX12_takes_8 rfl ?_
    exact mm_zret dX12_takes_9 rfl rfl (Nat.le_refl 0) (Nat.le_refl 0) ⟨_, rfl, rfl, hG, h⟩
set_option maxRecDepth 100000 in
set_option maxHeartbeats 4000000 in
theorem rX12_asks {d : Nat} {r1 : Nat} {n1 : Nat} {M : mm_M} {K : mm_M → Prop} (hr1 : mm_SH[r1]? = some (2, n1)) (hG : mm_G M.2.2) (h : if (M.1 164 5) = 0 then (mm_CI mX12_takes d [.ref 164, .ref r1] M (fun z9 m9 => if z9 = 0 then (mm_CV mX12_fail d [.ref 164, .int 1, .int (m9.1 164 2)] m9 (fun m21 => K m21)) else (K m9))) else (K M)) : mm_CV mX12_asks (d + 1) [.ref 164, .ref r1] M K := by
  show mm_W mX12_asks (d + 1) 0 0 0 [(0, .ref 164), (1, .ref r1)] [] mm_SH M 0 0 (mm_PV K)
  refine mm_aload_n (j := 0) dX12_asks_0 rfl rfl ?_
  refine mm_getI (ci := 12) (N := 116) dX12_asks_1 fX12_260 sh_164 rfl ?_
  refine mm_if_ne (tgt := 24) dX12_asks_4 (by decide) (fun hc => ?_) (fun hc => ?_)
  · rw [if_neg hc] at h
    exact mm_vret dX12_asks_24 rfl (Nat.le_refl 0) (Nat.le_refl 0) ⟨rfl, rfl, hG, h⟩
  · rw [if_pos hc] at h
    refine mm_aload_n (j := 0) dX12_asks_7 rfl rfl ?_
    refine mm_aload_n (j := 1) dX12_asks_8 rfl rfl ?_
    refine mm_kVI [.ref r1] dX12_asks_9 kX12_287 rfl sh_164 (by decide) (by decide) h (fun z9 m9 hG h => ?_)
    refine mm_if_ne (tgt := 24) dX12_asks_12 (by decide) (fun hc => ?_) (fun hc => ?_)
    · rw [if_neg hc] at h
      exact mm_vret dX12_asks_24 rfl (Nat.le_refl 0) (Nat.le_refl 0) ⟨rfl, rfl, hG, h⟩
    · rw [if_pos hc] at h
      refine mm_aload_n (j := 0) dX12_asks_15 rfl rfl ?_
      refine mm_iconst (x := 1) dX12_asks_16 rfl ?_
      refine mm_aload_n (j := 0) dX12_asks_17 rfl rfl ?_
      refine mm_getI (ci := 12) (N := 116) dX12_asks_18 fX12_266 sh_164 rfl ?_
      refine mm_kVV [.int 1, .int (m9.1 164 2)] dX12_asks_21 kX12_290 rfl sh_164 (by decide) (by decide) h (fun m21 hG h => ?_)
      exact mm_vret dX12_asks_24 rfl (Nat.le_refl 0) (Nat.le_refl 0) ⟨rfl, rfl, hG, h⟩
set_option maxRecDepth 100000 in
set_option maxHeartbeats 4000000 in
theorem rX12_takesSign {d : Nat} {x1 : Int32} {M : mm_M} {K : Int32 → mm_M → Prop} (hG : mm_G M.2.2) (h : if (M.1 164 5) = 0 then (mm_CI mX12_look d [.ref 164] M (fun z8 m8 => if z8 = x1 then (K 1 (mm_uI m8 164 2 ((m8.1 164 2) + 1))) else (K 0 m8))) else (K 0 M)) : mm_CI mX12_takesSign (d + 1) [.ref 164, .int x1] M K := by
  show mm_W mX12_takesSign (d + 1) 0 0 0 [(0, .ref 164), (1, .int x1)] [] mm_SH M 0 0 (mm_PI K)
  refine mm_aload_n (j := 0) dX12_takesSign_0 rfl rfl ?_
  refine mm_getI (ci := 12) (N := 116) dX12_takesSign_1 fX12_260 sh_164 rfl ?_
  refine mm_if_ne (tgt := 15) dX12_takesSign_4 (by decide) (fun hc => ?_) (fun hc => ?_)
  · rw [if_neg hc] at h
    refine mm_iconst (x := 0) dX12_takesSign_15 rfl ?_
    exact mm_zret dX12_takesSign_16 rfl rfl (Nat.le_refl 0) (Nat.le_refl 0) ⟨_, rfl, rfl, hG, h⟩
  · rw [if_pos hc] at h
    refine mm_aload_n (j := 0) dX12_takesSign_7 rfl rfl ?_
    refine mm_kVI [] dX12_takesSign_8 kX12_272 rfl sh_164 (by decide) (by decide) h (fun z8 m8 hG h => ?_)
    refine mm_iload_n (j := 1) dX12_takesSign_11 rfl rfl ?_
    refine mm_icmp_eq (tgt := 17) dX12_takesSign_12 (by decide) (fun hc => ?_) (fun hc => ?_)
    · rw [if_pos hc] at h
      refine mm_aload_n (j := 0) dX12_takesSign_17 rfl rfl ?_
      refine mm_dup dX12_takesSign_18 rfl ?_
      refine mm_getI (ci := 12) (N := 116) dX12_takesSign_19 fX12_266 sh_164 rfl ?_
      refine mm_iconst (x := 1) dX12_takesSign_22 rfl ?_
      refine mm_iadd dX12_takesSign_23 ?_
      refine mm_putI (ci := 12) (N := 116) dX12_takesSign_24 fX12_266 sh_164 (by decide +kernel) rfl rfl rfl ?_
      refine mm_iconst (x := 1) dX12_takesSign_27 rfl ?_
      exact mm_zret dX12_takesSign_28 rfl rfl (Nat.le_refl 0) (Nat.le_refl 0) ⟨_, rfl, rfl, hG, h⟩
    · rw [if_neg hc] at h
      refine mm_iconst (x := 0) dX12_takesSign_15 rfl ?_
      exact mm_zret dX12_takesSign_16 rfl rfl (Nat.le_refl 0) (Nat.le_refl 0) ⟨_, rfl, rfl, hG, h⟩
set_option maxRecDepth 100000 in
set_option maxHeartbeats 4000000 in
theorem rX12_asksSign {d : Nat} {x1 : Int32} {M : mm_M} {K : mm_M → Prop} (hG : mm_G M.2.2) (h : if (M.1 164 5) = 0 then (mm_CI mX12_takesSign d [.ref 164, .int x1] M (fun z9 m9 => if z9 = 0 then (mm_CV mX12_fail d [.ref 164, .int 1, .int (m9.1 164 2)] m9 (fun m21 => K m21)) else (K m9))) else (K M)) : mm_CV mX12_asksSign (d + 1) [.ref 164, .int x1] M K := by
  show mm_W mX12_asksSign (d + 1) 0 0 0 [(0, .ref 164), (1, .int x1)] [] mm_SH M 0 0 (mm_PV K)
  refine mm_aload_n (j := 0) dX12_asksSign_0 rfl rfl ?_
  refine mm_getI (ci := 12) (N := 116) dX12_asksSign_1 fX12_260 sh_164 rfl ?_
  refine mm_if_ne (tgt := 24) dX12_asksSign_4 (by decide) (fun hc => ?_) (fun hc => ?_)
  · rw [if_neg hc] at h
    exact mm_vret dX12_asksSign_24 rfl (Nat.le_refl 0) (Nat.le_refl 0) ⟨rfl, rfl, hG, h⟩
  · rw [if_pos hc] at h
    refine mm_aload_n (j := 0) dX12_asksSign_7 rfl rfl ?_
    refine mm_iload_n (j := 1) dX12_asksSign_8 rfl rfl ?_
    refine mm_kVI [.int x1] dX12_asksSign_9 kX12_294 rfl sh_164 (by decide) (by decide) h (fun z9 m9 hG h => ?_)
    refine mm_if_ne (tgt := 24) dX12_asksSign_12 (by decide) (fun hc => ?_) (fun hc => ?_)
    · rw [if_neg hc] at h
      exact mm_vret dX12_asksSign_24 rfl (Nat.le_refl 0) (Nat.le_refl 0) ⟨rfl, rfl, hG, h⟩
    · rw [if_pos hc] at h
      refine mm_aload_n (j := 0) dX12_asksSign_15 rfl rfl ?_
      refine mm_iconst (x := 1) dX12_asksSign_16 rfl ?_
      refine mm_aload_n (j := 0) dX12_asksSign_17 rfl rfl ?_
      refine mm_getI (ci := 12) (N := 116) dX12_asksSign_18 fX12_266 sh_164 rfl ?_
      refine mm_kVV [.int 1, .int (m9.1 164 2)] dX12_asksSign_21 kX12_290 rfl sh_164 (by decide) (by decide) h (fun m21 hG h => ?_)
      exact mm_vret dX12_asksSign_24 rfl (Nat.le_refl 0) (Nat.le_refl 0) ⟨rfl, rfl, hG, h⟩
def jX12_number_49 (d : Nat) (x1 : Int32) (x2 : Int32) (M : mm_M) (K : Int32 → mm_M → Prop) (y1 : Int32) (y2 : Int32) (y3 : Int32) (y4 : Int32) : Prop := mm_W mX12_number (d + 1) 0 0 49 [(0, .ref 164), (1, .int y1), (2, .int y2), (3, .int y3), (4, .int y4)] [] mm_SH M 0 0 (mm_PI K)
def jX12_number_129 (d : Nat) (x1 : Int32) (x2 : Int32) (M : mm_M) (K : Int32 → mm_M → Prop) (y1 : Int32) (y2 : Int32) (y3 : Int32) (y4 : Int32) : Prop := mm_W mX12_number (d + 1) 0 0 129 [(0, .ref 164), (1, .int y1), (2, .int y2), (3, .int y3), (4, .int y4)] [] mm_SH M 0 0 (mm_PI K)
set_option maxRecDepth 100000 in
set_option maxHeartbeats 4000000 in
theorem rX12_number {d : Nat} {x1 : Int32} {x2 : Int32} {M : mm_M} {K : Int32 → mm_M → Prop} (hG : mm_G M.2.2) (h : if (M.1 164 5) = 0 then (mm_CI mX12_look d [.ref 164] M (fun z10 m10 => mm_CI mX12_isDigit d [.int z10] m10 (fun z13 m13 => if z13 = 0 then (mm_CV mX12_fail d [.ref 164, .int 1, .int (m13.1 164 2)] m13 (fun m36 => K 0 m36)) else (if (m13.1 164 2) = (m13.1 164 4) then (mm_CV mX12_fail d [.ref 164, .int 1, .int (m13.1 164 2)] m13 (fun m36 => K 0 m36)) else (jX12_number_49 d x1 x2 m13 K x1 x2 (m13.1 164 2) 0))))) else (K 0 M)) : mm_CI mX12_number (d + 1) [.ref 164, .int x1, .int x2] M K := by
  show mm_W mX12_number (d + 1) 0 0 0 [(0, .ref 164), (1, .int x1), (2, .int x2)] [] mm_SH M 0 0 (mm_PI K)
  refine mm_aload_n (j := 0) dX12_number_0 rfl rfl ?_
  refine mm_getI (ci := 12) (N := 116) dX12_number_1 fX12_260 sh_164 rfl ?_
  refine mm_if_eq (tgt := 9) dX12_number_4 (by decide) (fun hc => ?_) (fun hc => ?_)
  · rw [if_pos hc] at h
    refine mm_aload_n (j := 0) dX12_number_9 rfl rfl ?_
    refine mm_kVI [] dX12_number_10 kX12_272 rfl sh_164 (by decide) (by decide) h (fun z10 m10 hG h => ?_)
    refine mm_kSI [.int z10] dX12_number_13 kX12_297 rfl (by decide) (by decide) h (fun z13 m13 hG h => ?_)
    refine mm_if_eq (tgt := 30) dX12_number_16 (by decide) (fun hc => ?_) (fun hc => ?_)
    · rw [if_pos hc] at h
      refine mm_aload_n (j := 0) dX12_number_30 rfl rfl ?_
      refine mm_iconst (x := 1) dX12_number_31 rfl ?_
      refine mm_aload_n (j := 0) dX12_number_32 rfl rfl ?_
      refine mm_getI (ci := 12) (N := 116) dX12_number_33 fX12_266 sh_164 rfl ?_
      refine mm_kVV [.int 1, .int (m13.1 164 2)] dX12_number_36 kX12_290 rfl sh_164 (by decide) (by decide) h (fun m36 hG h => ?_)
      refine mm_iconst (x := 0) dX12_number_39 rfl ?_
      exact mm_iret dX12_number_40 rfl (Nat.le_refl 0) (Nat.le_refl 0) ⟨_, rfl, rfl, hG, h⟩
    · rw [if_neg hc] at h
      refine mm_aload_n (j := 0) dX12_number_19 rfl rfl ?_
      refine mm_getI (ci := 12) (N := 116) dX12_number_20 fX12_266 sh_164 rfl ?_
      refine mm_aload_n (j := 0) dX12_number_23 rfl rfl ?_
      refine mm_getI (ci := 12) (N := 116) dX12_number_24 fX12_280 sh_164 rfl ?_
      refine mm_icmp_ne (tgt := 41) dX12_number_27 (by decide) (fun hc => ?_) (fun hc => ?_)
      · rw [if_neg hc] at h
        refine mm_aload_n (j := 0) dX12_number_41 rfl rfl ?_
        refine mm_getI (ci := 12) (N := 116) dX12_number_42 fX12_266 sh_164 rfl ?_
        refine mm_istore_n (lv' := [(3, .int (m13.1 164 2)), (0, .ref 164), (1, .int x1), (2, .int x2)]) dX12_number_45 rfl (by decide) rfl ?_
        refine mm_iconst (x := 0) dX12_number_46 rfl ?_
        refine mm_istore (lv' := [(4, .int 0), (3, .int (m13.1 164 2)), (0, .ref 164), (1, .int x1), (2, .int x2)]) dX12_number_47 (by decide) rfl ?_
        exact mm_sub [2, 3, 4, 1, 0] rfl h
      · rw [if_pos hc] at h
        refine mm_aload_n (j := 0) dX12_number_30 rfl rfl ?_
        refine mm_iconst (x := 1) dX12_number_31 rfl ?_
        refine mm_aload_n (j := 0) dX12_number_32 rfl rfl ?_
        refine mm_getI (ci := 12) (N := 116) dX12_number_33 fX12_266 sh_164 rfl ?_
        refine mm_kVV [.int 1, .int (m13.1 164 2)] dX12_number_36 kX12_290 rfl sh_164 (by decide) (by decide) h (fun m36 hG h => ?_)
        refine mm_iconst (x := 0) dX12_number_39 rfl ?_
        exact mm_iret dX12_number_40 rfl (Nat.le_refl 0) (Nat.le_refl 0) ⟨_, rfl, rfl, hG, h⟩
  · rw [if_neg hc] at h
    refine mm_iconst (x := 0) dX12_number_7 rfl ?_
    exact mm_iret dX12_number_8 rfl (Nat.le_refl 0) (Nat.le_refl 0) ⟨_, rfl, rfl, hG, h⟩
set_option maxRecDepth 100000 in
set_option maxHeartbeats 4000000 in
theorem lX12_number_49 {d : Nat} {x1 : Int32} {x2 : Int32} {M : mm_M} {K : Int32 → mm_M → Prop} {y1 : Int32} {y2 : Int32} {y3 : Int32} {y4 : Int32} (hG : mm_G M.2.2) (h : if (M.1 164 3) ≤ (M.1 164 2) then (jX12_number_129 d x1 x2 M K y1 y2 y3 y4) else (vp_in (M.1 164 2) 1600 ∧ mm_CI mX12_isDigit d [.int (M.1 165 (M.1 164 2).toNatClampNeg)] M (fun z69 m69 => if z69 = 0 then (jX12_number_129 d x1 x2 m69 K y1 y2 y3 y4) else (if ((m69.1 164 2) - y3) = 4 then (mm_CV mX12_fail d [.ref 164, .int 1, .int (m69.1 164 2)] m69 (fun m91 => K 0 m91)) else (vp_in (m69.1 164 2) 1600 ∧ jX12_number_49 d x1 x2 (mm_uI m69 164 2 ((m69.1 164 2) + 1)) K y1 y2 y3 (((10 * y4) + (m69.1 165 (m69.1 164 2).toNatClampNeg)) - 48)))))) : jX12_number_49 d x1 x2 M K y1 y2 y3 y4 := by
  unfold jX12_number_49
  refine mm_aload_n (j := 0) dX12_number_49 rfl rfl ?_
  refine mm_getI (ci := 12) (N := 116) dX12_number_50 fX12_266 sh_164 rfl ?_
  refine mm_aload_n (j := 0) dX12_number_53 rfl rfl ?_
  refine mm_getI (ci := 12) (N := 116) dX12_number_54 fX12_269 sh_164 rfl ?_
  refine mm_icmp_ge (tgt := 129) dX12_number_57 (by decide) (fun hc => ?_) (fun hc => ?_)
  · rw [if_pos hc] at h
    exact h
  · rw [if_neg hc] at h
    refine mm_aload_n (j := 0) dX12_number_60 rfl rfl ?_
    refine mm_getR (ci := 12) (N := 116) (r := 165) dX12_number_61 fX12_7 sh_164 rfl (g_164_0 hG) ?_
    refine mm_aload_n (j := 0) dX12_number_64 rfl rfl ?_
    refine mm_getI (ci := 12) (N := 116) dX12_number_65 fX12_266 sh_164 rfl ?_
    obtain ⟨hi68, h⟩ := h
    refine mm_iaload (N := 1600) dX12_number_68 sh_165 hi68 ?_
    refine mm_kSI [.int (M.1 165 (M.1 164 2).toNatClampNeg)] dX12_number_69 kX12_297 rfl (by decide) (by decide) h (fun z69 m69 hG h => ?_)
    refine mm_if_eq (tgt := 129) dX12_number_72 (by decide) (fun hc => ?_) (fun hc => ?_)
    · rw [if_pos hc] at h
      exact h
    · rw [if_neg hc] at h
      refine mm_aload_n (j := 0) dX12_number_75 rfl rfl ?_
      refine mm_getI (ci := 12) (N := 116) dX12_number_76 fX12_266 sh_164 rfl ?_
      refine mm_iload_n (j := 3) dX12_number_79 rfl rfl ?_
      refine mm_isub dX12_number_80 ?_
      refine mm_iconst (x := 4) dX12_number_81 rfl ?_
      refine mm_icmp_ne (tgt := 96) dX12_number_82 (by decide) (fun hc => ?_) (fun hc => ?_)
      · rw [if_neg hc] at h
        refine mm_bipush (x := 10) dX12_number_96 rfl ?_
        refine mm_iload (j := 4) dX12_number_98 rfl ?_
        refine mm_imul dX12_number_100 ?_
        refine mm_aload_n (j := 0) dX12_number_101 rfl rfl ?_
        refine mm_getR (ci := 12) (N := 116) (r := 165) dX12_number_102 fX12_7 sh_164 rfl (g_164_0 hG) ?_
        refine mm_aload_n (j := 0) dX12_number_105 rfl rfl ?_
        refine mm_getI (ci := 12) (N := 116) dX12_number_106 fX12_266 sh_164 rfl ?_
        obtain ⟨hi109, h⟩ := h
        refine mm_iaload (N := 1600) dX12_number_109 sh_165 hi109 ?_
        refine mm_iadd dX12_number_110 ?_
        refine mm_bipush (x := 48) dX12_number_111 rfl ?_
        refine mm_isub dX12_number_113 ?_
        refine mm_istore (lv' := [(4, .int (((10 * y4) + (m69.1 165 (m69.1 164 2).toNatClampNeg)) - 48)), (0, .ref 164), (1, .int y1), (2, .int y2), (3, .int y3)]) dX12_number_114 (by decide) rfl ?_
        refine mm_aload_n (j := 1) dX12_number_116 rfl rfl ?_
        refine mm_dup dX12_number_117 rfl ?_
        refine mm_getI (ci := 12) (N := 116) dX12_number_118 fX12_266 sh_164 rfl ?_
        refine mm_iconst (x := 1) dX12_number_121 rfl ?_
        refine mm_iadd dX12_number_122 ?_
        refine mm_putI (ci := 12) (N := 116) dX12_number_123 fX12_266 sh_164 (by decide +kernel) rfl rfl rfl ?_
        refine mm_goto (tgt := 49) dX12_number_126 (by decide) ?_
        exact mm_sub [1, 2, 3, 4, 0] rfl h
      · rw [if_pos hc] at h
        refine mm_aload_n (j := 0) dX12_number_85 rfl rfl ?_
        refine mm_iconst (x := 1) dX12_number_86 rfl ?_
        refine mm_aload_n (j := 0) dX12_number_87 rfl rfl ?_
        refine mm_getI (ci := 12) (N := 116) dX12_number_88 fX12_266 sh_164 rfl ?_
        refine mm_kVV [.int 1, .int (m69.1 164 2)] dX12_number_91 kX12_290 rfl sh_164 (by decide) (by decide) h (fun m91 hG h => ?_)
        refine mm_iconst (x := 0) dX12_number_94 rfl ?_
        exact mm_iret dX12_number_95 rfl (Nat.le_refl 0) (Nat.le_refl 0) ⟨_, rfl, rfl, hG, h⟩
set_option maxRecDepth 100000 in
set_option maxHeartbeats 4000000 in
theorem lX12_number_129 {d : Nat} {x1 : Int32} {x2 : Int32} {M : mm_M} {K : Int32 → mm_M → Prop} {y1 : Int32} {y2 : Int32} {y3 : Int32} {y4 : Int32} (hG : mm_G M.2.2) (h : mm_CI mX12_isIn d [.long y4.toInt64, .long y1.toInt64, .long y2.toInt64] (mm_uI (mm_uI M 164 4 (M.1 164 2)) 164 10 y3) (fun z149 m149 => if z149 = 0 then (mm_CV mX12_fail d [.ref 164, .int 2, .int (m149.1 164 10)] m149 (fun m161 => K y4 m161)) else (K y4 m149))) : jX12_number_129 d x1 x2 M K y1 y2 y3 y4 := by
  unfold jX12_number_129
  refine mm_aload_n (j := 0) dX12_number_129 rfl rfl ?_
  refine mm_aload_n (j := 0) dX12_number_130 rfl rfl ?_
  refine mm_getI (ci := 12) (N := 116) dX12_number_131 fX12_266 sh_164 rfl ?_
  refine mm_putI (ci := 12) (N := 116) dX12_number_134 fX12_280 sh_164 (by decide +kernel) rfl rfl rfl ?_
  refine mm_aload_n (j := 0) dX12_number_137 rfl rfl ?_
  refine mm_iload_n (j := 3) dX12_number_138 rfl rfl ?_
  refine mm_putI (ci := 12) (N := 116) dX12_number_139 fX12_300 sh_164 (by decide +kernel) rfl rfl rfl ?_
  refine mm_iload (j := 4) dX12_number_142 rfl ?_
  refine mm_i2l dX12_number_144 ?_
  refine mm_iload_n (j := 1) dX12_number_145 rfl rfl ?_
  refine mm_i2l dX12_number_146 ?_
  refine mm_iload_n (j := 2) dX12_number_147 rfl rfl ?_
  refine mm_i2l dX12_number_148 ?_
  refine mm_kSI [.long y4.toInt64, .long y1.toInt64, .long y2.toInt64] dX12_number_149 kX12_303 rfl (by decide) (by decide) h (fun z149 m149 hG h => ?_)
  refine mm_if_ne (tgt := 164) dX12_number_152 (by decide) (fun hc => ?_) (fun hc => ?_)
  · rw [if_neg hc] at h
    refine mm_iload (j := 4) dX12_number_164 rfl ?_
    exact mm_iret dX12_number_166 rfl (Nat.le_refl 0) (Nat.le_refl 0) ⟨_, rfl, rfl, hG, h⟩
  · rw [if_pos hc] at h
    refine mm_aload_n (j := 0) dX12_number_155 rfl rfl ?_
    refine mm_iconst (x := 2) dX12_number_156 rfl ?_
    refine mm_aload_n (j := 0) dX12_number_157 rfl rfl ?_
    refine mm_getI (ci := 12) (N := 116) dX12_number_158 fX12_300 sh_164 rfl ?_
    refine mm_kVV [.int 2, .int (m149.1 164 10)] dX12_number_161 kX12_290 rfl sh_164 (by decide) (by decide) h (fun m161 hG h => ?_)
    refine mm_iload (j := 4) dX12_number_164 rfl ?_
    exact mm_iret dX12_number_166 rfl (Nat.le_refl 0) (Nat.le_refl 0) ⟨_, rfl, rfl, hG, h⟩
def jX12_isOwnHere_71 (d : Nat) (M : mm_M) (K : Int32 → mm_M → Prop) (u0 : Int32) : Prop := mm_W mX12_isOwnHere (d + 1) 0 0 71 [(0, .ref 164)] [.int u0] mm_SH M 0 0 (mm_PI K)
def jX12_isOwnHere_147 (d : Nat) (M : mm_M) (K : Int32 → mm_M → Prop) (u0 : Int32) : Prop := mm_W mX12_isOwnHere (d + 1) 0 0 147 [(0, .ref 164)] [.int u0] mm_SH M 0 0 (mm_PI K)
def jX12_isOwnHere_223 (d : Nat) (M : mm_M) (K : Int32 → mm_M → Prop) (u0 : Int32) : Prop := mm_W mX12_isOwnHere (d + 1) 0 0 223 [(0, .ref 164)] [.int u0] mm_SH M 0 0 (mm_PI K)
set_option maxRecDepth 100000 in
set_option maxHeartbeats 4000000 in
theorem rX12_isOwnHere {d : Nat} {M : mm_M} {K : Int32 → mm_M → Prop} (hG : mm_G M.2.2) (h : mm_CI mX12_isHere d [.ref 164, .ref 167] M (fun z5 m5 => if z5 = 0 then (mm_CI mX12_isHere d [.ref 164, .ref 168] m5 (fun z16 m16 => if z16 = 0 then (mm_CI mX12_isHere d [.ref 164, .ref 169] m16 (fun z27 m27 => if z27 = 0 then (mm_CI mX12_isHere d [.ref 164, .ref 170] m27 (fun z38 m38 => if z38 = 0 then (mm_CI mX12_isHere d [.ref 164, .ref 171] m38 (fun z49 m49 => if z49 = 0 then (mm_CI mX12_isHere d [.ref 164, .ref 172] m49 (fun z60 m60 => if z60 = 0 then (jX12_isOwnHere_71 d m60 K 0) else (jX12_isOwnHere_71 d m60 K 1))) else (jX12_isOwnHere_71 d m49 K 1))) else (jX12_isOwnHere_71 d m38 K 1))) else (jX12_isOwnHere_71 d m27 K 1))) else (jX12_isOwnHere_71 d m16 K 1))) else (jX12_isOwnHere_71 d m5 K 1))) : mm_CI mX12_isOwnHere (d + 1) [.ref 164] M K := by
  show mm_W mX12_isOwnHere (d + 1) 0 0 0 [(0, .ref 164)] [] mm_SH M 0 0 (mm_PI K)
  refine mm_aload_n (j := 0) dX12_isOwnHere_0 rfl rfl ?_
  refine mm_aload_n (j := 0) dX12_isOwnHere_1 rfl rfl ?_
  refine mm_getR (ci := 12) (N := 116) (r := 167) dX12_isOwnHere_2 fX12_20 sh_164 rfl (g_164_11 hG) ?_
  refine mm_kVI [.ref 167] dX12_isOwnHere_5 kX12_283 rfl sh_164 (by decide) (by decide) h (fun z5 m5 hG h => ?_)
  refine mm_if_ne (tgt := 66) dX12_isOwnHere_8 (by decide) (fun hc => ?_) (fun hc => ?_)
  · rw [if_neg hc] at h
    refine mm_iconst (x := 1) dX12_isOwnHere_66 rfl ?_
    refine mm_goto (tgt := 71) dX12_isOwnHere_67 (by decide) ?_
    exact h
  · rw [if_pos hc] at h
    refine mm_aload_n (j := 0) dX12_isOwnHere_11 rfl rfl ?_
    refine mm_aload_n (j := 0) dX12_isOwnHere_12 rfl rfl ?_
    refine mm_getR (ci := 12) (N := 116) (r := 168) dX12_isOwnHere_13 fX12_24 sh_164 rfl (g_164_12 hG) ?_
    refine mm_kVI [.ref 168] dX12_isOwnHere_16 kX12_283 rfl sh_164 (by decide) (by decide) h (fun z16 m16 hG h => ?_)
    refine mm_if_ne (tgt := 66) dX12_isOwnHere_19 (by decide) (fun hc => ?_) (fun hc => ?_)
    · rw [if_neg hc] at h
      refine mm_iconst (x := 1) dX12_isOwnHere_66 rfl ?_
      refine mm_goto (tgt := 71) dX12_isOwnHere_67 (by decide) ?_
      exact h
    · rw [if_pos hc] at h
      refine mm_aload_n (j := 0) dX12_isOwnHere_22 rfl rfl ?_
      refine mm_aload_n (j := 0) dX12_isOwnHere_23 rfl rfl ?_
      refine mm_getR (ci := 12) (N := 116) (r := 169) dX12_isOwnHere_24 fX12_27 sh_164 rfl (g_164_13 hG) ?_
      refine mm_kVI [.ref 169] dX12_isOwnHere_27 kX12_283 rfl sh_164 (by decide) (by decide) h (fun z27 m27 hG h => ?_)
      refine mm_if_ne (tgt := 66) dX12_isOwnHere_30 (by decide) (fun hc => ?_) (fun hc => ?_)
      · rw [if_neg hc] at h
        refine mm_iconst (x := 1) dX12_isOwnHere_66 rfl ?_
        refine mm_goto (tgt := 71) dX12_isOwnHere_67 (by decide) ?_
        exact h
      · rw [if_pos hc] at h
        refine mm_aload_n (j := 0) dX12_isOwnHere_33 rfl rfl ?_
        refine mm_aload_n (j := 0) dX12_isOwnHere_34 rfl rfl ?_
        refine mm_getR (ci := 12) (N := 116) (r := 170) dX12_isOwnHere_35 fX12_30 sh_164 rfl (g_164_14 hG) ?_
        refine mm_kVI [.ref 170] dX12_isOwnHere_38 kX12_283 rfl sh_164 (by decide) (by decide) h (fun z38 m38 hG h => ?_)
        refine mm_if_ne (tgt := 66) dX12_isOwnHere_41 (by decide) (fun hc => ?_) (fun hc => ?_)
        · rw [if_neg hc] at h
          refine mm_iconst (x := 1) dX12_isOwnHere_66 rfl ?_
          refine mm_goto (tgt := 71) dX12_isOwnHere_67 (by decide) ?_
          exact h
        · rw [if_pos hc] at h
          refine mm_aload_n (j := 0) dX12_isOwnHere_44 rfl rfl ?_
          refine mm_aload_n (j := 0) dX12_isOwnHere_45 rfl rfl ?_
          refine mm_getR (ci := 12) (N := 116) (r := 171) dX12_isOwnHere_46 fX12_33 sh_164 rfl (g_164_15 hG) ?_
          refine mm_kVI [.ref 171] dX12_isOwnHere_49 kX12_283 rfl sh_164 (by decide) (by decide) h (fun z49 m49 hG h => ?_)
          refine mm_if_ne (tgt := 66) dX12_isOwnHere_52 (by decide) (fun hc => ?_) (fun hc => ?_)
          · rw [if_neg hc] at h
            refine mm_iconst (x := 1) dX12_isOwnHere_66 rfl ?_
            refine mm_goto (tgt := 71) dX12_isOwnHere_67 (by decide) ?_
            exact h
          · rw [if_pos hc] at h
            refine mm_aload_n (j := 0) dX12_isOwnHere_55 rfl rfl ?_
            refine mm_aload_n (j := 0) dX12_isOwnHere_56 rfl rfl ?_
            refine mm_getR (ci := 12) (N := 116) (r := 172) dX12_isOwnHere_57 fX12_36 sh_164 rfl (g_164_16 hG) ?_
            refine mm_kVI [.ref 172] dX12_isOwnHere_60 kX12_283 rfl sh_164 (by decide) (by decide) h (fun z60 m60 hG h => ?_)
            refine mm_if_eq (tgt := 70) dX12_isOwnHere_63 (by decide) (fun hc => ?_) (fun hc => ?_)
            · rw [if_pos hc] at h
              refine mm_iconst (x := 0) dX12_isOwnHere_70 rfl ?_
              exact h
            · rw [if_neg hc] at h
              refine mm_iconst (x := 1) dX12_isOwnHere_66 rfl ?_
              refine mm_goto (tgt := 71) dX12_isOwnHere_67 (by decide) ?_
              exact h
set_option maxRecDepth 100000 in
set_option maxHeartbeats 4000000 in
theorem lX12_isOwnHere_71 {d : Nat} {M : mm_M} {K : Int32 → mm_M → Prop} {u0 : Int32} (hG : mm_G M.2.2) (h : if u0 = 0 then (mm_CI mX12_isHere d [.ref 164, .ref 173] M (fun z81 m81 => if z81 = 0 then (mm_CI mX12_isHere d [.ref 164, .ref 174] m81 (fun z92 m92 => if z92 = 0 then (mm_CI mX12_isHere d [.ref 164, .ref 175] m92 (fun z103 m103 => if z103 = 0 then (mm_CI mX12_isHere d [.ref 164, .ref 176] m103 (fun z114 m114 => if z114 = 0 then (mm_CI mX12_isHere d [.ref 164, .ref 177] m114 (fun z125 m125 => if z125 = 0 then (mm_CI mX12_isHere d [.ref 164, .ref 178] m125 (fun z136 m136 => if z136 = 0 then (jX12_isOwnHere_147 d m136 K 0) else (jX12_isOwnHere_147 d m136 K 1))) else (jX12_isOwnHere_147 d m125 K 1))) else (jX12_isOwnHere_147 d m114 K 1))) else (jX12_isOwnHere_147 d m103 K 1))) else (jX12_isOwnHere_147 d m92 K 1))) else (jX12_isOwnHere_147 d m81 K 1))) else (jX12_isOwnHere_147 d M K 1)) : jX12_isOwnHere_71 d  M K u0 := by
  unfold jX12_isOwnHere_71
  refine mm_istore_n (lv' := [(1, .int u0), (0, .ref 164)]) dX12_isOwnHere_71 rfl (by decide) rfl ?_
  refine mm_iload_n (j := 0) dX12_isOwnHere_72 rfl rfl ?_
  refine mm_if_ne (tgt := 142) dX12_isOwnHere_73 (by decide) (fun hc => ?_) (fun hc => ?_)
  · rw [if_neg hc] at h
    refine mm_iconst (x := 1) dX12_isOwnHere_142 rfl ?_
    refine mm_goto (tgt := 147) dX12_isOwnHere_143 (by decide) ?_
    exact mm_sub [1] rfl h
  · rw [if_pos hc] at h
    refine mm_aload_n (j := 1) dX12_isOwnHere_76 rfl rfl ?_
    refine mm_aload_n (j := 1) dX12_isOwnHere_77 rfl rfl ?_
    refine mm_getR (ci := 12) (N := 116) (r := 173) dX12_isOwnHere_78 fX12_39 sh_164 rfl (g_164_17 hG) ?_
    refine mm_kVI [.ref 173] dX12_isOwnHere_81 kX12_283 rfl sh_164 (by decide) (by decide) h (fun z81 m81 hG h => ?_)
    refine mm_if_ne (tgt := 142) dX12_isOwnHere_84 (by decide) (fun hc => ?_) (fun hc => ?_)
    · rw [if_neg hc] at h
      refine mm_iconst (x := 1) dX12_isOwnHere_142 rfl ?_
      refine mm_goto (tgt := 147) dX12_isOwnHere_143 (by decide) ?_
      exact mm_sub [1] rfl h
    · rw [if_pos hc] at h
      refine mm_aload_n (j := 1) dX12_isOwnHere_87 rfl rfl ?_
      refine mm_aload_n (j := 1) dX12_isOwnHere_88 rfl rfl ?_
      refine mm_getR (ci := 12) (N := 116) (r := 174) dX12_isOwnHere_89 fX12_42 sh_164 rfl (g_164_18 hG) ?_
      refine mm_kVI [.ref 174] dX12_isOwnHere_92 kX12_283 rfl sh_164 (by decide) (by decide) h (fun z92 m92 hG h => ?_)
      refine mm_if_ne (tgt := 142) dX12_isOwnHere_95 (by decide) (fun hc => ?_) (fun hc => ?_)
      · rw [if_neg hc] at h
        refine mm_iconst (x := 1) dX12_isOwnHere_142 rfl ?_
        refine mm_goto (tgt := 147) dX12_isOwnHere_143 (by decide) ?_
        exact mm_sub [1] rfl h
      · rw [if_pos hc] at h
        refine mm_aload_n (j := 1) dX12_isOwnHere_98 rfl rfl ?_
        refine mm_aload_n (j := 1) dX12_isOwnHere_99 rfl rfl ?_
        refine mm_getR (ci := 12) (N := 116) (r := 175) dX12_isOwnHere_100 fX12_45 sh_164 rfl (g_164_19 hG) ?_
        refine mm_kVI [.ref 175] dX12_isOwnHere_103 kX12_283 rfl sh_164 (by decide) (by decide) h (fun z103 m103 hG h => ?_)
        refine mm_if_ne (tgt := 142) dX12_isOwnHere_106 (by decide) (fun hc => ?_) (fun hc => ?_)
        · rw [if_neg hc] at h
          refine mm_iconst (x := 1) dX12_isOwnHere_142 rfl ?_
          refine mm_goto (tgt := 147) dX12_isOwnHere_143 (by decide) ?_
          exact mm_sub [1] rfl h
        · rw [if_pos hc] at h
          refine mm_aload_n (j := 1) dX12_isOwnHere_109 rfl rfl ?_
          refine mm_aload_n (j := 1) dX12_isOwnHere_110 rfl rfl ?_
          refine mm_getR (ci := 12) (N := 116) (r := 176) dX12_isOwnHere_111 fX12_48 sh_164 rfl (g_164_20 hG) ?_
          refine mm_kVI [.ref 176] dX12_isOwnHere_114 kX12_283 rfl sh_164 (by decide) (by decide) h (fun z114 m114 hG h => ?_)
          refine mm_if_ne (tgt := 142) dX12_isOwnHere_117 (by decide) (fun hc => ?_) (fun hc => ?_)
          · rw [if_neg hc] at h
            refine mm_iconst (x := 1) dX12_isOwnHere_142 rfl ?_
            refine mm_goto (tgt := 147) dX12_isOwnHere_143 (by decide) ?_
            exact mm_sub [1] rfl h
          · rw [if_pos hc] at h
            refine mm_aload_n (j := 1) dX12_isOwnHere_120 rfl rfl ?_
            refine mm_aload_n (j := 1) dX12_isOwnHere_121 rfl rfl ?_
            refine mm_getR (ci := 12) (N := 116) (r := 177) dX12_isOwnHere_122 fX12_51 sh_164 rfl (g_164_21 hG) ?_
            refine mm_kVI [.ref 177] dX12_isOwnHere_125 kX12_283 rfl sh_164 (by decide) (by decide) h (fun z125 m125 hG h => ?_)
            refine mm_if_ne (tgt := 142) dX12_isOwnHere_128 (by decide) (fun hc => ?_) (fun hc => ?_)
            · rw [if_neg hc] at h
              refine mm_iconst (x := 1) dX12_isOwnHere_142 rfl ?_
              refine mm_goto (tgt := 147) dX12_isOwnHere_143 (by decide) ?_
              exact mm_sub [1] rfl h
            · rw [if_pos hc] at h
              refine mm_aload_n (j := 1) dX12_isOwnHere_131 rfl rfl ?_
              refine mm_aload_n (j := 1) dX12_isOwnHere_132 rfl rfl ?_
              refine mm_getR (ci := 12) (N := 116) (r := 178) dX12_isOwnHere_133 fX12_54 sh_164 rfl (g_164_22 hG) ?_
              refine mm_kVI [.ref 178] dX12_isOwnHere_136 kX12_283 rfl sh_164 (by decide) (by decide) h (fun z136 m136 hG h => ?_)
              refine mm_if_eq (tgt := 146) dX12_isOwnHere_139 (by decide) (fun hc => ?_) (fun hc => ?_)
              · rw [if_pos hc] at h
                refine mm_iconst (x := 0) dX12_isOwnHere_146 rfl ?_
                exact mm_sub [1] rfl h
              · rw [if_neg hc] at h
                refine mm_iconst (x := 1) dX12_isOwnHere_142 rfl ?_
                refine mm_goto (tgt := 147) dX12_isOwnHere_143 (by decide) ?_
                exact mm_sub [1] rfl h
set_option maxRecDepth 100000 in
set_option maxHeartbeats 4000000 in
theorem lX12_isOwnHere_147 {d : Nat} {M : mm_M} {K : Int32 → mm_M → Prop} {u0 : Int32} (hG : mm_G M.2.2) (h : if u0 = 0 then (mm_CI mX12_isHere d [.ref 164, .ref 179] M (fun z157 m157 => if z157 = 0 then (mm_CI mX12_isHere d [.ref 164, .ref 180] m157 (fun z168 m168 => if z168 = 0 then (mm_CI mX12_isHere d [.ref 164, .ref 181] m168 (fun z179 m179 => if z179 = 0 then (mm_CI mX12_isHere d [.ref 164, .ref 182] m179 (fun z190 m190 => if z190 = 0 then (mm_CI mX12_isHere d [.ref 164, .ref 183] m190 (fun z201 m201 => if z201 = 0 then (mm_CI mX12_isHere d [.ref 164, .ref 184] m201 (fun z212 m212 => if z212 = 0 then (jX12_isOwnHere_223 d m212 K 0) else (jX12_isOwnHere_223 d m212 K 1))) else (jX12_isOwnHere_223 d m201 K 1))) else (jX12_isOwnHere_223 d m190 K 1))) else (jX12_isOwnHere_223 d m179 K 1))) else (jX12_isOwnHere_223 d m168 K 1))) else (jX12_isOwnHere_223 d m157 K 1))) else (jX12_isOwnHere_223 d M K 1)) : jX12_isOwnHere_147 d  M K u0 := by
  unfold jX12_isOwnHere_147
  refine mm_istore_n (lv' := [(1, .int u0), (0, .ref 164)]) dX12_isOwnHere_147 rfl (by decide) rfl ?_
  refine mm_iload_n (j := 0) dX12_isOwnHere_148 rfl rfl ?_
  refine mm_if_ne (tgt := 218) dX12_isOwnHere_149 (by decide) (fun hc => ?_) (fun hc => ?_)
  · rw [if_neg hc] at h
    refine mm_iconst (x := 1) dX12_isOwnHere_218 rfl ?_
    refine mm_goto (tgt := 223) dX12_isOwnHere_219 (by decide) ?_
    exact mm_sub [1] rfl h
  · rw [if_pos hc] at h
    refine mm_aload_n (j := 1) dX12_isOwnHere_152 rfl rfl ?_
    refine mm_aload_n (j := 1) dX12_isOwnHere_153 rfl rfl ?_
    refine mm_getR (ci := 12) (N := 116) (r := 179) dX12_isOwnHere_154 fX12_57 sh_164 rfl (g_164_23 hG) ?_
    refine mm_kVI [.ref 179] dX12_isOwnHere_157 kX12_283 rfl sh_164 (by decide) (by decide) h (fun z157 m157 hG h => ?_)
    refine mm_if_ne (tgt := 218) dX12_isOwnHere_160 (by decide) (fun hc => ?_) (fun hc => ?_)
    · rw [if_neg hc] at h
      refine mm_iconst (x := 1) dX12_isOwnHere_218 rfl ?_
      refine mm_goto (tgt := 223) dX12_isOwnHere_219 (by decide) ?_
      exact mm_sub [1] rfl h
    · rw [if_pos hc] at h
      refine mm_aload_n (j := 1) dX12_isOwnHere_163 rfl rfl ?_
      refine mm_aload_n (j := 1) dX12_isOwnHere_164 rfl rfl ?_
      refine mm_getR (ci := 12) (N := 116) (r := 180) dX12_isOwnHere_165 fX12_60 sh_164 rfl (g_164_24 hG) ?_
      refine mm_kVI [.ref 180] dX12_isOwnHere_168 kX12_283 rfl sh_164 (by decide) (by decide) h (fun z168 m168 hG h => ?_)
      refine mm_if_ne (tgt := 218) dX12_isOwnHere_171 (by decide) (fun hc => ?_) (fun hc => ?_)
      · rw [if_neg hc] at h
        refine mm_iconst (x := 1) dX12_isOwnHere_218 rfl ?_
        refine mm_goto (tgt := 223) dX12_isOwnHere_219 (by decide) ?_
        exact mm_sub [1] rfl h
      · rw [if_pos hc] at h
        refine mm_aload_n (j := 1) dX12_isOwnHere_174 rfl rfl ?_
        refine mm_aload_n (j := 1) dX12_isOwnHere_175 rfl rfl ?_
        refine mm_getR (ci := 12) (N := 116) (r := 181) dX12_isOwnHere_176 fX12_63 sh_164 rfl (g_164_25 hG) ?_
        refine mm_kVI [.ref 181] dX12_isOwnHere_179 kX12_283 rfl sh_164 (by decide) (by decide) h (fun z179 m179 hG h => ?_)
        refine mm_if_ne (tgt := 218) dX12_isOwnHere_182 (by decide) (fun hc => ?_) (fun hc => ?_)
        · rw [if_neg hc] at h
          refine mm_iconst (x := 1) dX12_isOwnHere_218 rfl ?_
          refine mm_goto (tgt := 223) dX12_isOwnHere_219 (by decide) ?_
          exact mm_sub [1] rfl h
        · rw [if_pos hc] at h
          refine mm_aload_n (j := 1) dX12_isOwnHere_185 rfl rfl ?_
          refine mm_aload_n (j := 1) dX12_isOwnHere_186 rfl rfl ?_
          refine mm_getR (ci := 12) (N := 116) (r := 182) dX12_isOwnHere_187 fX12_66 sh_164 rfl (g_164_26 hG) ?_
          refine mm_kVI [.ref 182] dX12_isOwnHere_190 kX12_283 rfl sh_164 (by decide) (by decide) h (fun z190 m190 hG h => ?_)
          refine mm_if_ne (tgt := 218) dX12_isOwnHere_193 (by decide) (fun hc => ?_) (fun hc => ?_)
          · rw [if_neg hc] at h
            refine mm_iconst (x := 1) dX12_isOwnHere_218 rfl ?_
            refine mm_goto (tgt := 223) dX12_isOwnHere_219 (by decide) ?_
            exact mm_sub [1] rfl h
          · rw [if_pos hc] at h
            refine mm_aload_n (j := 1) dX12_isOwnHere_196 rfl rfl ?_
            refine mm_aload_n (j := 1) dX12_isOwnHere_197 rfl rfl ?_
            refine mm_getR (ci := 12) (N := 116) (r := 183) dX12_isOwnHere_198 fX12_69 sh_164 rfl (g_164_27 hG) ?_
            refine mm_kVI [.ref 183] dX12_isOwnHere_201 kX12_283 rfl sh_164 (by decide) (by decide) h (fun z201 m201 hG h => ?_)
            refine mm_if_ne (tgt := 218) dX12_isOwnHere_204 (by decide) (fun hc => ?_) (fun hc => ?_)
            · rw [if_neg hc] at h
              refine mm_iconst (x := 1) dX12_isOwnHere_218 rfl ?_
              refine mm_goto (tgt := 223) dX12_isOwnHere_219 (by decide) ?_
              exact mm_sub [1] rfl h
            · rw [if_pos hc] at h
              refine mm_aload_n (j := 1) dX12_isOwnHere_207 rfl rfl ?_
              refine mm_aload_n (j := 1) dX12_isOwnHere_208 rfl rfl ?_
              refine mm_getR (ci := 12) (N := 116) (r := 184) dX12_isOwnHere_209 fX12_72 sh_164 rfl (g_164_28 hG) ?_
              refine mm_kVI [.ref 184] dX12_isOwnHere_212 kX12_283 rfl sh_164 (by decide) (by decide) h (fun z212 m212 hG h => ?_)
              refine mm_if_eq (tgt := 222) dX12_isOwnHere_215 (by decide) (fun hc => ?_) (fun hc => ?_)
              · rw [if_pos hc] at h
                refine mm_iconst (x := 0) dX12_isOwnHere_222 rfl ?_
                exact mm_sub [1] rfl h
              · rw [if_neg hc] at h
                refine mm_iconst (x := 1) dX12_isOwnHere_218 rfl ?_
                refine mm_goto (tgt := 223) dX12_isOwnHere_219 (by decide) ?_
                exact mm_sub [1] rfl h
set_option maxRecDepth 100000 in
set_option maxHeartbeats 4000000 in
theorem lX12_isOwnHere_223 {d : Nat} {M : mm_M} {K : Int32 → mm_M → Prop} {u0 : Int32} (hG : mm_G M.2.2) (h : if u0 = 0 then (mm_CI mX12_isHere d [.ref 164, .ref 185] M (fun z233 m233 => if z233 = 0 then (mm_CI mX12_isHere d [.ref 164, .ref 186] m233 (fun z244 m244 => if z244 = 0 then (mm_CI mX12_isHere d [.ref 164, .ref 187] m244 (fun z255 m255 => if z255 = 0 then (mm_CI mX12_isHere d [.ref 164, .ref 188] m255 (fun z266 m266 => if z266 = 0 then (mm_CI mX12_isHere d [.ref 164, .ref 189] m266 (fun z277 m277 => if z277 = 0 then (mm_CI mX12_isHere d [.ref 164, .ref 190] m277 (fun z288 m288 => if z288 = 0 then (K 0 m288) else (K 1 m288))) else (K 1 m277))) else (K 1 m266))) else (K 1 m255))) else (K 1 m244))) else (K 1 m233))) else (K 1 M)) : jX12_isOwnHere_223 d  M K u0 := by
  unfold jX12_isOwnHere_223
  refine mm_istore_n (lv' := [(1, .int u0), (0, .ref 164)]) dX12_isOwnHere_223 rfl (by decide) rfl ?_
  refine mm_iload_n (j := 0) dX12_isOwnHere_224 rfl rfl ?_
  refine mm_if_ne (tgt := 294) dX12_isOwnHere_225 (by decide) (fun hc => ?_) (fun hc => ?_)
  · rw [if_neg hc] at h
    refine mm_iconst (x := 1) dX12_isOwnHere_294 rfl ?_
    refine mm_goto (tgt := 299) dX12_isOwnHere_295 (by decide) ?_
    refine mm_istore_n (lv' := [(1, .int 1), (0, .ref 164)]) dX12_isOwnHere_299 rfl (by decide) rfl ?_
    refine mm_iload_n (j := 0) dX12_isOwnHere_300 rfl rfl ?_
    exact mm_zret dX12_isOwnHere_301 rfl rfl (Nat.le_refl 0) (Nat.le_refl 0) ⟨_, rfl, rfl, hG, h⟩
  · rw [if_pos hc] at h
    refine mm_aload_n (j := 1) dX12_isOwnHere_228 rfl rfl ?_
    refine mm_aload_n (j := 1) dX12_isOwnHere_229 rfl rfl ?_
    refine mm_getR (ci := 12) (N := 116) (r := 185) dX12_isOwnHere_230 fX12_75 sh_164 rfl (g_164_29 hG) ?_
    refine mm_kVI [.ref 185] dX12_isOwnHere_233 kX12_283 rfl sh_164 (by decide) (by decide) h (fun z233 m233 hG h => ?_)
    refine mm_if_ne (tgt := 294) dX12_isOwnHere_236 (by decide) (fun hc => ?_) (fun hc => ?_)
    · rw [if_neg hc] at h
      refine mm_iconst (x := 1) dX12_isOwnHere_294 rfl ?_
      refine mm_goto (tgt := 299) dX12_isOwnHere_295 (by decide) ?_
      refine mm_istore_n (lv' := [(1, .int 1), (0, .ref 164)]) dX12_isOwnHere_299 rfl (by decide) rfl ?_
      refine mm_iload_n (j := 0) dX12_isOwnHere_300 rfl rfl ?_
      exact mm_zret dX12_isOwnHere_301 rfl rfl (Nat.le_refl 0) (Nat.le_refl 0) ⟨_, rfl, rfl, hG, h⟩
    · rw [if_pos hc] at h
      refine mm_aload_n (j := 1) dX12_isOwnHere_239 rfl rfl ?_
      refine mm_aload_n (j := 1) dX12_isOwnHere_240 rfl rfl ?_
      refine mm_getR (ci := 12) (N := 116) (r := 186) dX12_isOwnHere_241 fX12_78 sh_164 rfl (g_164_30 hG) ?_
      refine mm_kVI [.ref 186] dX12_isOwnHere_244 kX12_283 rfl sh_164 (by decide) (by decide) h (fun z244 m244 hG h => ?_)
      refine mm_if_ne (tgt := 294) dX12_isOwnHere_247 (by decide) (fun hc => ?_) (fun hc => ?_)
      · rw [if_neg hc] at h
        refine mm_iconst (x := 1) dX12_isOwnHere_294 rfl ?_
        refine mm_goto (tgt := 299) dX12_isOwnHere_295 (by decide) ?_
        refine mm_istore_n (lv' := [(1, .int 1), (0, .ref 164)]) dX12_isOwnHere_299 rfl (by decide) rfl ?_
        refine mm_iload_n (j := 0) dX12_isOwnHere_300 rfl rfl ?_
        exact mm_zret dX12_isOwnHere_301 rfl rfl (Nat.le_refl 0) (Nat.le_refl 0) ⟨_, rfl, rfl, hG, h⟩
      · rw [if_pos hc] at h
        refine mm_aload_n (j := 1) dX12_isOwnHere_250 rfl rfl ?_
        refine mm_aload_n (j := 1) dX12_isOwnHere_251 rfl rfl ?_
        refine mm_getR (ci := 12) (N := 116) (r := 187) dX12_isOwnHere_252 fX12_81 sh_164 rfl (g_164_31 hG) ?_
        refine mm_kVI [.ref 187] dX12_isOwnHere_255 kX12_283 rfl sh_164 (by decide) (by decide) h (fun z255 m255 hG h => ?_)
        refine mm_if_ne (tgt := 294) dX12_isOwnHere_258 (by decide) (fun hc => ?_) (fun hc => ?_)
        · rw [if_neg hc] at h
          refine mm_iconst (x := 1) dX12_isOwnHere_294 rfl ?_
          refine mm_goto (tgt := 299) dX12_isOwnHere_295 (by decide) ?_
          refine mm_istore_n (lv' := [(1, .int 1), (0, .ref 164)]) dX12_isOwnHere_299 rfl (by decide) rfl ?_
          refine mm_iload_n (j := 0) dX12_isOwnHere_300 rfl rfl ?_
          exact mm_zret dX12_isOwnHere_301 rfl rfl (Nat.le_refl 0) (Nat.le_refl 0) ⟨_, rfl, rfl, hG, h⟩
        · rw [if_pos hc] at h
          refine mm_aload_n (j := 1) dX12_isOwnHere_261 rfl rfl ?_
          refine mm_aload_n (j := 1) dX12_isOwnHere_262 rfl rfl ?_
          refine mm_getR (ci := 12) (N := 116) (r := 188) dX12_isOwnHere_263 fX12_84 sh_164 rfl (g_164_32 hG) ?_
          refine mm_kVI [.ref 188] dX12_isOwnHere_266 kX12_283 rfl sh_164 (by decide) (by decide) h (fun z266 m266 hG h => ?_)
          refine mm_if_ne (tgt := 294) dX12_isOwnHere_269 (by decide) (fun hc => ?_) (fun hc => ?_)
          · rw [if_neg hc] at h
            refine mm_iconst (x := 1) dX12_isOwnHere_294 rfl ?_
            refine mm_goto (tgt := 299) dX12_isOwnHere_295 (by decide) ?_
            refine mm_istore_n (lv' := [(1, .int 1), (0, .ref 164)]) dX12_isOwnHere_299 rfl (by decide) rfl ?_
            refine mm_iload_n (j := 0) dX12_isOwnHere_300 rfl rfl ?_
            exact mm_zret dX12_isOwnHere_301 rfl rfl (Nat.le_refl 0) (Nat.le_refl 0) ⟨_, rfl, rfl, hG, h⟩
          · rw [if_pos hc] at h
            refine mm_aload_n (j := 1) dX12_isOwnHere_272 rfl rfl ?_
            refine mm_aload_n (j := 1) dX12_isOwnHere_273 rfl rfl ?_
            refine mm_getR (ci := 12) (N := 116) (r := 189) dX12_isOwnHere_274 fX12_87 sh_164 rfl (g_164_33 hG) ?_
            refine mm_kVI [.ref 189] dX12_isOwnHere_277 kX12_283 rfl sh_164 (by decide) (by decide) h (fun z277 m277 hG h => ?_)
            refine mm_if_ne (tgt := 294) dX12_isOwnHere_280 (by decide) (fun hc => ?_) (fun hc => ?_)
            · rw [if_neg hc] at h
              refine mm_iconst (x := 1) dX12_isOwnHere_294 rfl ?_
              refine mm_goto (tgt := 299) dX12_isOwnHere_295 (by decide) ?_
              refine mm_istore_n (lv' := [(1, .int 1), (0, .ref 164)]) dX12_isOwnHere_299 rfl (by decide) rfl ?_
              refine mm_iload_n (j := 0) dX12_isOwnHere_300 rfl rfl ?_
              exact mm_zret dX12_isOwnHere_301 rfl rfl (Nat.le_refl 0) (Nat.le_refl 0) ⟨_, rfl, rfl, hG, h⟩
            · rw [if_pos hc] at h
              refine mm_aload_n (j := 1) dX12_isOwnHere_283 rfl rfl ?_
              refine mm_aload_n (j := 1) dX12_isOwnHere_284 rfl rfl ?_
              refine mm_getR (ci := 12) (N := 116) (r := 190) dX12_isOwnHere_285 fX12_90 sh_164 rfl (g_164_34 hG) ?_
              refine mm_kVI [.ref 190] dX12_isOwnHere_288 kX12_283 rfl sh_164 (by decide) (by decide) h (fun z288 m288 hG h => ?_)
              refine mm_if_eq (tgt := 298) dX12_isOwnHere_291 (by decide) (fun hc => ?_) (fun hc => ?_)
              · rw [if_pos hc] at h
                refine mm_iconst (x := 0) dX12_isOwnHere_298 rfl ?_
                refine mm_istore_n (lv' := [(1, .int 0), (0, .ref 164)]) dX12_isOwnHere_299 rfl (by decide) rfl ?_
                refine mm_iload_n (j := 0) dX12_isOwnHere_300 rfl rfl ?_
                exact mm_zret dX12_isOwnHere_301 rfl rfl (Nat.le_refl 0) (Nat.le_refl 0) ⟨_, rfl, rfl, hG, h⟩
              · rw [if_neg hc] at h
                refine mm_iconst (x := 1) dX12_isOwnHere_294 rfl ?_
                refine mm_goto (tgt := 299) dX12_isOwnHere_295 (by decide) ?_
                refine mm_istore_n (lv' := [(1, .int 1), (0, .ref 164)]) dX12_isOwnHere_299 rfl (by decide) rfl ?_
                refine mm_iload_n (j := 0) dX12_isOwnHere_300 rfl rfl ?_
                exact mm_zret dX12_isOwnHere_301 rfl rfl (Nat.le_refl 0) (Nat.le_refl 0) ⟨_, rfl, rfl, hG, h⟩
def jX12_name_58 (d : Nat) (M : mm_M) (K : Int64 → mm_M → Prop) (y1 : Int64) : Prop := mm_W mX12_name (d + 1) 0 0 58 [(0, .ref 164), (1, .long y1)] [] mm_SH M 0 0 (mm_PL K)
set_option maxRecDepth 100000 in
set_option maxHeartbeats 4000000 in
theorem rX12_name {d : Nat} {M : mm_M} {K : Int64 → mm_M → Prop} (hG : mm_G M.2.2) (h : if (M.1 164 5) = 0 then (mm_CI mX12_look d [.ref 164] M (fun z10 m10 => mm_CI mX12_isLetter d [.int z10] m10 (fun z13 m13 => if z13 = 0 then (mm_CV mX12_fail d [.ref 164, .int 1, .int (m13.1 164 2)] m13 (fun m43 => K 0 m43)) else (if (m13.1 164 2) = (m13.1 164 4) then (mm_CV mX12_fail d [.ref 164, .int 1, .int (m13.1 164 2)] m13 (fun m43 => K 0 m43)) else (mm_CI mX12_isOwnHere d [.ref 164] m13 (fun z31 m31 => if z31 = 0 then (jX12_name_58 d (mm_uI m31 164 35 (m31.1 164 2)) K 0) else (mm_CV mX12_fail d [.ref 164, .int 1, .int (m31.1 164 2)] m31 (fun m43 => K 0 m43)))))))) else (K 0 M)) : mm_CL mX12_name (d + 1) [.ref 164] M K := by
  show mm_W mX12_name (d + 1) 0 0 0 [(0, .ref 164)] [] mm_SH M 0 0 (mm_PL K)
  refine mm_aload_n (j := 0) dX12_name_0 rfl rfl ?_
  refine mm_getI (ci := 12) (N := 116) dX12_name_1 fX12_260 sh_164 rfl ?_
  refine mm_if_eq (tgt := 9) dX12_name_4 (by decide) (fun hc => ?_) (fun hc => ?_)
  · rw [if_pos hc] at h
    refine mm_aload_n (j := 0) dX12_name_9 rfl rfl ?_
    refine mm_kVI [] dX12_name_10 kX12_272 rfl sh_164 (by decide) (by decide) h (fun z10 m10 hG h => ?_)
    refine mm_kSI [.int z10] dX12_name_13 kX12_276 rfl (by decide) (by decide) h (fun z13 m13 hG h => ?_)
    refine mm_if_eq (tgt := 37) dX12_name_16 (by decide) (fun hc => ?_) (fun hc => ?_)
    · rw [if_pos hc] at h
      refine mm_aload_n (j := 0) dX12_name_37 rfl rfl ?_
      refine mm_iconst (x := 1) dX12_name_38 rfl ?_
      refine mm_aload_n (j := 0) dX12_name_39 rfl rfl ?_
      refine mm_getI (ci := 12) (N := 116) dX12_name_40 fX12_266 sh_164 rfl ?_
      refine mm_kVV [.int 1, .int (m13.1 164 2)] dX12_name_43 kX12_290 rfl sh_164 (by decide) (by decide) h (fun m43 hG h => ?_)
      refine mm_lconst (x := 0) dX12_name_46 rfl ?_
      exact mm_lret dX12_name_47 rfl (Nat.le_refl 0) (Nat.le_refl 0) ⟨_, rfl, rfl, hG, h⟩
    · rw [if_neg hc] at h
      refine mm_aload_n (j := 0) dX12_name_19 rfl rfl ?_
      refine mm_getI (ci := 12) (N := 116) dX12_name_20 fX12_266 sh_164 rfl ?_
      refine mm_aload_n (j := 0) dX12_name_23 rfl rfl ?_
      refine mm_getI (ci := 12) (N := 116) dX12_name_24 fX12_280 sh_164 rfl ?_
      refine mm_icmp_eq (tgt := 37) dX12_name_27 (by decide) (fun hc => ?_) (fun hc => ?_)
      · rw [if_pos hc] at h
        refine mm_aload_n (j := 0) dX12_name_37 rfl rfl ?_
        refine mm_iconst (x := 1) dX12_name_38 rfl ?_
        refine mm_aload_n (j := 0) dX12_name_39 rfl rfl ?_
        refine mm_getI (ci := 12) (N := 116) dX12_name_40 fX12_266 sh_164 rfl ?_
        refine mm_kVV [.int 1, .int (m13.1 164 2)] dX12_name_43 kX12_290 rfl sh_164 (by decide) (by decide) h (fun m43 hG h => ?_)
        refine mm_lconst (x := 0) dX12_name_46 rfl ?_
        exact mm_lret dX12_name_47 rfl (Nat.le_refl 0) (Nat.le_refl 0) ⟨_, rfl, rfl, hG, h⟩
      · rw [if_neg hc] at h
        refine mm_aload_n (j := 0) dX12_name_30 rfl rfl ?_
        refine mm_kVI [] dX12_name_31 kX12_307 rfl sh_164 (by decide) (by decide) h (fun z31 m31 hG h => ?_)
        refine mm_if_eq (tgt := 48) dX12_name_34 (by decide) (fun hc => ?_) (fun hc => ?_)
        · rw [if_pos hc] at h
          refine mm_aload_n (j := 0) dX12_name_48 rfl rfl ?_
          refine mm_aload_n (j := 0) dX12_name_49 rfl rfl ?_
          refine mm_getI (ci := 12) (N := 116) dX12_name_50 fX12_266 sh_164 rfl ?_
          refine mm_putI (ci := 12) (N := 116) dX12_name_53 fX12_311 sh_164 (by decide +kernel) rfl rfl rfl ?_
          refine mm_lconst (x := 0) dX12_name_56 rfl ?_
          refine mm_lstore_n (lv' := [(1, .long 0), (0, .ref 164)]) dX12_name_57 rfl (by decide) rfl ?_
          exact mm_sub [1, 0] rfl h
        · rw [if_neg hc] at h
          refine mm_aload_n (j := 0) dX12_name_37 rfl rfl ?_
          refine mm_iconst (x := 1) dX12_name_38 rfl ?_
          refine mm_aload_n (j := 0) dX12_name_39 rfl rfl ?_
          refine mm_getI (ci := 12) (N := 116) dX12_name_40 fX12_266 sh_164 rfl ?_
          refine mm_kVV [.int 1, .int (m31.1 164 2)] dX12_name_43 kX12_290 rfl sh_164 (by decide) (by decide) h (fun m43 hG h => ?_)
          refine mm_lconst (x := 0) dX12_name_46 rfl ?_
          exact mm_lret dX12_name_47 rfl (Nat.le_refl 0) (Nat.le_refl 0) ⟨_, rfl, rfl, hG, h⟩
  · rw [if_neg hc] at h
    refine mm_lconst (x := 0) dX12_name_7 rfl ?_
    exact mm_lret dX12_name_8 rfl (Nat.le_refl 0) (Nat.le_refl 0) ⟨_, rfl, rfl, hG, h⟩
set_option maxRecDepth 100000 in
set_option maxHeartbeats 4000000 in
theorem lX12_name_58 {d : Nat} {M : mm_M} {K : Int64 → mm_M → Prop} {y1 : Int64} (hG : mm_G M.2.2) (h : if (M.1 164 3) ≤ (M.1 164 2) then (K y1 (mm_uI M 164 4 (M.1 164 2))) else (vp_in (M.1 164 2) 1600 ∧ mm_CI mX12_isLetter d [.int (M.1 165 (M.1 164 2).toNatClampNeg)] M (fun z78 m78 => if z78 = 0 then (K y1 (mm_uI m78 164 4 (m78.1 164 2))) else (if ((m78.1 164 2) - (m78.1 164 35)) = 6 then (mm_CV mX12_fail d [.ref 164, .int 1, .int (m78.1 164 2)] m78 (fun m104 => K 0 m104)) else (vp_in (m78.1 164 2) 1600 ∧ jX12_name_58 d (mm_uI m78 164 2 ((m78.1 164 2) + 1)) K ((((27 * y1) + ((m78.1 165 (m78.1 164 2).toNatClampNeg).toInt64)) - 97) + 1)))))) : jX12_name_58 d  M K y1 := by
  unfold jX12_name_58
  refine mm_aload_n (j := 0) dX12_name_58 rfl rfl ?_
  refine mm_getI (ci := 12) (N := 116) dX12_name_59 fX12_266 sh_164 rfl ?_
  refine mm_aload_n (j := 0) dX12_name_62 rfl rfl ?_
  refine mm_getI (ci := 12) (N := 116) dX12_name_63 fX12_269 sh_164 rfl ?_
  refine mm_icmp_ge (tgt := 145) dX12_name_66 (by decide) (fun hc => ?_) (fun hc => ?_)
  · rw [if_pos hc] at h
    refine mm_aload_n (j := 0) dX12_name_145 rfl rfl ?_
    refine mm_aload_n (j := 0) dX12_name_146 rfl rfl ?_
    refine mm_getI (ci := 12) (N := 116) dX12_name_147 fX12_266 sh_164 rfl ?_
    refine mm_putI (ci := 12) (N := 116) dX12_name_150 fX12_280 sh_164 (by decide +kernel) rfl rfl rfl ?_
    refine mm_lload_n (j := 1) dX12_name_153 rfl rfl ?_
    exact mm_lret dX12_name_154 rfl (Nat.le_refl 0) (Nat.le_refl 0) ⟨_, rfl, rfl, hG, h⟩
  · rw [if_neg hc] at h
    refine mm_aload_n (j := 0) dX12_name_69 rfl rfl ?_
    refine mm_getR (ci := 12) (N := 116) (r := 165) dX12_name_70 fX12_7 sh_164 rfl (g_164_0 hG) ?_
    refine mm_aload_n (j := 0) dX12_name_73 rfl rfl ?_
    refine mm_getI (ci := 12) (N := 116) dX12_name_74 fX12_266 sh_164 rfl ?_
    obtain ⟨hi77, h⟩ := h
    refine mm_iaload (N := 1600) dX12_name_77 sh_165 hi77 ?_
    refine mm_kSI [.int (M.1 165 (M.1 164 2).toNatClampNeg)] dX12_name_78 kX12_276 rfl (by decide) (by decide) h (fun z78 m78 hG h => ?_)
    refine mm_if_eq (tgt := 145) dX12_name_81 (by decide) (fun hc => ?_) (fun hc => ?_)
    · rw [if_pos hc] at h
      refine mm_aload_n (j := 0) dX12_name_145 rfl rfl ?_
      refine mm_aload_n (j := 0) dX12_name_146 rfl rfl ?_
      refine mm_getI (ci := 12) (N := 116) dX12_name_147 fX12_266 sh_164 rfl ?_
      refine mm_putI (ci := 12) (N := 116) dX12_name_150 fX12_280 sh_164 (by decide +kernel) rfl rfl rfl ?_
      refine mm_lload_n (j := 1) dX12_name_153 rfl rfl ?_
      exact mm_lret dX12_name_154 rfl (Nat.le_refl 0) (Nat.le_refl 0) ⟨_, rfl, rfl, hG, h⟩
    · rw [if_neg hc] at h
      refine mm_aload_n (j := 0) dX12_name_84 rfl rfl ?_
      refine mm_getI (ci := 12) (N := 116) dX12_name_85 fX12_266 sh_164 rfl ?_
      refine mm_aload_n (j := 0) dX12_name_88 rfl rfl ?_
      refine mm_getI (ci := 12) (N := 116) dX12_name_89 fX12_311 sh_164 rfl ?_
      refine mm_isub dX12_name_92 ?_
      refine mm_bipush (x := 6) dX12_name_93 rfl ?_
      refine mm_icmp_ne (tgt := 109) dX12_name_95 (by decide) (fun hc => ?_) (fun hc => ?_)
      · rw [if_neg hc] at h
        refine mm_ldc2 (x := 27) dX12_name_109 cX12_314 ?_
        refine mm_lload_n (j := 1) dX12_name_112 rfl rfl ?_
        refine mm_lmul dX12_name_113 ?_
        refine mm_aload_n (j := 0) dX12_name_114 rfl rfl ?_
        refine mm_getR (ci := 12) (N := 116) (r := 165) dX12_name_115 fX12_7 sh_164 rfl (g_164_0 hG) ?_
        refine mm_aload_n (j := 0) dX12_name_118 rfl rfl ?_
        refine mm_getI (ci := 12) (N := 116) dX12_name_119 fX12_266 sh_164 rfl ?_
        obtain ⟨hi122, h⟩ := h
        refine mm_iaload (N := 1600) dX12_name_122 sh_165 hi122 ?_
        refine mm_i2l dX12_name_123 ?_
        refine mm_ladd dX12_name_124 ?_
        refine mm_ldc2 (x := 97) dX12_name_125 cX12_316 ?_
        refine mm_lsub dX12_name_128 ?_
        refine mm_lconst (x := 1) dX12_name_129 rfl ?_
        refine mm_ladd dX12_name_130 ?_
        refine mm_lstore_n (lv' := [(1, .long ((((27 * y1) + ((m78.1 165 (m78.1 164 2).toNatClampNeg).toInt64)) - 97) + 1)), (0, .ref 164)]) dX12_name_131 rfl (by decide) rfl ?_
        refine mm_aload_n (j := 1) dX12_name_132 rfl rfl ?_
        refine mm_dup dX12_name_133 rfl ?_
        refine mm_getI (ci := 12) (N := 116) dX12_name_134 fX12_266 sh_164 rfl ?_
        refine mm_iconst (x := 1) dX12_name_137 rfl ?_
        refine mm_iadd dX12_name_138 ?_
        refine mm_putI (ci := 12) (N := 116) dX12_name_139 fX12_266 sh_164 (by decide +kernel) rfl rfl rfl ?_
        refine mm_goto (tgt := 58) dX12_name_142 (by decide) ?_
        exact mm_sub [1, 0] rfl h
      · rw [if_pos hc] at h
        refine mm_aload_n (j := 0) dX12_name_98 rfl rfl ?_
        refine mm_iconst (x := 1) dX12_name_99 rfl ?_
        refine mm_aload_n (j := 0) dX12_name_100 rfl rfl ?_
        refine mm_getI (ci := 12) (N := 116) dX12_name_101 fX12_266 sh_164 rfl ?_
        refine mm_kVV [.int 1, .int (m78.1 164 2)] dX12_name_104 kX12_290 rfl sh_164 (by decide) (by decide) h (fun m104 hG h => ?_)
        refine mm_lconst (x := 0) dX12_name_107 rfl ?_
        exact mm_lret dX12_name_108 rfl (Nat.le_refl 0) (Nat.le_refl 0) ⟨_, rfl, rfl, hG, h⟩
set_option maxRecDepth 100000 in
set_option maxHeartbeats 4000000 in
theorem rX12_kindOf {d : Nat} {x0 : Int32} {M : mm_M} {K : Int32 → mm_M → Prop} (hG : mm_G M.2.2) (h : if 2 ≤ x0 then (if x0 = 3 then (K 2 M) else (K 1 M)) else (K 0 M)) : mm_CI mX12_kindOf d [.int x0] M K := by
  show mm_W mX12_kindOf d 0 0 0 [(0, .int x0)] [] mm_SH M 0 0 (mm_PI K)
  refine mm_iload_n (j := 0) dX12_kindOf_0 rfl rfl ?_
  refine mm_iconst (x := 2) dX12_kindOf_1 rfl ?_
  refine mm_icmp_ge (tgt := 9) dX12_kindOf_2 (by decide) (fun hc => ?_) (fun hc => ?_)
  · rw [if_pos hc] at h
    refine mm_iload_n (j := 0) dX12_kindOf_9 rfl rfl ?_
    refine mm_iconst (x := 3) dX12_kindOf_10 rfl ?_
    refine mm_icmp_ne (tgt := 18) dX12_kindOf_11 (by decide) (fun hc => ?_) (fun hc => ?_)
    · rw [if_neg hc] at h
      refine mm_iconst (x := 1) dX12_kindOf_18 rfl ?_
      exact mm_iret dX12_kindOf_19 rfl (Nat.le_refl 0) (Nat.le_refl 0) ⟨_, rfl, rfl, hG, h⟩
    · rw [if_pos hc] at h
      refine mm_iconst (x := 2) dX12_kindOf_14 rfl ?_
      refine mm_goto (tgt := 19) dX12_kindOf_15 (by decide) ?_
      exact mm_iret dX12_kindOf_19 rfl (Nat.le_refl 0) (Nat.le_refl 0) ⟨_, rfl, rfl, hG, h⟩
  · rw [if_neg hc] at h
    refine mm_iconst (x := 0) dX12_kindOf_5 rfl ?_
    refine mm_goto (tgt := 19) dX12_kindOf_6 (by decide) ?_
    exact mm_iret dX12_kindOf_19 rfl (Nat.le_refl 0) (Nat.le_refl 0) ⟨_, rfl, rfl, hG, h⟩
set_option maxRecDepth 100000 in
set_option maxHeartbeats 4000000 in
theorem rX12_isAllowed {d : Nat} {x1 : Int32} {M : mm_M} {K : Int32 → mm_M → Prop} (hG : mm_G M.2.2) (h : if (M.1 164 49) = 0 then (if 5 ≤ x1 then (K 0 M) else (K 1 M)) else (if (M.1 164 49) = 1 then (if 4 ≤ x1 then (K 0 M) else (K 1 M)) else (if (M.1 164 49) = 2 then (mm_CI mX12_isIn d [.long x1.toInt64, .long 3, .long 5] M (fun z62 m62 => (z62 = 0 ∨ z62 = 1) ∧ K z62 m62)) else (if x1 < 4 then (K 1 M) else (if x1 ≤ 5 then (K 0 M) else (K 1 M)))))) : mm_CI mX12_isAllowed (d + 1) [.ref 164, .int x1] M K := by
  show mm_W mX12_isAllowed (d + 1) 0 0 0 [(0, .ref 164), (1, .int x1)] [] mm_SH M 0 0 (mm_PI K)
  refine mm_aload_n (j := 0) dX12_isAllowed_0 rfl rfl ?_
  refine mm_getI (ci := 12) (N := 116) dX12_isAllowed_1 fX12_318 sh_164 rfl ?_
  by_cases hs4_0 : (M.1 164 49) = 0
  · rw [if_pos hs4_0] at h
    refine mm_tableIn (off := 28) (tgt := 32) dX12_isAllowed_4 (by rw [hs4_0]; decide) (by rw [hs4_0]; decide) (by rw [hs4_0]; rfl) (by decide) ?_
    refine mm_iload_n (j := 1) dX12_isAllowed_32 rfl rfl ?_
    refine mm_iconst (x := 5) dX12_isAllowed_33 rfl ?_
    refine mm_icmp_ge (tgt := 41) dX12_isAllowed_34 (by decide) (fun hc => ?_) (fun hc => ?_)
    · rw [if_pos hc] at h
      refine mm_iconst (x := 0) dX12_isAllowed_41 rfl ?_
      exact mm_zret dX12_isAllowed_42 rfl rfl (Nat.le_refl 0) (Nat.le_refl 0) ⟨_, rfl, rfl, hG, h⟩
    · rw [if_neg hc] at h
      refine mm_iconst (x := 1) dX12_isAllowed_37 rfl ?_
      refine mm_goto (tgt := 42) dX12_isAllowed_38 (by decide) ?_
      exact mm_zret dX12_isAllowed_42 rfl rfl (Nat.le_refl 0) (Nat.le_refl 0) ⟨_, rfl, rfl, hG, h⟩
  · rw [if_neg hs4_0] at h
    by_cases hs4_1 : (M.1 164 49) = 1
    · rw [if_pos hs4_1] at h
      refine mm_tableIn (off := 39) (tgt := 43) dX12_isAllowed_4 (by rw [hs4_1]; decide) (by rw [hs4_1]; decide) (by rw [hs4_1]; rfl) (by decide) ?_
      refine mm_iload_n (j := 1) dX12_isAllowed_43 rfl rfl ?_
      refine mm_iconst (x := 4) dX12_isAllowed_44 rfl ?_
      refine mm_icmp_ge (tgt := 52) dX12_isAllowed_45 (by decide) (fun hc => ?_) (fun hc => ?_)
      · rw [if_pos hc] at h
        refine mm_iconst (x := 0) dX12_isAllowed_52 rfl ?_
        exact mm_zret dX12_isAllowed_53 rfl rfl (Nat.le_refl 0) (Nat.le_refl 0) ⟨_, rfl, rfl, hG, h⟩
      · rw [if_neg hc] at h
        refine mm_iconst (x := 1) dX12_isAllowed_48 rfl ?_
        refine mm_goto (tgt := 53) dX12_isAllowed_49 (by decide) ?_
        exact mm_zret dX12_isAllowed_53 rfl rfl (Nat.le_refl 0) (Nat.le_refl 0) ⟨_, rfl, rfl, hG, h⟩
    · rw [if_neg hs4_1] at h
      by_cases hs4_2 : (M.1 164 49) = 2
      · rw [if_pos hs4_2] at h
        refine mm_tableIn (off := 50) (tgt := 54) dX12_isAllowed_4 (by rw [hs4_2]; decide) (by rw [hs4_2]; decide) (by rw [hs4_2]; rfl) (by decide) ?_
        refine mm_iload_n (j := 1) dX12_isAllowed_54 rfl rfl ?_
        refine mm_i2l dX12_isAllowed_55 ?_
        refine mm_ldc2 (x := 3) dX12_isAllowed_56 cX12_321 ?_
        refine mm_ldc2 (x := 5) dX12_isAllowed_59 cX12_323 ?_
        refine mm_kSI [.long x1.toInt64, .long 3, .long 5] dX12_isAllowed_62 kX12_303 rfl (by decide) (by decide) h (fun z62 m62 hG h => ?_)
        obtain ⟨hb, h⟩ := h
        exact mm_zret dX12_isAllowed_65 rfl (mm_nb hb) (Nat.le_refl 0) (Nat.le_refl 0) ⟨_, rfl, rfl, hG, h⟩
      · rw [if_neg hs4_2] at h
        have ht4_0 := lv_neT hs4_0 (show (0 : Int32).toInt = 0 from rfl)
        have ht4_1 := lv_neT hs4_1 (show (1 : Int32).toInt = 1 from rfl)
        have ht4_2 := lv_neT hs4_2 (show (2 : Int32).toInt = 2 from rfl)
        refine mm_tableOut (tgt := 66) dX12_isAllowed_4 (by omega) (by decide) ?_
        refine mm_iload_n (j := 1) dX12_isAllowed_66 rfl rfl ?_
        refine mm_iconst (x := 4) dX12_isAllowed_67 rfl ?_
        refine mm_icmp_lt (tgt := 76) dX12_isAllowed_68 (by decide) (fun hc => ?_) (fun hc => ?_)
        · rw [if_pos hc] at h
          refine mm_iconst (x := 1) dX12_isAllowed_76 rfl ?_
          refine mm_goto (tgt := 81) dX12_isAllowed_77 (by decide) ?_
          exact mm_zret dX12_isAllowed_81 rfl rfl (Nat.le_refl 0) (Nat.le_refl 0) ⟨_, rfl, rfl, hG, h⟩
        · rw [if_neg hc] at h
          refine mm_iload_n (j := 1) dX12_isAllowed_71 rfl rfl ?_
          refine mm_iconst (x := 5) dX12_isAllowed_72 rfl ?_
          refine mm_icmp_le (tgt := 80) dX12_isAllowed_73 (by decide) (fun hc => ?_) (fun hc => ?_)
          · rw [if_pos hc] at h
            refine mm_iconst (x := 0) dX12_isAllowed_80 rfl ?_
            exact mm_zret dX12_isAllowed_81 rfl rfl (Nat.le_refl 0) (Nat.le_refl 0) ⟨_, rfl, rfl, hG, h⟩
          · rw [if_neg hc] at h
            refine mm_iconst (x := 1) dX12_isAllowed_76 rfl ?_
            refine mm_goto (tgt := 81) dX12_isAllowed_77 (by decide) ?_
            exact mm_zret dX12_isAllowed_81 rfl rfl (Nat.le_refl 0) (Nat.le_refl 0) ⟨_, rfl, rfl, hG, h⟩
def jX12_pairOf_21 (d : Nat) (x0 : Int32) (x1 : Int32) (M : mm_M) (K : Int32 → mm_M → Prop) (y2 : Int32) (u0 : Int32) : Prop := mm_W mX12_pairOf d 0 0 21 [(2, .int y2)] [.int u0] mm_SH M 0 0 (mm_PI K)
set_option maxRecDepth 100000 in
set_option maxHeartbeats 4000000 in
theorem rX12_pairOf {d : Nat} {x0 : Int32} {x1 : Int32} {M : mm_M} {K : Int32 → mm_M → Prop} (hG : mm_G M.2.2) (h : if x1 ≤ x0 then (if x1 ≤ x0 then (jX12_pairOf_21 d x0 x1 M K x1 x0) else (jX12_pairOf_21 d x0 x1 M K x1 x1)) else (if x1 ≤ x0 then (jX12_pairOf_21 d x0 x1 M K x0 x0) else (jX12_pairOf_21 d x0 x1 M K x0 x1))) : mm_CI mX12_pairOf d [.int x0, .int x1] M K := by
  show mm_W mX12_pairOf d 0 0 0 [(0, .int x0), (1, .int x1)] [] mm_SH M 0 0 (mm_PI K)
  refine mm_iload_n (j := 0) dX12_pairOf_0 rfl rfl ?_
  refine mm_iload_n (j := 1) dX12_pairOf_1 rfl rfl ?_
  refine mm_icmp_ge (tgt := 9) dX12_pairOf_2 (by decide) (fun hc => ?_) (fun hc => ?_)
  · rw [if_pos hc] at h
    refine mm_iload_n (j := 1) dX12_pairOf_9 rfl rfl ?_
    refine mm_istore_n (lv' := [(2, .int x1), (0, .int x0), (1, .int x1)]) dX12_pairOf_10 rfl (by decide) rfl ?_
    refine mm_iload_n (j := 1) dX12_pairOf_11 rfl rfl ?_
    refine mm_iload_n (j := 2) dX12_pairOf_12 rfl rfl ?_
    refine mm_icmp_ge (tgt := 20) dX12_pairOf_13 (by decide) (fun hc => ?_) (fun hc => ?_)
    · rw [if_pos hc] at h
      refine mm_iload_n (j := 1) dX12_pairOf_20 rfl rfl ?_
      exact mm_sub [0] rfl h
    · rw [if_neg hc] at h
      refine mm_iload_n (j := 2) dX12_pairOf_16 rfl rfl ?_
      refine mm_goto (tgt := 21) dX12_pairOf_17 (by decide) ?_
      exact mm_sub [0] rfl h
  · rw [if_neg hc] at h
    refine mm_iload_n (j := 0) dX12_pairOf_5 rfl rfl ?_
    refine mm_goto (tgt := 10) dX12_pairOf_6 (by decide) ?_
    refine mm_istore_n (lv' := [(2, .int x0), (0, .int x0), (1, .int x1)]) dX12_pairOf_10 rfl (by decide) rfl ?_
    refine mm_iload_n (j := 1) dX12_pairOf_11 rfl rfl ?_
    refine mm_iload_n (j := 2) dX12_pairOf_12 rfl rfl ?_
    refine mm_icmp_ge (tgt := 20) dX12_pairOf_13 (by decide) (fun hc => ?_) (fun hc => ?_)
    · rw [if_pos hc] at h
      refine mm_iload_n (j := 1) dX12_pairOf_20 rfl rfl ?_
      exact mm_sub [0] rfl h
    · rw [if_neg hc] at h
      refine mm_iload_n (j := 2) dX12_pairOf_16 rfl rfl ?_
      refine mm_goto (tgt := 21) dX12_pairOf_17 (by decide) ?_
      exact mm_sub [0] rfl h
set_option maxRecDepth 100000 in
set_option maxHeartbeats 4000000 in
theorem lX12_pairOf_21 {d : Nat} {x0 : Int32} {x1 : Int32} {M : mm_M} {K : Int32 → mm_M → Prop} {y2 : Int32} {u0 : Int32} (hG : mm_G M.2.2) (h : K (((((y2 * (13 - y2)) / 2) + u0) - y2) - 1) M) : jX12_pairOf_21 d x0 x1 M K y2 u0 := by
  unfold jX12_pairOf_21
  refine mm_istore_n (lv' := [(3, .int u0), (2, .int y2)]) dX12_pairOf_21 rfl (by decide) rfl ?_
  refine mm_iload_n (j := 1) dX12_pairOf_22 rfl rfl ?_
  refine mm_bipush (x := 13) dX12_pairOf_23 rfl ?_
  refine mm_iload_n (j := 1) dX12_pairOf_25 rfl rfl ?_
  refine mm_isub dX12_pairOf_26 ?_
  refine mm_imul dX12_pairOf_27 ?_
  refine mm_iconst (x := 2) dX12_pairOf_28 rfl ?_
  refine mm_idiv dX12_pairOf_29 (by decide) ?_
  refine mm_iload_n (j := 0) dX12_pairOf_30 rfl rfl ?_
  refine mm_iadd dX12_pairOf_31 ?_
  refine mm_iload_n (j := 1) dX12_pairOf_32 rfl rfl ?_
  refine mm_isub dX12_pairOf_33 ?_
  refine mm_iconst (x := 1) dX12_pairOf_34 rfl ?_
  refine mm_isub dX12_pairOf_35 ?_
  exact mm_iret dX12_pairOf_36 rfl (Nat.le_refl 0) (Nat.le_refl 0) ⟨_, rfl, rfl, hG, h⟩
set_option maxRecDepth 100000 in
set_option maxHeartbeats 4000000 in
theorem rX12_duchyTold {d : Nat} {M : mm_M} {K : mm_M → Prop} (hG : mm_G M.2.2) (h : mm_CV mX12_asks d [.ref 164, .ref 167] M (fun m5 => mm_CI mX12_number d [.ref 164, .int 1, .int 20] m5 (fun z17 m17 => mm_CV mX12_asksSign d [.ref 164, .int 59] (mm_uI m17 191 (0).toNatClampNeg z17) (fun m24 => K m24)))) : mm_CV mX12_duchyTold (d + 1) [.ref 164] M K := by
  show mm_W mX12_duchyTold (d + 1) 0 0 0 [(0, .ref 164)] [] mm_SH M 0 0 (mm_PV K)
  refine mm_aload_n (j := 0) dX12_duchyTold_0 rfl rfl ?_
  refine mm_aload_n (j := 0) dX12_duchyTold_1 rfl rfl ?_
  refine mm_getR (ci := 12) (N := 116) (r := 167) dX12_duchyTold_2 fX12_20 sh_164 rfl (g_164_11 hG) ?_
  refine mm_kVV [.ref 167] dX12_duchyTold_5 kX12_325 rfl sh_164 (by decide) (by decide) h (fun m5 hG h => ?_)
  refine mm_aload_n (j := 0) dX12_duchyTold_8 rfl rfl ?_
  refine mm_getR (ci := 12) (N := 116) (r := 191) dX12_duchyTold_9 fX12_93 sh_164 rfl (g_164_36 hG) ?_
  refine mm_iconst (x := 0) dX12_duchyTold_12 rfl ?_
  refine mm_aload_n (j := 0) dX12_duchyTold_13 rfl rfl ?_
  refine mm_iconst (x := 1) dX12_duchyTold_14 rfl ?_
  refine mm_bipush (x := 20) dX12_duchyTold_15 rfl ?_
  refine mm_kVI [.int 1, .int 20] dX12_duchyTold_17 kX12_329 rfl sh_164 (by decide) (by decide) h (fun z17 m17 hG h => ?_)
  refine mm_iastore (N := 4) dX12_duchyTold_20 sh_191 (by decide) ?_
  refine mm_aload_n (j := 0) dX12_duchyTold_21 rfl rfl ?_
  refine mm_bipush (x := 59) dX12_duchyTold_22 rfl ?_
  refine mm_kVV [.int 59] dX12_duchyTold_24 kX12_333 rfl sh_164 (by decide) (by decide) h (fun m24 hG h => ?_)
  exact mm_vret dX12_duchyTold_27 rfl (Nat.le_refl 0) (Nat.le_refl 0) ⟨rfl, rfl, hG, h⟩
def jX12_houseTold_38 (d : Nat) (x1 : Int32) (M : mm_M) (K : mm_M → Prop) (y2 : Int64) (y4 : Int32) : Prop := mm_W mX12_houseTold (d + 1) 0 0 38 [(0, .ref 164), (2, .long y2), (4, .int y4)] [] mm_SH M 0 0 (mm_PV K)
set_option maxRecDepth 100000 in
set_option maxHeartbeats 4000000 in
theorem rX12_houseTold {d : Nat} {x1 : Int32} {M : mm_M} {K : mm_M → Prop} (hG : mm_G M.2.2) (h : if (M.1 164 5) = 0 then (if (M.1 164 37) = 7 then (mm_CV mX12_fail d [.ref 164, .int 5, .int x1] M (fun m19 => if (m19.1 164 5) = 0 then (mm_CL mX12_name d [.ref 164] m19 (fun z31 m31 => jX12_houseTold_38 d x1 m31 K z31 0)) else (K m19))) else (if (M.1 164 5) = 0 then (mm_CL mX12_name d [.ref 164] M (fun z31 m31 => jX12_houseTold_38 d x1 m31 K z31 0)) else (K M))) else (if (M.1 164 5) = 0 then (mm_CL mX12_name d [.ref 164] M (fun z31 m31 => jX12_houseTold_38 d x1 m31 K z31 0)) else (K M))) : mm_CV mX12_houseTold (d + 1) [.ref 164, .int x1] M K := by
  show mm_W mX12_houseTold (d + 1) 0 0 0 [(0, .ref 164), (1, .int x1)] [] mm_SH M 0 0 (mm_PV K)
  refine mm_aload_n (j := 0) dX12_houseTold_0 rfl rfl ?_
  refine mm_getI (ci := 12) (N := 116) dX12_houseTold_1 fX12_260 sh_164 rfl ?_
  refine mm_if_ne (tgt := 22) dX12_houseTold_4 (by decide) (fun hc => ?_) (fun hc => ?_)
  · rw [if_neg hc] at h
    refine mm_aload_n (j := 0) dX12_houseTold_22 rfl rfl ?_
    refine mm_getI (ci := 12) (N := 116) dX12_houseTold_23 fX12_260 sh_164 rfl ?_
    refine mm_if_eq (tgt := 30) dX12_houseTold_26 (by decide) (fun hc => ?_) (fun hc => ?_)
    · rw [if_pos hc] at h
      refine mm_aload_n (j := 0) dX12_houseTold_30 rfl rfl ?_
      refine mm_kVL [] dX12_houseTold_31 kX12_340 rfl sh_164 (by decide) (by decide) h (fun z31 m31 hG h => ?_)
      refine mm_lstore_n (lv' := [(2, .long z31), (0, .ref 164), (1, .int x1)]) dX12_houseTold_34 rfl (by decide) rfl ?_
      refine mm_iconst (x := 0) dX12_houseTold_35 rfl ?_
      refine mm_istore (lv' := [(4, .int 0), (2, .long z31), (0, .ref 164), (1, .int x1)]) dX12_houseTold_36 (by decide) rfl ?_
      exact mm_sub [2, 1, 0] rfl h
    · rw [if_neg hc] at h
      exact mm_vret dX12_houseTold_29 rfl (Nat.le_refl 0) (Nat.le_refl 0) ⟨rfl, rfl, hG, h⟩
  · rw [if_pos hc] at h
    refine mm_aload_n (j := 0) dX12_houseTold_7 rfl rfl ?_
    refine mm_getI (ci := 12) (N := 116) dX12_houseTold_8 fX12_337 sh_164 rfl ?_
    refine mm_bipush (x := 7) dX12_houseTold_11 rfl ?_
    refine mm_icmp_ne (tgt := 22) dX12_houseTold_13 (by decide) (fun hc => ?_) (fun hc => ?_)
    · rw [if_neg hc] at h
      refine mm_aload_n (j := 0) dX12_houseTold_22 rfl rfl ?_
      refine mm_getI (ci := 12) (N := 116) dX12_houseTold_23 fX12_260 sh_164 rfl ?_
      refine mm_if_eq (tgt := 30) dX12_houseTold_26 (by decide) (fun hc => ?_) (fun hc => ?_)
      · rw [if_pos hc] at h
        refine mm_aload_n (j := 0) dX12_houseTold_30 rfl rfl ?_
        refine mm_kVL [] dX12_houseTold_31 kX12_340 rfl sh_164 (by decide) (by decide) h (fun z31 m31 hG h => ?_)
        refine mm_lstore_n (lv' := [(2, .long z31), (0, .ref 164), (1, .int x1)]) dX12_houseTold_34 rfl (by decide) rfl ?_
        refine mm_iconst (x := 0) dX12_houseTold_35 rfl ?_
        refine mm_istore (lv' := [(4, .int 0), (2, .long z31), (0, .ref 164), (1, .int x1)]) dX12_houseTold_36 (by decide) rfl ?_
        exact mm_sub [2, 1, 0] rfl h
      · rw [if_neg hc] at h
        exact mm_vret dX12_houseTold_29 rfl (Nat.le_refl 0) (Nat.le_refl 0) ⟨rfl, rfl, hG, h⟩
    · rw [if_pos hc] at h
      refine mm_aload_n (j := 0) dX12_houseTold_16 rfl rfl ?_
      refine mm_iconst (x := 5) dX12_houseTold_17 rfl ?_
      refine mm_iload_n (j := 1) dX12_houseTold_18 rfl rfl ?_
      refine mm_kVV [.int 5, .int x1] dX12_houseTold_19 kX12_290 rfl sh_164 (by decide) (by decide) h (fun m19 hG h => ?_)
      refine mm_aload_n (j := 0) dX12_houseTold_22 rfl rfl ?_
      refine mm_getI (ci := 12) (N := 116) dX12_houseTold_23 fX12_260 sh_164 rfl ?_
      refine mm_if_eq (tgt := 30) dX12_houseTold_26 (by decide) (fun hc => ?_) (fun hc => ?_)
      · rw [if_pos hc] at h
        refine mm_aload_n (j := 0) dX12_houseTold_30 rfl rfl ?_
        refine mm_kVL [] dX12_houseTold_31 kX12_340 rfl sh_164 (by decide) (by decide) h (fun z31 m31 hG h => ?_)
        refine mm_lstore_n (lv' := [(2, .long z31), (0, .ref 164), (1, .int x1)]) dX12_houseTold_34 rfl (by decide) rfl ?_
        refine mm_iconst (x := 0) dX12_houseTold_35 rfl ?_
        refine mm_istore (lv' := [(4, .int 0), (2, .long z31), (0, .ref 164), (1, .int x1)]) dX12_houseTold_36 (by decide) rfl ?_
        exact mm_sub [2, 1, 0] rfl h
      · rw [if_neg hc] at h
        exact mm_vret dX12_houseTold_29 rfl (Nat.le_refl 0) (Nat.le_refl 0) ⟨rfl, rfl, hG, h⟩
set_option maxRecDepth 100000 in
set_option maxHeartbeats 4000000 in
theorem lX12_houseTold_38 {d : Nat} {x1 : Int32} {M : mm_M} {K : mm_M → Prop} {y2 : Int64} {y4 : Int32} (hG : mm_G M.2.2) (h : if (M.1 164 37) ≤ y4 then (mm_CV mX12_asks d [.ref 164, .ref 169] M (fun m86 => mm_CI mX12_number d [.ref 164, .int 0, .int 99] m86 (fun z93 m93 => mm_CV mX12_asks d [.ref 164, .ref 170] m93 (fun m103 => mm_CI mX12_number d [.ref 164, .int 0, .int 9] m103 (fun z110 m110 => if (m110.1 164 5) = 0 then (vp_in (m110.1 164 37) 14 ∧ vp_in ((mm_uL m110 192 (m110.1 164 37).toNatClampNeg y2).1 164 37) 7 ∧ vp_in ((mm_uI (mm_uL m110 192 (m110.1 164 37).toNatClampNeg y2) 193 ((mm_uL m110 192 (m110.1 164 37).toNatClampNeg y2).1 164 37).toNatClampNeg z93).1 164 37) 14 ∧ K (mm_uI (mm_uI (mm_uI (mm_uL m110 192 (m110.1 164 37).toNatClampNeg y2) 193 ((mm_uL m110 192 (m110.1 164 37).toNatClampNeg y2).1 164 37).toNatClampNeg z93) 194 ((mm_uI (mm_uL m110 192 (m110.1 164 37).toNatClampNeg y2) 193 ((mm_uL m110 192 (m110.1 164 37).toNatClampNeg y2).1 164 37).toNatClampNeg z93).1 164 37).toNatClampNeg z110) 164 37 (((mm_uI (mm_uI (mm_uL m110 192 (m110.1 164 37).toNatClampNeg y2) 193 ((mm_uL m110 192 (m110.1 164 37).toNatClampNeg y2).1 164 37).toNatClampNeg z93) 194 ((mm_uI (mm_uL m110 192 (m110.1 164 37).toNatClampNeg y2) 193 ((mm_uL m110 192 (m110.1 164 37).toNatClampNeg y2).1 164 37).toNatClampNeg z93).1 164 37).toNatClampNeg z110).1 164 37) + 1))) else (K m110)))))) else (if (M.1 164 5) = 0 then (vp_in y4 14 ∧ if (M.2.1 192 (y4).toNatClampNeg) = y2 then (mm_CV mX12_fail d [.ref 164, .int 3, .int (M.1 164 35)] M (fun m72 => jX12_houseTold_38 d x1 m72 K y2 (y4 + 1))) else (jX12_houseTold_38 d x1 M K y2 (y4 + 1))) else (jX12_houseTold_38 d x1 M K y2 (y4 + 1)))) : jX12_houseTold_38 d x1 M K y2 y4 := by
  unfold jX12_houseTold_38
  refine mm_iload (j := 2) dX12_houseTold_38 rfl ?_
  refine mm_aload_n (j := 0) dX12_houseTold_40 rfl rfl ?_
  refine mm_getI (ci := 12) (N := 116) dX12_houseTold_41 fX12_337 sh_164 rfl ?_
  refine mm_icmp_ge (tgt := 81) dX12_houseTold_44 (by decide) (fun hc => ?_) (fun hc => ?_)
  · rw [if_pos hc] at h
    refine mm_aload_n (j := 0) dX12_houseTold_81 rfl rfl ?_
    refine mm_aload_n (j := 0) dX12_houseTold_82 rfl rfl ?_
    refine mm_getR (ci := 12) (N := 116) (r := 169) dX12_houseTold_83 fX12_27 sh_164 rfl (g_164_13 hG) ?_
    refine mm_kVV [.ref 169] dX12_houseTold_86 kX12_325 rfl sh_164 (by decide) (by decide) h (fun m86 hG h => ?_)
    refine mm_aload_n (j := 0) dX12_houseTold_89 rfl rfl ?_
    refine mm_iconst (x := 0) dX12_houseTold_90 rfl ?_
    refine mm_bipush (x := 99) dX12_houseTold_91 rfl ?_
    refine mm_kVI [.int 0, .int 99] dX12_houseTold_93 kX12_329 rfl sh_164 (by decide) (by decide) h (fun z93 m93 hG h => ?_)
    refine mm_istore (lv' := [(4, .int z93), (0, .ref 164), (2, .long y2)]) dX12_houseTold_96 (by decide) rfl ?_
    refine mm_aload_n (j := 1) dX12_houseTold_98 rfl rfl ?_
    refine mm_aload_n (j := 1) dX12_houseTold_99 rfl rfl ?_
    refine mm_getR (ci := 12) (N := 116) (r := 170) dX12_houseTold_100 fX12_30 sh_164 rfl (g_164_14 hG) ?_
    refine mm_kVV [.ref 170] dX12_houseTold_103 kX12_325 rfl sh_164 (by decide) (by decide) h (fun m103 hG h => ?_)
    refine mm_aload_n (j := 1) dX12_houseTold_106 rfl rfl ?_
    refine mm_iconst (x := 0) dX12_houseTold_107 rfl ?_
    refine mm_bipush (x := 9) dX12_houseTold_108 rfl ?_
    refine mm_kVI [.int 0, .int 9] dX12_houseTold_110 kX12_329 rfl sh_164 (by decide) (by decide) h (fun z110 m110 hG h => ?_)
    refine mm_istore (lv' := [(5, .int z110), (4, .int z93), (0, .ref 164), (2, .long y2)]) dX12_houseTold_113 (by decide) rfl ?_
    refine mm_aload_n (j := 2) dX12_houseTold_115 rfl rfl ?_
    refine mm_getI (ci := 12) (N := 116) dX12_houseTold_116 fX12_260 sh_164 rfl ?_
    refine mm_if_eq (tgt := 123) dX12_houseTold_119 (by decide) (fun hc => ?_) (fun hc => ?_)
    · rw [if_pos hc] at h
      refine mm_aload_n (j := 2) dX12_houseTold_123 rfl rfl ?_
      refine mm_getR (ci := 12) (N := 116) (r := 192) dX12_houseTold_124 fX12_96 sh_164 rfl (g_164_39 hG) ?_
      refine mm_aload_n (j := 2) dX12_houseTold_127 rfl rfl ?_
      refine mm_getI (ci := 12) (N := 116) dX12_houseTold_128 fX12_337 sh_164 rfl ?_
      refine mm_lload_n (j := 3) dX12_houseTold_131 rfl rfl ?_
      obtain ⟨hi132, h⟩ := h
      refine mm_lastore (N := 14) dX12_houseTold_132 sh_192 hi132 ?_
      refine mm_aload_n (j := 2) dX12_houseTold_133 rfl rfl ?_
      refine mm_getR (ci := 12) (N := 116) (r := 193) dX12_houseTold_134 fX12_100 sh_164 rfl (g_164_40 hG) ?_
      refine mm_aload_n (j := 2) dX12_houseTold_137 rfl rfl ?_
      refine mm_getI (ci := 12) (N := 116) dX12_houseTold_138 fX12_337 sh_164 rfl ?_
      refine mm_iload (j := 1) dX12_houseTold_141 rfl ?_
      obtain ⟨hi143, h⟩ := h
      refine mm_iastore (N := 7) dX12_houseTold_143 sh_193 hi143 ?_
      refine mm_aload_n (j := 2) dX12_houseTold_144 rfl rfl ?_
      refine mm_getR (ci := 12) (N := 116) (r := 194) dX12_houseTold_145 fX12_103 sh_164 rfl (g_164_41 hG) ?_
      refine mm_aload_n (j := 2) dX12_houseTold_148 rfl rfl ?_
      refine mm_getI (ci := 12) (N := 116) dX12_houseTold_149 fX12_337 sh_164 rfl ?_
      refine mm_iload (j := 0) dX12_houseTold_152 rfl ?_
      obtain ⟨hi154, h⟩ := h
      refine mm_iastore (N := 14) dX12_houseTold_154 sh_194 hi154 ?_
      refine mm_aload_n (j := 2) dX12_houseTold_155 rfl rfl ?_
      refine mm_dup dX12_houseTold_156 rfl ?_
      refine mm_getI (ci := 12) (N := 116) dX12_houseTold_157 fX12_337 sh_164 rfl ?_
      refine mm_iconst (x := 1) dX12_houseTold_160 rfl ?_
      refine mm_iadd dX12_houseTold_161 ?_
      refine mm_putI (ci := 12) (N := 116) dX12_houseTold_162 fX12_337 sh_164 (by decide +kernel) rfl rfl rfl ?_
      exact mm_vret dX12_houseTold_165 rfl (Nat.le_refl 0) (Nat.le_refl 0) ⟨rfl, rfl, hG, h⟩
    · rw [if_neg hc] at h
      exact mm_vret dX12_houseTold_122 rfl (Nat.le_refl 0) (Nat.le_refl 0) ⟨rfl, rfl, hG, h⟩
  · rw [if_neg hc] at h
    refine mm_aload_n (j := 0) dX12_houseTold_47 rfl rfl ?_
    refine mm_getI (ci := 12) (N := 116) dX12_houseTold_48 fX12_260 sh_164 rfl ?_
    refine mm_if_ne (tgt := 75) dX12_houseTold_51 (by decide) (fun hc => ?_) (fun hc => ?_)
    · rw [if_neg hc] at h
      refine mm_iinc (j := 2) (v := y4 + 1) (lv' := [(4, .int (y4 + 1)), (0, .ref 164), (2, .long y2)]) dX12_houseTold_75 rfl rfl (by decide) rfl ?_
      refine mm_goto (tgt := 38) dX12_houseTold_78 (by decide) ?_
      exact mm_sub [1, 2, 0] rfl h
    · rw [if_pos hc] at h
      refine mm_aload_n (j := 0) dX12_houseTold_54 rfl rfl ?_
      refine mm_getR (ci := 12) (N := 116) (r := 192) dX12_houseTold_55 fX12_96 sh_164 rfl (g_164_39 hG) ?_
      refine mm_iload (j := 2) dX12_houseTold_58 rfl ?_
      obtain ⟨hi60, h⟩ := h
      refine mm_laload (N := 14) dX12_houseTold_60 sh_192 hi60 ?_
      refine mm_lload_n (j := 1) dX12_houseTold_61 rfl rfl ?_
      refine mm_lcmp dX12_houseTold_62 ?_
      refine mm_if_ne (tgt := 75) dX12_houseTold_63 (by decide) (fun hc => ?_) (fun hc => ?_)
      · rw [if_neg (fun q => hc (lgc_eq.mpr q))] at h
        refine mm_iinc (j := 2) (v := y4 + 1) (lv' := [(4, .int (y4 + 1)), (0, .ref 164), (2, .long y2)]) dX12_houseTold_75 rfl rfl (by decide) rfl ?_
        refine mm_goto (tgt := 38) dX12_houseTold_78 (by decide) ?_
        exact mm_sub [1, 2, 0] rfl h
      · rw [if_pos (lgc_eq.mp hc)] at h
        refine mm_aload_n (j := 0) dX12_houseTold_66 rfl rfl ?_
        refine mm_iconst (x := 3) dX12_houseTold_67 rfl ?_
        refine mm_aload_n (j := 0) dX12_houseTold_68 rfl rfl ?_
        refine mm_getI (ci := 12) (N := 116) dX12_houseTold_69 fX12_311 sh_164 rfl ?_
        refine mm_kVV [.int 3, .int (M.1 164 35)] dX12_houseTold_72 kX12_290 rfl sh_164 (by decide) (by decide) h (fun m72 hG h => ?_)
        refine mm_iinc (j := 2) (v := y4 + 1) (lv' := [(4, .int (y4 + 1)), (0, .ref 164), (2, .long y2)]) dX12_houseTold_75 rfl rfl (by decide) rfl ?_
        refine mm_goto (tgt := 38) dX12_houseTold_78 (by decide) ?_
        exact mm_sub [1, 2, 0] rfl h
def jX12_houseNamed_7 (d : Nat) (M : mm_M) (K : Int32 → mm_M → Prop) (y1 : Int64) (y3 : Int32) : Prop := mm_W mX12_houseNamed (d + 1) 0 0 7 [(0, .ref 164), (1, .long y1), (3, .int y3)] [] mm_SH M 0 0 (mm_PI K)
set_option maxRecDepth 100000 in
set_option maxHeartbeats 4000000 in
theorem rX12_houseNamed {d : Nat} {M : mm_M} {K : Int32 → mm_M → Prop} (hG : mm_G M.2.2) (h : mm_CL mX12_name d [.ref 164] M (fun z1 m1 => jX12_houseNamed_7 d m1 K z1 0)) : mm_CI mX12_houseNamed (d + 1) [.ref 164] M K := by
  show mm_W mX12_houseNamed (d + 1) 0 0 0 [(0, .ref 164)] [] mm_SH M 0 0 (mm_PI K)
  refine mm_aload_n (j := 0) dX12_houseNamed_0 rfl rfl ?_
  refine mm_kVL [] dX12_houseNamed_1 kX12_340 rfl sh_164 (by decide) (by decide) h (fun z1 m1 hG h => ?_)
  refine mm_lstore_n (lv' := [(1, .long z1), (0, .ref 164)]) dX12_houseNamed_4 rfl (by decide) rfl ?_
  refine mm_iconst (x := 0) dX12_houseNamed_5 rfl ?_
  refine mm_istore_n (lv' := [(3, .int 0), (1, .long z1), (0, .ref 164)]) dX12_houseNamed_6 rfl (by decide) rfl ?_
  exact mm_sub [2, 1, 0] rfl h
set_option maxRecDepth 100000 in
set_option maxHeartbeats 4000000 in
theorem lX12_houseNamed_7 {d : Nat} {M : mm_M} {K : Int32 → mm_M → Prop} {y1 : Int64} {y3 : Int32} (hG : mm_G M.2.2) (h : if (M.1 164 37) ≤ y3 then (if (M.1 164 5) = 0 then (mm_CV mX12_fail d [.ref 164, .int 3, .int (M.1 164 35)] M (fun m47 => K 0 m47)) else (K 0 M)) else (vp_in y3 14 ∧ if (M.2.1 192 (y3).toNatClampNeg) = y1 then (K y3 M) else (jX12_houseNamed_7 d M K y1 (y3 + 1)))) : jX12_houseNamed_7 d  M K y1 y3 := by
  unfold jX12_houseNamed_7
  refine mm_iload_n (j := 2) dX12_houseNamed_7 rfl rfl ?_
  refine mm_aload_n (j := 0) dX12_houseNamed_8 rfl rfl ?_
  refine mm_getI (ci := 12) (N := 116) dX12_houseNamed_9 fX12_337 sh_164 rfl ?_
  refine mm_icmp_ge (tgt := 34) dX12_houseNamed_12 (by decide) (fun hc => ?_) (fun hc => ?_)
  · rw [if_pos hc] at h
    refine mm_aload_n (j := 0) dX12_houseNamed_34 rfl rfl ?_
    refine mm_getI (ci := 12) (N := 116) dX12_houseNamed_35 fX12_260 sh_164 rfl ?_
    refine mm_if_ne (tgt := 50) dX12_houseNamed_38 (by decide) (fun hc => ?_) (fun hc => ?_)
    · rw [if_neg hc] at h
      refine mm_iconst (x := 0) dX12_houseNamed_50 rfl ?_
      exact mm_iret dX12_houseNamed_51 rfl (Nat.le_refl 0) (Nat.le_refl 0) ⟨_, rfl, rfl, hG, h⟩
    · rw [if_pos hc] at h
      refine mm_aload_n (j := 0) dX12_houseNamed_41 rfl rfl ?_
      refine mm_iconst (x := 3) dX12_houseNamed_42 rfl ?_
      refine mm_aload_n (j := 0) dX12_houseNamed_43 rfl rfl ?_
      refine mm_getI (ci := 12) (N := 116) dX12_houseNamed_44 fX12_311 sh_164 rfl ?_
      refine mm_kVV [.int 3, .int (M.1 164 35)] dX12_houseNamed_47 kX12_290 rfl sh_164 (by decide) (by decide) h (fun m47 hG h => ?_)
      refine mm_iconst (x := 0) dX12_houseNamed_50 rfl ?_
      exact mm_iret dX12_houseNamed_51 rfl (Nat.le_refl 0) (Nat.le_refl 0) ⟨_, rfl, rfl, hG, h⟩
  · rw [if_neg hc] at h
    refine mm_aload_n (j := 0) dX12_houseNamed_15 rfl rfl ?_
    refine mm_getR (ci := 12) (N := 116) (r := 192) dX12_houseNamed_16 fX12_96 sh_164 rfl (g_164_39 hG) ?_
    refine mm_iload_n (j := 2) dX12_houseNamed_19 rfl rfl ?_
    obtain ⟨hi20, h⟩ := h
    refine mm_laload (N := 14) dX12_houseNamed_20 sh_192 hi20 ?_
    refine mm_lload_n (j := 1) dX12_houseNamed_21 rfl rfl ?_
    refine mm_lcmp dX12_houseNamed_22 ?_
    refine mm_if_ne (tgt := 28) dX12_houseNamed_23 (by decide) (fun hc => ?_) (fun hc => ?_)
    · rw [if_neg (fun q => hc (lgc_eq.mpr q))] at h
      refine mm_iinc (j := 2) (v := y3 + 1) (lv' := [(3, .int (y3 + 1)), (0, .ref 164), (1, .long y1)]) dX12_houseNamed_28 rfl rfl (by decide) rfl ?_
      refine mm_goto (tgt := 7) dX12_houseNamed_31 (by decide) ?_
      exact mm_sub [1, 2, 0] rfl h
    · rw [if_pos (lgc_eq.mp hc)] at h
      refine mm_iload_n (j := 2) dX12_houseNamed_26 rfl rfl ?_
      exact mm_iret dX12_houseNamed_27 rfl (Nat.le_refl 0) (Nat.le_refl 0) ⟨_, rfl, rfl, hG, h⟩
def jX12_feudTold_52 (d : Nat) (M : mm_M) (K : mm_M → Prop) (y1 : Int32) (y2 : Int32) : Prop := mm_W mX12_feudTold (d + 1) 0 0 52 [(0, .ref 164), (1, .int y1), (2, .int y2)] [] mm_SH M 0 0 (mm_PV K)
set_option maxRecDepth 100000 in
set_option maxHeartbeats 4000000 in
theorem rX12_feudTold {d : Nat} {M : mm_M} {K : mm_M → Prop} (hG : mm_G M.2.2) (h : mm_CI mX12_houseNamed d [.ref 164] M (fun z1 m1 => mm_CV mX12_asks d [.ref 164, .ref 172] m1 (fun m10 => mm_CI mX12_houseNamed d [.ref 164] m10 (fun z14 m14 => if (m14.1 164 5) = 0 then (if z1 = z14 then (mm_CV mX12_fail d [.ref 164, .int 3, .int (m14.1 164 35)] m14 (fun m49 => jX12_feudTold_52 d m49 K z1 z14)) else (mm_CI mX12_pairOf d [.int z1, .int z14] m14 (fun z36 m36 => vp_in z36 21 ∧ if (m36.1 195 (z36).toNatClampNeg) = 0 then (jX12_feudTold_52 d m36 K z1 z14) else (mm_CV mX12_fail d [.ref 164, .int 3, .int (m36.1 164 35)] m36 (fun m49 => jX12_feudTold_52 d m49 K z1 z14))))) else (jX12_feudTold_52 d m14 K z1 z14))))) : mm_CV mX12_feudTold (d + 1) [.ref 164] M K := by
  show mm_W mX12_feudTold (d + 1) 0 0 0 [(0, .ref 164)] [] mm_SH M 0 0 (mm_PV K)
  refine mm_aload_n (j := 0) dX12_feudTold_0 rfl rfl ?_
  refine mm_kVI [] dX12_feudTold_1 kX12_344 rfl sh_164 (by decide) (by decide) h (fun z1 m1 hG h => ?_)
  refine mm_istore_n (lv' := [(1, .int z1), (0, .ref 164)]) dX12_feudTold_4 rfl (by decide) rfl ?_
  refine mm_aload_n (j := 1) dX12_feudTold_5 rfl rfl ?_
  refine mm_aload_n (j := 1) dX12_feudTold_6 rfl rfl ?_
  refine mm_getR (ci := 12) (N := 116) (r := 172) dX12_feudTold_7 fX12_36 sh_164 rfl (g_164_16 hG) ?_
  refine mm_kVV [.ref 172] dX12_feudTold_10 kX12_325 rfl sh_164 (by decide) (by decide) h (fun m10 hG h => ?_)
  refine mm_aload_n (j := 1) dX12_feudTold_13 rfl rfl ?_
  refine mm_kVI [] dX12_feudTold_14 kX12_344 rfl sh_164 (by decide) (by decide) h (fun z14 m14 hG h => ?_)
  refine mm_istore_n (lv' := [(2, .int z14), (1, .int z1), (0, .ref 164)]) dX12_feudTold_17 rfl (by decide) rfl ?_
  refine mm_aload_n (j := 2) dX12_feudTold_18 rfl rfl ?_
  refine mm_getI (ci := 12) (N := 116) dX12_feudTold_19 fX12_260 sh_164 rfl ?_
  refine mm_if_ne (tgt := 52) dX12_feudTold_22 (by decide) (fun hc => ?_) (fun hc => ?_)
  · rw [if_neg hc] at h
    exact mm_sub [2, 1, 0] rfl h
  · rw [if_pos hc] at h
    refine mm_iload_n (j := 1) dX12_feudTold_25 rfl rfl ?_
    refine mm_iload_n (j := 0) dX12_feudTold_26 rfl rfl ?_
    refine mm_icmp_eq (tgt := 43) dX12_feudTold_27 (by decide) (fun hc => ?_) (fun hc => ?_)
    · rw [if_pos hc] at h
      refine mm_aload_n (j := 2) dX12_feudTold_43 rfl rfl ?_
      refine mm_iconst (x := 3) dX12_feudTold_44 rfl ?_
      refine mm_aload_n (j := 2) dX12_feudTold_45 rfl rfl ?_
      refine mm_getI (ci := 12) (N := 116) dX12_feudTold_46 fX12_311 sh_164 rfl ?_
      refine mm_kVV [.int 3, .int (m14.1 164 35)] dX12_feudTold_49 kX12_290 rfl sh_164 (by decide) (by decide) h (fun m49 hG h => ?_)
      exact mm_sub [2, 1, 0] rfl h
    · rw [if_neg hc] at h
      refine mm_aload_n (j := 2) dX12_feudTold_30 rfl rfl ?_
      refine mm_getR (ci := 12) (N := 116) (r := 195) dX12_feudTold_31 fX12_106 sh_164 rfl (g_164_42 hG) ?_
      refine mm_iload_n (j := 1) dX12_feudTold_34 rfl rfl ?_
      refine mm_iload_n (j := 0) dX12_feudTold_35 rfl rfl ?_
      refine mm_kSI [.int z1, .int z14] dX12_feudTold_36 kX12_347 rfl (by decide) (by decide) h (fun z36 m36 hG h => ?_)
      obtain ⟨hi39, h⟩ := h
      refine mm_iaload (N := 21) dX12_feudTold_39 sh_195 hi39 ?_
      refine mm_if_eq (tgt := 52) dX12_feudTold_40 (by decide) (fun hc => ?_) (fun hc => ?_)
      · rw [if_pos hc] at h
        exact mm_sub [2, 1, 0] rfl h
      · rw [if_neg hc] at h
        refine mm_aload_n (j := 2) dX12_feudTold_43 rfl rfl ?_
        refine mm_iconst (x := 3) dX12_feudTold_44 rfl ?_
        refine mm_aload_n (j := 2) dX12_feudTold_45 rfl rfl ?_
        refine mm_getI (ci := 12) (N := 116) dX12_feudTold_46 fX12_311 sh_164 rfl ?_
        refine mm_kVV [.int 3, .int (m36.1 164 35)] dX12_feudTold_49 kX12_290 rfl sh_164 (by decide) (by decide) h (fun m49 hG h => ?_)
        exact mm_sub [2, 1, 0] rfl h
set_option maxRecDepth 100000 in
set_option maxHeartbeats 4000000 in
theorem lX12_feudTold_52 {d : Nat} {M : mm_M} {K : mm_M → Prop} {y1 : Int32} {y2 : Int32} (hG : mm_G M.2.2) (h : mm_CV mX12_asks d [.ref 164, .ref 173] M (fun m57 => mm_CI mX12_number d [.ref 164, .int 1, .int 99] m57 (fun z64 m64 => if (m64.1 164 5) = 0 then (mm_CI mX12_pairOf d [.int y1, .int y2] m64 (fun z81 m81 => vp_in z81 21 ∧ K (mm_uI m81 195 (z81).toNatClampNeg z64))) else (K m64)))) : jX12_feudTold_52 d  M K y1 y2 := by
  unfold jX12_feudTold_52
  refine mm_aload_n (j := 0) dX12_feudTold_52 rfl rfl ?_
  refine mm_aload_n (j := 0) dX12_feudTold_53 rfl rfl ?_
  refine mm_getR (ci := 12) (N := 116) (r := 173) dX12_feudTold_54 fX12_39 sh_164 rfl (g_164_17 hG) ?_
  refine mm_kVV [.ref 173] dX12_feudTold_57 kX12_325 rfl sh_164 (by decide) (by decide) h (fun m57 hG h => ?_)
  refine mm_aload_n (j := 0) dX12_feudTold_60 rfl rfl ?_
  refine mm_iconst (x := 1) dX12_feudTold_61 rfl ?_
  refine mm_bipush (x := 99) dX12_feudTold_62 rfl ?_
  refine mm_kVI [.int 1, .int 99] dX12_feudTold_64 kX12_329 rfl sh_164 (by decide) (by decide) h (fun z64 m64 hG h => ?_)
  refine mm_istore_n (lv' := [(3, .int z64), (0, .ref 164), (1, .int y1), (2, .int y2)]) dX12_feudTold_67 rfl (by decide) rfl ?_
  refine mm_aload_n (j := 1) dX12_feudTold_68 rfl rfl ?_
  refine mm_getI (ci := 12) (N := 116) dX12_feudTold_69 fX12_260 sh_164 rfl ?_
  refine mm_if_ne (tgt := 86) dX12_feudTold_72 (by decide) (fun hc => ?_) (fun hc => ?_)
  · rw [if_neg hc] at h
    exact mm_vret dX12_feudTold_86 rfl (Nat.le_refl 0) (Nat.le_refl 0) ⟨rfl, rfl, hG, h⟩
  · rw [if_pos hc] at h
    refine mm_aload_n (j := 1) dX12_feudTold_75 rfl rfl ?_
    refine mm_getR (ci := 12) (N := 116) (r := 195) dX12_feudTold_76 fX12_106 sh_164 rfl (g_164_42 hG) ?_
    refine mm_iload_n (j := 2) dX12_feudTold_79 rfl rfl ?_
    refine mm_iload_n (j := 3) dX12_feudTold_80 rfl rfl ?_
    refine mm_kSI [.int y1, .int y2] dX12_feudTold_81 kX12_347 rfl (by decide) (by decide) h (fun z81 m81 hG h => ?_)
    refine mm_iload_n (j := 0) dX12_feudTold_84 rfl rfl ?_
    obtain ⟨hi85, h⟩ := h
    refine mm_iastore (N := 21) dX12_feudTold_85 sh_195 hi85 ?_
    exact mm_vret dX12_feudTold_86 rfl (Nat.le_refl 0) (Nat.le_refl 0) ⟨rfl, rfl, hG, h⟩
def jX12_codesTold_23 (d : Nat) (x1 : Int32) (x2 : Int32) (M : mm_M) (K : mm_M → Prop) (y1 : Int32) : Prop := mm_W mX12_codesTold (d + 1) 0 0 23 [(0, .ref 164), (1, .int y1)] [] mm_SH M 0 0 (mm_PV K)
def jX12_codesTold_95 (d : Nat) (x1 : Int32) (x2 : Int32) (M : mm_M) (K : mm_M → Prop) (y1 : Int32) (y3 : Int32) : Prop := mm_W mX12_codesTold (d + 1) 0 0 95 [(0, .ref 164), (1, .int y1), (3, .int y3)] [] mm_SH M 0 0 (mm_PV K)
set_option maxRecDepth 100000 in
set_option maxHeartbeats 4000000 in
theorem rX12_codesTold {d : Nat} {x1 : Int32} {x2 : Int32} {M : mm_M} {K : mm_M → Prop} (hG : mm_G M.2.2) (h : if (M.1 164 5) = 0 then (vp_in x1 10 ∧ if (M.1 196 (x1).toNatClampNeg) = (-1) then (jX12_codesTold_23 d x1 x2 M K x1) else (mm_CV mX12_fail d [.ref 164, .int 5, .int x2] M (fun m20 => jX12_codesTold_23 d x1 x2 m20 K x1))) else (jX12_codesTold_23 d x1 x2 M K x1)) : mm_CV mX12_codesTold (d + 1) [.ref 164, .int x1, .int x2] M K := by
  show mm_W mX12_codesTold (d + 1) 0 0 0 [(0, .ref 164), (1, .int x1), (2, .int x2)] [] mm_SH M 0 0 (mm_PV K)
  refine mm_aload_n (j := 0) dX12_codesTold_0 rfl rfl ?_
  refine mm_getI (ci := 12) (N := 116) dX12_codesTold_1 fX12_260 sh_164 rfl ?_
  refine mm_if_ne (tgt := 23) dX12_codesTold_4 (by decide) (fun hc => ?_) (fun hc => ?_)
  · rw [if_neg hc] at h
    exact mm_sub [0, 1] rfl h
  · rw [if_pos hc] at h
    refine mm_aload_n (j := 0) dX12_codesTold_7 rfl rfl ?_
    refine mm_getR (ci := 12) (N := 116) (r := 196) dX12_codesTold_8 fX12_109 sh_164 rfl (g_164_43 hG) ?_
    refine mm_iload_n (j := 1) dX12_codesTold_11 rfl rfl ?_
    obtain ⟨hi12, h⟩ := h
    refine mm_iaload (N := 10) dX12_codesTold_12 sh_196 hi12 ?_
    refine mm_iconst (x := (-1)) dX12_codesTold_13 rfl ?_
    refine mm_icmp_eq (tgt := 23) dX12_codesTold_14 (by decide) (fun hc => ?_) (fun hc => ?_)
    · rw [if_pos hc] at h
      exact mm_sub [0, 1] rfl h
    · rw [if_neg hc] at h
      refine mm_aload_n (j := 0) dX12_codesTold_17 rfl rfl ?_
      refine mm_iconst (x := 5) dX12_codesTold_18 rfl ?_
      refine mm_iload_n (j := 2) dX12_codesTold_19 rfl rfl ?_
      refine mm_kVV [.int 5, .int x2] dX12_codesTold_20 kX12_290 rfl sh_164 (by decide) (by decide) h (fun m20 hG h => ?_)
      exact mm_sub [0, 1] rfl h
set_option maxRecDepth 100000 in
set_option maxHeartbeats 4000000 in
theorem lX12_codesTold_23 {d : Nat} {x1 : Int32} {x2 : Int32} {M : mm_M} {K : mm_M → Prop} {y1 : Int32} (hG : mm_G M.2.2) (h : if (M.1 164 5) = 0 then (mm_CI mX12_kindOf d [.int y1] M (fun z33 m33 => if y1 = 2 then (mm_CV mX12_qTest d [.ref 164] (mm_uI (mm_uI (mm_uI (mm_uI (mm_uI m33 164 49 z33) 164 105 0) 164 107 0) 164 108 0) 164 109 0) (fun m65 => if (m65.1 164 5) = 0 then (vp_in y1 10 ∧ jX12_codesTold_95 d x1 x2 (mm_uI m65 196 (y1).toNatClampNeg (m65.1 164 46)) K y1 0) else (K m65))) else (mm_CV mX12_qSums d [.ref 164] (mm_uI (mm_uI (mm_uI (mm_uI (mm_uI m33 164 49 z33) 164 105 0) 164 107 0) 164 108 0) 164 109 0) (fun m72 => if (m72.1 164 5) = 0 then (vp_in y1 10 ∧ jX12_codesTold_95 d x1 x2 (mm_uI m72 196 (y1).toNatClampNeg (m72.1 164 46)) K y1 0) else (K m72))))) else (K M)) : jX12_codesTold_23 d x1 x2 M K y1 := by
  unfold jX12_codesTold_23
  refine mm_aload_n (j := 0) dX12_codesTold_23 rfl rfl ?_
  refine mm_getI (ci := 12) (N := 116) dX12_codesTold_24 fX12_260 sh_164 rfl ?_
  refine mm_if_eq (tgt := 31) dX12_codesTold_27 (by decide) (fun hc => ?_) (fun hc => ?_)
  · rw [if_pos hc] at h
    refine mm_aload_n (j := 0) dX12_codesTold_31 rfl rfl ?_
    refine mm_iload_n (j := 1) dX12_codesTold_32 rfl rfl ?_
    refine mm_kSI [.int y1] dX12_codesTold_33 kX12_350 rfl (by decide) (by decide) h (fun z33 m33 hG h => ?_)
    refine mm_putI (ci := 12) (N := 116) dX12_codesTold_36 fX12_318 sh_164 (by decide +kernel) rfl rfl rfl ?_
    refine mm_aload_n (j := 0) dX12_codesTold_39 rfl rfl ?_
    refine mm_iconst (x := 0) dX12_codesTold_40 rfl ?_
    refine mm_putI (ci := 12) (N := 116) dX12_codesTold_41 fX12_354 sh_164 (by decide +kernel) rfl rfl rfl ?_
    refine mm_aload_n (j := 0) dX12_codesTold_44 rfl rfl ?_
    refine mm_iconst (x := 0) dX12_codesTold_45 rfl ?_
    refine mm_putI (ci := 12) (N := 116) dX12_codesTold_46 fX12_357 sh_164 (by decide +kernel) rfl rfl rfl ?_
    refine mm_aload_n (j := 0) dX12_codesTold_49 rfl rfl ?_
    refine mm_iconst (x := 0) dX12_codesTold_50 rfl ?_
    refine mm_putI (ci := 12) (N := 116) dX12_codesTold_51 fX12_360 sh_164 (by decide +kernel) rfl rfl rfl ?_
    refine mm_aload_n (j := 0) dX12_codesTold_54 rfl rfl ?_
    refine mm_iconst (x := 0) dX12_codesTold_55 rfl ?_
    refine mm_putI (ci := 12) (N := 116) dX12_codesTold_56 fX12_363 sh_164 (by decide +kernel) rfl rfl rfl ?_
    refine mm_iload_n (j := 1) dX12_codesTold_59 rfl rfl ?_
    refine mm_iconst (x := 2) dX12_codesTold_60 rfl ?_
    refine mm_icmp_ne (tgt := 71) dX12_codesTold_61 (by decide) (fun hc => ?_) (fun hc => ?_)
    · rw [if_neg hc] at h
      refine mm_aload_n (j := 0) dX12_codesTold_71 rfl rfl ?_
      refine mm_kVV [] dX12_codesTold_72 kX12_369 rfl sh_164 (by decide) (by decide) h (fun m72 hG h => ?_)
      refine mm_aload_n (j := 0) dX12_codesTold_75 rfl rfl ?_
      refine mm_getI (ci := 12) (N := 116) dX12_codesTold_76 fX12_260 sh_164 rfl ?_
      refine mm_if_eq (tgt := 83) dX12_codesTold_79 (by decide) (fun hc => ?_) (fun hc => ?_)
      · rw [if_pos hc] at h
        refine mm_aload_n (j := 0) dX12_codesTold_83 rfl rfl ?_
        refine mm_getR (ci := 12) (N := 116) (r := 196) dX12_codesTold_84 fX12_109 sh_164 rfl (g_164_43 hG) ?_
        refine mm_iload_n (j := 1) dX12_codesTold_87 rfl rfl ?_
        refine mm_aload_n (j := 0) dX12_codesTold_88 rfl rfl ?_
        refine mm_getI (ci := 12) (N := 116) dX12_codesTold_89 fX12_372 sh_164 rfl ?_
        obtain ⟨hi92, h⟩ := h
        refine mm_iastore (N := 10) dX12_codesTold_92 sh_196 hi92 ?_
        refine mm_iconst (x := 0) dX12_codesTold_93 rfl ?_
        refine mm_istore_n (lv' := [(3, .int 0), (0, .ref 164), (1, .int y1)]) dX12_codesTold_94 rfl (by decide) rfl ?_
        exact mm_sub [1, 2, 0] rfl h
      · rw [if_neg hc] at h
        exact mm_vret dX12_codesTold_82 rfl (Nat.le_refl 0) (Nat.le_refl 0) ⟨rfl, rfl, hG, h⟩
    · rw [if_pos hc] at h
      refine mm_aload_n (j := 0) dX12_codesTold_64 rfl rfl ?_
      refine mm_kVV [] dX12_codesTold_65 kX12_366 rfl sh_164 (by decide) (by decide) h (fun m65 hG h => ?_)
      refine mm_goto (tgt := 75) dX12_codesTold_68 (by decide) ?_
      refine mm_aload_n (j := 0) dX12_codesTold_75 rfl rfl ?_
      refine mm_getI (ci := 12) (N := 116) dX12_codesTold_76 fX12_260 sh_164 rfl ?_
      refine mm_if_eq (tgt := 83) dX12_codesTold_79 (by decide) (fun hc => ?_) (fun hc => ?_)
      · rw [if_pos hc] at h
        refine mm_aload_n (j := 0) dX12_codesTold_83 rfl rfl ?_
        refine mm_getR (ci := 12) (N := 116) (r := 196) dX12_codesTold_84 fX12_109 sh_164 rfl (g_164_43 hG) ?_
        refine mm_iload_n (j := 1) dX12_codesTold_87 rfl rfl ?_
        refine mm_aload_n (j := 0) dX12_codesTold_88 rfl rfl ?_
        refine mm_getI (ci := 12) (N := 116) dX12_codesTold_89 fX12_372 sh_164 rfl ?_
        obtain ⟨hi92, h⟩ := h
        refine mm_iastore (N := 10) dX12_codesTold_92 sh_196 hi92 ?_
        refine mm_iconst (x := 0) dX12_codesTold_93 rfl ?_
        refine mm_istore_n (lv' := [(3, .int 0), (0, .ref 164), (1, .int y1)]) dX12_codesTold_94 rfl (by decide) rfl ?_
        exact mm_sub [1, 2, 0] rfl h
      · rw [if_neg hc] at h
        exact mm_vret dX12_codesTold_82 rfl (Nat.le_refl 0) (Nat.le_refl 0) ⟨rfl, rfl, hG, h⟩
  · rw [if_neg hc] at h
    exact mm_vret dX12_codesTold_30 rfl (Nat.le_refl 0) (Nat.le_refl 0) ⟨rfl, rfl, hG, h⟩
set_option maxRecDepth 100000 in
set_option maxHeartbeats 4000000 in
theorem lX12_codesTold_95 {d : Nat} {x1 : Int32} {x2 : Int32} {M : mm_M} {K : mm_M → Prop} {y1 : Int32} {y3 : Int32} (hG : mm_G M.2.2) (h : if (M.1 164 105) ≤ y3 then (vp_in y1 10 ∧ K (mm_uI M 197 (y1).toNatClampNeg (M.1 164 46))) else (vp_in y3 1700 ∧ vp_in (M.1 164 46) 3200 ∧ jX12_codesTold_95 d x1 x2 (mm_uI (mm_uI M 198 (M.1 164 46).toNatClampNeg (M.1 239 (y3).toNatClampNeg)) 164 46 (((mm_uI M 198 (M.1 164 46).toNatClampNeg (M.1 239 (y3).toNatClampNeg)).1 164 46) + 1)) K y1 (y3 + 1))) : jX12_codesTold_95 d x1 x2 M K y1 y3 := by
  unfold jX12_codesTold_95
  refine mm_iload_n (j := 2) dX12_codesTold_95 rfl rfl ?_
  refine mm_aload_n (j := 0) dX12_codesTold_96 rfl rfl ?_
  refine mm_getI (ci := 12) (N := 116) dX12_codesTold_97 fX12_354 sh_164 rfl ?_
  refine mm_icmp_ge (tgt := 134) dX12_codesTold_100 (by decide) (fun hc => ?_) (fun hc => ?_)
  · rw [if_pos hc] at h
    refine mm_aload_n (j := 0) dX12_codesTold_134 rfl rfl ?_
    refine mm_getR (ci := 12) (N := 116) (r := 197) dX12_codesTold_135 fX12_112 sh_164 rfl (g_164_44 hG) ?_
    refine mm_iload_n (j := 1) dX12_codesTold_138 rfl rfl ?_
    refine mm_aload_n (j := 0) dX12_codesTold_139 rfl rfl ?_
    refine mm_getI (ci := 12) (N := 116) dX12_codesTold_140 fX12_372 sh_164 rfl ?_
    obtain ⟨hi143, h⟩ := h
    refine mm_iastore (N := 10) dX12_codesTold_143 sh_197 hi143 ?_
    exact mm_vret dX12_codesTold_144 rfl (Nat.le_refl 0) (Nat.le_refl 0) ⟨rfl, rfl, hG, h⟩
  · rw [if_neg hc] at h
    refine mm_aload_n (j := 0) dX12_codesTold_103 rfl rfl ?_
    refine mm_getR (ci := 12) (N := 116) (r := 198) dX12_codesTold_104 fX12_115 sh_164 rfl (g_164_45 hG) ?_
    refine mm_aload_n (j := 0) dX12_codesTold_107 rfl rfl ?_
    refine mm_getI (ci := 12) (N := 116) dX12_codesTold_108 fX12_372 sh_164 rfl ?_
    refine mm_aload_n (j := 0) dX12_codesTold_111 rfl rfl ?_
    refine mm_getR (ci := 12) (N := 116) (r := 239) dX12_codesTold_112 fX12_243 sh_164 rfl (g_164_104 hG) ?_
    refine mm_iload_n (j := 2) dX12_codesTold_115 rfl rfl ?_
    obtain ⟨hi116, h⟩ := h
    refine mm_iaload (N := 1700) dX12_codesTold_116 sh_239 hi116 ?_
    obtain ⟨hi117, h⟩ := h
    refine mm_iastore (N := 3200) dX12_codesTold_117 sh_198 hi117 ?_
    refine mm_aload_n (j := 0) dX12_codesTold_118 rfl rfl ?_
    refine mm_dup dX12_codesTold_119 rfl ?_
    refine mm_getI (ci := 12) (N := 116) dX12_codesTold_120 fX12_372 sh_164 rfl ?_
    refine mm_iconst (x := 1) dX12_codesTold_123 rfl ?_
    refine mm_iadd dX12_codesTold_124 ?_
    refine mm_putI (ci := 12) (N := 116) dX12_codesTold_125 fX12_372 sh_164 (by decide +kernel) rfl rfl rfl ?_
    refine mm_iinc (j := 2) (v := y3 + 1) (lv' := [(3, .int (y3 + 1)), (0, .ref 164), (1, .int y1)]) dX12_codesTold_128 rfl rfl (by decide) rfl ?_
    refine mm_goto (tgt := 95) dX12_codesTold_131 (by decide) ?_
    exact mm_sub [1, 2, 0] rfl h
set_option maxRecDepth 100000 in
set_option maxHeartbeats 4000000 in
theorem rX12_statementTold {d : Nat} {M : mm_M} {K : mm_M → Prop} (hG : mm_G M.2.2) (h : if (M.1 164 47) = 60 then (mm_CV mX12_fail d [.ref 164, .int 5, .int (M.1 164 2)] M (fun m17 => K m17)) else (mm_CI mX12_takes d [.ref 164, .ref 168] M (fun z26 m26 => if z26 = 0 then (mm_CI mX12_takes d [.ref 164, .ref 171] m26 (fun z45 m45 => if z45 = 0 then (mm_CI mX12_takes d [.ref 164, .ref 174] m45 (fun z63 m63 => if z63 = 0 then (mm_CI mX12_takes d [.ref 164, .ref 175] m63 (fun z83 m83 => if z83 = 0 then (mm_CI mX12_takes d [.ref 164, .ref 176] m83 (fun z103 m103 => if z103 = 0 then (mm_CI mX12_takes d [.ref 164, .ref 177] m103 (fun z123 m123 => if z123 = 0 then (mm_CI mX12_takes d [.ref 164, .ref 178] m123 (fun z143 m143 => if z143 = 0 then (mm_CV mX12_asks d [.ref 164, .ref 179] m143 (fun m163 => mm_CI mX12_number d [.ref 164, .int 0, .int 100] m163 (fun z175 m175 => mm_CV mX12_asksSign d [.ref 164, .int 59] (mm_uI m175 191 (1).toNatClampNeg z175) (fun m182 => K (mm_uI m182 164 47 ((m182.1 164 47) + 1)))))) else (mm_CV mX12_codesTold d [.ref 164, .int 4, .int (M.1 164 2)] m143 (fun m152 => mm_CV mX12_asksSign d [.ref 164, .int 59] m152 (fun m182 => K (mm_uI m182 164 47 ((m182.1 164 47) + 1))))))) else (mm_CV mX12_codesTold d [.ref 164, .int 3, .int (M.1 164 2)] m123 (fun m132 => mm_CV mX12_asksSign d [.ref 164, .int 59] m132 (fun m182 => K (mm_uI m182 164 47 ((m182.1 164 47) + 1))))))) else (mm_CV mX12_codesTold d [.ref 164, .int 2, .int (M.1 164 2)] m103 (fun m112 => mm_CV mX12_asksSign d [.ref 164, .int 59] m112 (fun m182 => K (mm_uI m182 164 47 ((m182.1 164 47) + 1))))))) else (mm_CV mX12_codesTold d [.ref 164, .int 1, .int (M.1 164 2)] m83 (fun m92 => mm_CV mX12_asksSign d [.ref 164, .int 59] m92 (fun m182 => K (mm_uI m182 164 47 ((m182.1 164 47) + 1))))))) else (mm_CV mX12_codesTold d [.ref 164, .int 0, .int (M.1 164 2)] m63 (fun m72 => mm_CV mX12_asksSign d [.ref 164, .int 59] m72 (fun m182 => K (mm_uI m182 164 47 ((m182.1 164 47) + 1))))))) else (mm_CV mX12_feudTold d [.ref 164] m45 (fun m52 => mm_CV mX12_asksSign d [.ref 164, .int 59] m52 (fun m182 => K (mm_uI m182 164 47 ((m182.1 164 47) + 1))))))) else (mm_CV mX12_houseTold d [.ref 164, .int (M.1 164 2)] m26 (fun m34 => mm_CV mX12_asksSign d [.ref 164, .int 59] m34 (fun m182 => K (mm_uI m182 164 47 ((m182.1 164 47) + 1)))))))) : mm_CV mX12_statementTold (d + 1) [.ref 164] M K := by
  show mm_W mX12_statementTold (d + 1) 0 0 0 [(0, .ref 164)] [] mm_SH M 0 0 (mm_PV K)
  refine mm_aload_n (j := 0) dX12_statementTold_0 rfl rfl ?_
  refine mm_getI (ci := 12) (N := 116) dX12_statementTold_1 fX12_266 sh_164 rfl ?_
  refine mm_istore_n (lv' := [(1, .int (M.1 164 2)), (0, .ref 164)]) dX12_statementTold_4 rfl (by decide) rfl ?_
  refine mm_aload_n (j := 1) dX12_statementTold_5 rfl rfl ?_
  refine mm_getI (ci := 12) (N := 116) dX12_statementTold_6 fX12_375 sh_164 rfl ?_
  refine mm_bipush (x := 60) dX12_statementTold_9 rfl ?_
  refine mm_icmp_ne (tgt := 21) dX12_statementTold_11 (by decide) (fun hc => ?_) (fun hc => ?_)
  · rw [if_neg hc] at h
    refine mm_aload_n (j := 1) dX12_statementTold_21 rfl rfl ?_
    refine mm_aload_n (j := 1) dX12_statementTold_22 rfl rfl ?_
    refine mm_getR (ci := 12) (N := 116) (r := 168) dX12_statementTold_23 fX12_24 sh_164 rfl (g_164_12 hG) ?_
    refine mm_kVI [.ref 168] dX12_statementTold_26 kX12_287 rfl sh_164 (by decide) (by decide) h (fun z26 m26 hG h => ?_)
    refine mm_if_eq (tgt := 40) dX12_statementTold_29 (by decide) (fun hc => ?_) (fun hc => ?_)
    · rw [if_pos hc] at h
      refine mm_aload_n (j := 1) dX12_statementTold_40 rfl rfl ?_
      refine mm_aload_n (j := 1) dX12_statementTold_41 rfl rfl ?_
      refine mm_getR (ci := 12) (N := 116) (r := 171) dX12_statementTold_42 fX12_33 sh_164 rfl (g_164_15 hG) ?_
      refine mm_kVI [.ref 171] dX12_statementTold_45 kX12_287 rfl sh_164 (by decide) (by decide) h (fun z45 m45 hG h => ?_)
      refine mm_if_eq (tgt := 58) dX12_statementTold_48 (by decide) (fun hc => ?_) (fun hc => ?_)
      · rw [if_pos hc] at h
        refine mm_aload_n (j := 1) dX12_statementTold_58 rfl rfl ?_
        refine mm_aload_n (j := 1) dX12_statementTold_59 rfl rfl ?_
        refine mm_getR (ci := 12) (N := 116) (r := 174) dX12_statementTold_60 fX12_42 sh_164 rfl (g_164_18 hG) ?_
        refine mm_kVI [.ref 174] dX12_statementTold_63 kX12_287 rfl sh_164 (by decide) (by decide) h (fun z63 m63 hG h => ?_)
        refine mm_if_eq (tgt := 78) dX12_statementTold_66 (by decide) (fun hc => ?_) (fun hc => ?_)
        · rw [if_pos hc] at h
          refine mm_aload_n (j := 1) dX12_statementTold_78 rfl rfl ?_
          refine mm_aload_n (j := 1) dX12_statementTold_79 rfl rfl ?_
          refine mm_getR (ci := 12) (N := 116) (r := 175) dX12_statementTold_80 fX12_45 sh_164 rfl (g_164_19 hG) ?_
          refine mm_kVI [.ref 175] dX12_statementTold_83 kX12_287 rfl sh_164 (by decide) (by decide) h (fun z83 m83 hG h => ?_)
          refine mm_if_eq (tgt := 98) dX12_statementTold_86 (by decide) (fun hc => ?_) (fun hc => ?_)
          · rw [if_pos hc] at h
            refine mm_aload_n (j := 1) dX12_statementTold_98 rfl rfl ?_
            refine mm_aload_n (j := 1) dX12_statementTold_99 rfl rfl ?_
            refine mm_getR (ci := 12) (N := 116) (r := 176) dX12_statementTold_100 fX12_48 sh_164 rfl (g_164_20 hG) ?_
            refine mm_kVI [.ref 176] dX12_statementTold_103 kX12_287 rfl sh_164 (by decide) (by decide) h (fun z103 m103 hG h => ?_)
            refine mm_if_eq (tgt := 118) dX12_statementTold_106 (by decide) (fun hc => ?_) (fun hc => ?_)
            · rw [if_pos hc] at h
              refine mm_aload_n (j := 1) dX12_statementTold_118 rfl rfl ?_
              refine mm_aload_n (j := 1) dX12_statementTold_119 rfl rfl ?_
              refine mm_getR (ci := 12) (N := 116) (r := 177) dX12_statementTold_120 fX12_51 sh_164 rfl (g_164_21 hG) ?_
              refine mm_kVI [.ref 177] dX12_statementTold_123 kX12_287 rfl sh_164 (by decide) (by decide) h (fun z123 m123 hG h => ?_)
              refine mm_if_eq (tgt := 138) dX12_statementTold_126 (by decide) (fun hc => ?_) (fun hc => ?_)
              · rw [if_pos hc] at h
                refine mm_aload_n (j := 1) dX12_statementTold_138 rfl rfl ?_
                refine mm_aload_n (j := 1) dX12_statementTold_139 rfl rfl ?_
                refine mm_getR (ci := 12) (N := 116) (r := 178) dX12_statementTold_140 fX12_54 sh_164 rfl (g_164_22 hG) ?_
                refine mm_kVI [.ref 178] dX12_statementTold_143 kX12_287 rfl sh_164 (by decide) (by decide) h (fun z143 m143 hG h => ?_)
                refine mm_if_eq (tgt := 158) dX12_statementTold_146 (by decide) (fun hc => ?_) (fun hc => ?_)
                · rw [if_pos hc] at h
                  refine mm_aload_n (j := 1) dX12_statementTold_158 rfl rfl ?_
                  refine mm_aload_n (j := 1) dX12_statementTold_159 rfl rfl ?_
                  refine mm_getR (ci := 12) (N := 116) (r := 179) dX12_statementTold_160 fX12_57 sh_164 rfl (g_164_23 hG) ?_
                  refine mm_kVV [.ref 179] dX12_statementTold_163 kX12_325 rfl sh_164 (by decide) (by decide) h (fun m163 hG h => ?_)
                  refine mm_aload_n (j := 1) dX12_statementTold_166 rfl rfl ?_
                  refine mm_getR (ci := 12) (N := 116) (r := 191) dX12_statementTold_167 fX12_93 sh_164 rfl (g_164_36 hG) ?_
                  refine mm_iconst (x := 1) dX12_statementTold_170 rfl ?_
                  refine mm_aload_n (j := 1) dX12_statementTold_171 rfl rfl ?_
                  refine mm_iconst (x := 0) dX12_statementTold_172 rfl ?_
                  refine mm_bipush (x := 100) dX12_statementTold_173 rfl ?_
                  refine mm_kVI [.int 0, .int 100] dX12_statementTold_175 kX12_329 rfl sh_164 (by decide) (by decide) h (fun z175 m175 hG h => ?_)
                  refine mm_iastore (N := 4) dX12_statementTold_178 sh_191 (by decide) ?_
                  refine mm_aload_n (j := 1) dX12_statementTold_179 rfl rfl ?_
                  refine mm_bipush (x := 59) dX12_statementTold_180 rfl ?_
                  refine mm_kVV [.int 59] dX12_statementTold_182 kX12_333 rfl sh_164 (by decide) (by decide) h (fun m182 hG h => ?_)
                  refine mm_aload_n (j := 1) dX12_statementTold_185 rfl rfl ?_
                  refine mm_dup dX12_statementTold_186 rfl ?_
                  refine mm_getI (ci := 12) (N := 116) dX12_statementTold_187 fX12_375 sh_164 rfl ?_
                  refine mm_iconst (x := 1) dX12_statementTold_190 rfl ?_
                  refine mm_iadd dX12_statementTold_191 ?_
                  refine mm_putI (ci := 12) (N := 116) dX12_statementTold_192 fX12_375 sh_164 (by decide +kernel) rfl rfl rfl ?_
                  exact mm_vret dX12_statementTold_195 rfl (Nat.le_refl 0) (Nat.le_refl 0) ⟨rfl, rfl, hG, h⟩
                · rw [if_neg hc] at h
                  refine mm_aload_n (j := 1) dX12_statementTold_149 rfl rfl ?_
                  refine mm_iconst (x := 4) dX12_statementTold_150 rfl ?_
                  refine mm_iload_n (j := 0) dX12_statementTold_151 rfl rfl ?_
                  refine mm_kVV [.int 4, .int (M.1 164 2)] dX12_statementTold_152 kX12_384 rfl sh_164 (by decide) (by decide) h (fun m152 hG h => ?_)
                  refine mm_goto (tgt := 179) dX12_statementTold_155 (by decide) ?_
                  refine mm_aload_n (j := 1) dX12_statementTold_179 rfl rfl ?_
                  refine mm_bipush (x := 59) dX12_statementTold_180 rfl ?_
                  refine mm_kVV [.int 59] dX12_statementTold_182 kX12_333 rfl sh_164 (by decide) (by decide) h (fun m182 hG h => ?_)
                  refine mm_aload_n (j := 1) dX12_statementTold_185 rfl rfl ?_
                  refine mm_dup dX12_statementTold_186 rfl ?_
                  refine mm_getI (ci := 12) (N := 116) dX12_statementTold_187 fX12_375 sh_164 rfl ?_
                  refine mm_iconst (x := 1) dX12_statementTold_190 rfl ?_
                  refine mm_iadd dX12_statementTold_191 ?_
                  refine mm_putI (ci := 12) (N := 116) dX12_statementTold_192 fX12_375 sh_164 (by decide +kernel) rfl rfl rfl ?_
                  exact mm_vret dX12_statementTold_195 rfl (Nat.le_refl 0) (Nat.le_refl 0) ⟨rfl, rfl, hG, h⟩
              · rw [if_neg hc] at h
                refine mm_aload_n (j := 1) dX12_statementTold_129 rfl rfl ?_
                refine mm_iconst (x := 3) dX12_statementTold_130 rfl ?_
                refine mm_iload_n (j := 0) dX12_statementTold_131 rfl rfl ?_
                refine mm_kVV [.int 3, .int (M.1 164 2)] dX12_statementTold_132 kX12_384 rfl sh_164 (by decide) (by decide) h (fun m132 hG h => ?_)
                refine mm_goto (tgt := 179) dX12_statementTold_135 (by decide) ?_
                refine mm_aload_n (j := 1) dX12_statementTold_179 rfl rfl ?_
                refine mm_bipush (x := 59) dX12_statementTold_180 rfl ?_
                refine mm_kVV [.int 59] dX12_statementTold_182 kX12_333 rfl sh_164 (by decide) (by decide) h (fun m182 hG h => ?_)
                refine mm_aload_n (j := 1) dX12_statementTold_185 rfl rfl ?_
                refine mm_dup dX12_statementTold_186 rfl ?_
                refine mm_getI (ci := 12) (N := 116) dX12_statementTold_187 fX12_375 sh_164 rfl ?_
                refine mm_iconst (x := 1) dX12_statementTold_190 rfl ?_
                refine mm_iadd dX12_statementTold_191 ?_
                refine mm_putI (ci := 12) (N := 116) dX12_statementTold_192 fX12_375 sh_164 (by decide +kernel) rfl rfl rfl ?_
                exact mm_vret dX12_statementTold_195 rfl (Nat.le_refl 0) (Nat.le_refl 0) ⟨rfl, rfl, hG, h⟩
            · rw [if_neg hc] at h
              refine mm_aload_n (j := 1) dX12_statementTold_109 rfl rfl ?_
              refine mm_iconst (x := 2) dX12_statementTold_110 rfl ?_
              refine mm_iload_n (j := 0) dX12_statementTold_111 rfl rfl ?_
              refine mm_kVV [.int 2, .int (M.1 164 2)] dX12_statementTold_112 kX12_384 rfl sh_164 (by decide) (by decide) h (fun m112 hG h => ?_)
              refine mm_goto (tgt := 179) dX12_statementTold_115 (by decide) ?_
              refine mm_aload_n (j := 1) dX12_statementTold_179 rfl rfl ?_
              refine mm_bipush (x := 59) dX12_statementTold_180 rfl ?_
              refine mm_kVV [.int 59] dX12_statementTold_182 kX12_333 rfl sh_164 (by decide) (by decide) h (fun m182 hG h => ?_)
              refine mm_aload_n (j := 1) dX12_statementTold_185 rfl rfl ?_
              refine mm_dup dX12_statementTold_186 rfl ?_
              refine mm_getI (ci := 12) (N := 116) dX12_statementTold_187 fX12_375 sh_164 rfl ?_
              refine mm_iconst (x := 1) dX12_statementTold_190 rfl ?_
              refine mm_iadd dX12_statementTold_191 ?_
              refine mm_putI (ci := 12) (N := 116) dX12_statementTold_192 fX12_375 sh_164 (by decide +kernel) rfl rfl rfl ?_
              exact mm_vret dX12_statementTold_195 rfl (Nat.le_refl 0) (Nat.le_refl 0) ⟨rfl, rfl, hG, h⟩
          · rw [if_neg hc] at h
            refine mm_aload_n (j := 1) dX12_statementTold_89 rfl rfl ?_
            refine mm_iconst (x := 1) dX12_statementTold_90 rfl ?_
            refine mm_iload_n (j := 0) dX12_statementTold_91 rfl rfl ?_
            refine mm_kVV [.int 1, .int (M.1 164 2)] dX12_statementTold_92 kX12_384 rfl sh_164 (by decide) (by decide) h (fun m92 hG h => ?_)
            refine mm_goto (tgt := 179) dX12_statementTold_95 (by decide) ?_
            refine mm_aload_n (j := 1) dX12_statementTold_179 rfl rfl ?_
            refine mm_bipush (x := 59) dX12_statementTold_180 rfl ?_
            refine mm_kVV [.int 59] dX12_statementTold_182 kX12_333 rfl sh_164 (by decide) (by decide) h (fun m182 hG h => ?_)
            refine mm_aload_n (j := 1) dX12_statementTold_185 rfl rfl ?_
            refine mm_dup dX12_statementTold_186 rfl ?_
            refine mm_getI (ci := 12) (N := 116) dX12_statementTold_187 fX12_375 sh_164 rfl ?_
            refine mm_iconst (x := 1) dX12_statementTold_190 rfl ?_
            refine mm_iadd dX12_statementTold_191 ?_
            refine mm_putI (ci := 12) (N := 116) dX12_statementTold_192 fX12_375 sh_164 (by decide +kernel) rfl rfl rfl ?_
            exact mm_vret dX12_statementTold_195 rfl (Nat.le_refl 0) (Nat.le_refl 0) ⟨rfl, rfl, hG, h⟩
        · rw [if_neg hc] at h
          refine mm_aload_n (j := 1) dX12_statementTold_69 rfl rfl ?_
          refine mm_iconst (x := 0) dX12_statementTold_70 rfl ?_
          refine mm_iload_n (j := 0) dX12_statementTold_71 rfl rfl ?_
          refine mm_kVV [.int 0, .int (M.1 164 2)] dX12_statementTold_72 kX12_384 rfl sh_164 (by decide) (by decide) h (fun m72 hG h => ?_)
          refine mm_goto (tgt := 179) dX12_statementTold_75 (by decide) ?_
          refine mm_aload_n (j := 1) dX12_statementTold_179 rfl rfl ?_
          refine mm_bipush (x := 59) dX12_statementTold_180 rfl ?_
          refine mm_kVV [.int 59] dX12_statementTold_182 kX12_333 rfl sh_164 (by decide) (by decide) h (fun m182 hG h => ?_)
          refine mm_aload_n (j := 1) dX12_statementTold_185 rfl rfl ?_
          refine mm_dup dX12_statementTold_186 rfl ?_
          refine mm_getI (ci := 12) (N := 116) dX12_statementTold_187 fX12_375 sh_164 rfl ?_
          refine mm_iconst (x := 1) dX12_statementTold_190 rfl ?_
          refine mm_iadd dX12_statementTold_191 ?_
          refine mm_putI (ci := 12) (N := 116) dX12_statementTold_192 fX12_375 sh_164 (by decide +kernel) rfl rfl rfl ?_
          exact mm_vret dX12_statementTold_195 rfl (Nat.le_refl 0) (Nat.le_refl 0) ⟨rfl, rfl, hG, h⟩
      · rw [if_neg hc] at h
        refine mm_aload_n (j := 1) dX12_statementTold_51 rfl rfl ?_
        refine mm_kVV [] dX12_statementTold_52 kX12_381 rfl sh_164 (by decide) (by decide) h (fun m52 hG h => ?_)
        refine mm_goto (tgt := 179) dX12_statementTold_55 (by decide) ?_
        refine mm_aload_n (j := 1) dX12_statementTold_179 rfl rfl ?_
        refine mm_bipush (x := 59) dX12_statementTold_180 rfl ?_
        refine mm_kVV [.int 59] dX12_statementTold_182 kX12_333 rfl sh_164 (by decide) (by decide) h (fun m182 hG h => ?_)
        refine mm_aload_n (j := 1) dX12_statementTold_185 rfl rfl ?_
        refine mm_dup dX12_statementTold_186 rfl ?_
        refine mm_getI (ci := 12) (N := 116) dX12_statementTold_187 fX12_375 sh_164 rfl ?_
        refine mm_iconst (x := 1) dX12_statementTold_190 rfl ?_
        refine mm_iadd dX12_statementTold_191 ?_
        refine mm_putI (ci := 12) (N := 116) dX12_statementTold_192 fX12_375 sh_164 (by decide +kernel) rfl rfl rfl ?_
        exact mm_vret dX12_statementTold_195 rfl (Nat.le_refl 0) (Nat.le_refl 0) ⟨rfl, rfl, hG, h⟩
    · rw [if_neg hc] at h
      refine mm_aload_n (j := 1) dX12_statementTold_32 rfl rfl ?_
      refine mm_iload_n (j := 0) dX12_statementTold_33 rfl rfl ?_
      refine mm_kVV [.int (M.1 164 2)] dX12_statementTold_34 kX12_378 rfl sh_164 (by decide) (by decide) h (fun m34 hG h => ?_)
      refine mm_goto (tgt := 179) dX12_statementTold_37 (by decide) ?_
      refine mm_aload_n (j := 1) dX12_statementTold_179 rfl rfl ?_
      refine mm_bipush (x := 59) dX12_statementTold_180 rfl ?_
      refine mm_kVV [.int 59] dX12_statementTold_182 kX12_333 rfl sh_164 (by decide) (by decide) h (fun m182 hG h => ?_)
      refine mm_aload_n (j := 1) dX12_statementTold_185 rfl rfl ?_
      refine mm_dup dX12_statementTold_186 rfl ?_
      refine mm_getI (ci := 12) (N := 116) dX12_statementTold_187 fX12_375 sh_164 rfl ?_
      refine mm_iconst (x := 1) dX12_statementTold_190 rfl ?_
      refine mm_iadd dX12_statementTold_191 ?_
      refine mm_putI (ci := 12) (N := 116) dX12_statementTold_192 fX12_375 sh_164 (by decide +kernel) rfl rfl rfl ?_
      exact mm_vret dX12_statementTold_195 rfl (Nat.le_refl 0) (Nat.le_refl 0) ⟨rfl, rfl, hG, h⟩
  · rw [if_pos hc] at h
    refine mm_aload_n (j := 1) dX12_statementTold_14 rfl rfl ?_
    refine mm_iconst (x := 5) dX12_statementTold_15 rfl ?_
    refine mm_iload_n (j := 0) dX12_statementTold_16 rfl rfl ?_
    refine mm_kVV [.int 5, .int (M.1 164 2)] dX12_statementTold_17 kX12_290 rfl sh_164 (by decide) (by decide) h (fun m17 hG h => ?_)
    exact mm_vret dX12_statementTold_20 rfl (Nat.le_refl 0) (Nat.le_refl 0) ⟨rfl, rfl, hG, h⟩
def jX12_duchy_52 (d : Nat) (M : mm_M) (K : Int32 → mm_M → Prop) (y1 : Int32) : Prop := mm_W mX12_duchy (d + 1) 0 0 52 [(0, .ref 164), (1, .int y1)] [] mm_SH M 0 0 (mm_PI K)
def jX12_duchy_73 (d : Nat) (M : mm_M) (K : Int32 → mm_M → Prop) (y1 : Int32) : Prop := mm_W mX12_duchy (d + 1) 0 0 73 [(0, .ref 164), (1, .int y1)] [] mm_SH M 0 0 (mm_PI K)
def jX12_duchy_100 (d : Nat) (M : mm_M) (K : Int32 → mm_M → Prop) : Prop := mm_W mX12_duchy (d + 1) 0 0 100 [(0, .ref 164)] [] mm_SH M 0 0 (mm_PI K)
def jX12_duchy_122 (d : Nat) (M : mm_M) (K : Int32 → mm_M → Prop) : Prop := mm_W mX12_duchy (d + 1) 0 0 122 [(0, .ref 164)] [] mm_SH M 0 0 (mm_PI K)
set_option maxRecDepth 100000 in
set_option maxHeartbeats 4000000 in
theorem rX12_duchy {d : Nat} {M : mm_M} {K : Int32 → mm_M → Prop} (hG : mm_G M.2.2) (h : jX12_duchy_52 d (mm_uI (mm_uI (mm_uI (mm_uI (mm_uI (mm_uI (mm_uI (mm_uI (mm_uI M 164 3 (M.1 164 1)) 164 1 0) 164 2 0) 164 4 (-1)) 164 5 0) 164 6 (-1)) 164 46 0) 164 37 0) 191 (1).toNatClampNeg 0) K 0) : mm_CI mX12_duchy (d + 1) [.ref 164] M K := by
  show mm_W mX12_duchy (d + 1) 0 0 0 [(0, .ref 164)] [] mm_SH M 0 0 (mm_PI K)
  refine mm_aload_n (j := 0) dX12_duchy_0 rfl rfl ?_
  refine mm_aload_n (j := 0) dX12_duchy_1 rfl rfl ?_
  refine mm_getI (ci := 12) (N := 116) dX12_duchy_2 fX12_257 sh_164 rfl ?_
  refine mm_putI (ci := 12) (N := 116) dX12_duchy_5 fX12_269 sh_164 (by decide +kernel) rfl rfl rfl ?_
  refine mm_aload_n (j := 0) dX12_duchy_8 rfl rfl ?_
  refine mm_iconst (x := 0) dX12_duchy_9 rfl ?_
  refine mm_putI (ci := 12) (N := 116) dX12_duchy_10 fX12_257 sh_164 (by decide +kernel) rfl rfl rfl ?_
  refine mm_aload_n (j := 0) dX12_duchy_13 rfl rfl ?_
  refine mm_iconst (x := 0) dX12_duchy_14 rfl ?_
  refine mm_putI (ci := 12) (N := 116) dX12_duchy_15 fX12_266 sh_164 (by decide +kernel) rfl rfl rfl ?_
  refine mm_aload_n (j := 0) dX12_duchy_18 rfl rfl ?_
  refine mm_iconst (x := (-1)) dX12_duchy_19 rfl ?_
  refine mm_putI (ci := 12) (N := 116) dX12_duchy_20 fX12_280 sh_164 (by decide +kernel) rfl rfl rfl ?_
  refine mm_aload_n (j := 0) dX12_duchy_23 rfl rfl ?_
  refine mm_iconst (x := 0) dX12_duchy_24 rfl ?_
  refine mm_putI (ci := 12) (N := 116) dX12_duchy_25 fX12_260 sh_164 (by decide +kernel) rfl rfl rfl ?_
  refine mm_aload_n (j := 0) dX12_duchy_28 rfl rfl ?_
  refine mm_iconst (x := (-1)) dX12_duchy_29 rfl ?_
  refine mm_putI (ci := 12) (N := 116) dX12_duchy_30 fX12_263 sh_164 (by decide +kernel) rfl rfl rfl ?_
  refine mm_aload_n (j := 0) dX12_duchy_33 rfl rfl ?_
  refine mm_iconst (x := 0) dX12_duchy_34 rfl ?_
  refine mm_putI (ci := 12) (N := 116) dX12_duchy_35 fX12_372 sh_164 (by decide +kernel) rfl rfl rfl ?_
  refine mm_aload_n (j := 0) dX12_duchy_38 rfl rfl ?_
  refine mm_iconst (x := 0) dX12_duchy_39 rfl ?_
  refine mm_putI (ci := 12) (N := 116) dX12_duchy_40 fX12_337 sh_164 (by decide +kernel) rfl rfl rfl ?_
  refine mm_aload_n (j := 0) dX12_duchy_43 rfl rfl ?_
  refine mm_getR (ci := 12) (N := 116) (r := 191) dX12_duchy_44 fX12_93 sh_164 rfl (g_164_36 hG) ?_
  refine mm_iconst (x := 1) dX12_duchy_47 rfl ?_
  refine mm_iconst (x := 0) dX12_duchy_48 rfl ?_
  refine mm_iastore (N := 4) dX12_duchy_49 sh_191 (by decide) ?_
  refine mm_iconst (x := 0) dX12_duchy_50 rfl ?_
  refine mm_istore_n (lv' := [(1, .int 0), (0, .ref 164)]) dX12_duchy_51 rfl (by decide) rfl ?_
  exact mm_sub [1, 0] rfl h
set_option maxRecDepth 100000 in
set_option maxHeartbeats 4000000 in
theorem lX12_duchy_52 {d : Nat} {M : mm_M} {K : Int32 → mm_M → Prop} {y1 : Int32} (hG : mm_G M.2.2) (h : if 21 ≤ y1 then (jX12_duchy_73 d M K 0) else (vp_in y1 21 ∧ jX12_duchy_52 d (mm_uI M 195 (y1).toNatClampNeg 0) K (y1 + 1))) : jX12_duchy_52 d  M K y1 := by
  unfold jX12_duchy_52
  refine mm_iload_n (j := 1) dX12_duchy_52 rfl rfl ?_
  refine mm_bipush (x := 21) dX12_duchy_53 rfl ?_
  refine mm_icmp_ge (tgt := 71) dX12_duchy_55 (by decide) (fun hc => ?_) (fun hc => ?_)
  · rw [if_pos hc] at h
    refine mm_iconst (x := 0) dX12_duchy_71 rfl ?_
    refine mm_istore_n (lv' := [(1, .int 0), (0, .ref 164)]) dX12_duchy_72 rfl (by decide) rfl ?_
    exact mm_sub [1, 0] rfl h
  · rw [if_neg hc] at h
    refine mm_aload_n (j := 0) dX12_duchy_58 rfl rfl ?_
    refine mm_getR (ci := 12) (N := 116) (r := 195) dX12_duchy_59 fX12_106 sh_164 rfl (g_164_42 hG) ?_
    refine mm_iload_n (j := 1) dX12_duchy_62 rfl rfl ?_
    refine mm_iconst (x := 0) dX12_duchy_63 rfl ?_
    obtain ⟨hi64, h⟩ := h
    refine mm_iastore (N := 21) dX12_duchy_64 sh_195 hi64 ?_
    refine mm_iinc (j := 1) (v := y1 + 1) (lv' := [(1, .int (y1 + 1)), (0, .ref 164)]) dX12_duchy_65 rfl rfl (by decide) rfl ?_
    refine mm_goto (tgt := 52) dX12_duchy_68 (by decide) ?_
    exact mm_sub [1, 0] rfl h
set_option maxRecDepth 100000 in
set_option maxHeartbeats 4000000 in
theorem lX12_duchy_73 {d : Nat} {M : mm_M} {K : Int32 → mm_M → Prop} {y1 : Int32} (hG : mm_G M.2.2) (h : if 5 ≤ y1 then (mm_CV mX12_duchyTold d [.ref 164] M (fun m92 => jX12_duchy_100 d (mm_uI m92 164 47 1) K)) else (vp_in y1 10 ∧ jX12_duchy_73 d (mm_uI M 196 (y1).toNatClampNeg (-1)) K (y1 + 1))) : jX12_duchy_73 d  M K y1 := by
  unfold jX12_duchy_73
  refine mm_iload_n (j := 1) dX12_duchy_73 rfl rfl ?_
  refine mm_iconst (x := 5) dX12_duchy_74 rfl ?_
  refine mm_icmp_ge (tgt := 91) dX12_duchy_75 (by decide) (fun hc => ?_) (fun hc => ?_)
  · rw [if_pos hc] at h
    refine mm_aload_n (j := 0) dX12_duchy_91 rfl rfl ?_
    refine mm_kVV [] dX12_duchy_92 kX12_387 rfl sh_164 (by decide) (by decide) h (fun m92 hG h => ?_)
    refine mm_aload_n (j := 0) dX12_duchy_95 rfl rfl ?_
    refine mm_iconst (x := 1) dX12_duchy_96 rfl ?_
    refine mm_putI (ci := 12) (N := 116) dX12_duchy_97 fX12_375 sh_164 (by decide +kernel) rfl rfl rfl ?_
    exact mm_sub [0] rfl h
  · rw [if_neg hc] at h
    refine mm_aload_n (j := 0) dX12_duchy_78 rfl rfl ?_
    refine mm_getR (ci := 12) (N := 116) (r := 196) dX12_duchy_79 fX12_109 sh_164 rfl (g_164_43 hG) ?_
    refine mm_iload_n (j := 1) dX12_duchy_82 rfl rfl ?_
    refine mm_iconst (x := (-1)) dX12_duchy_83 rfl ?_
    obtain ⟨hi84, h⟩ := h
    refine mm_iastore (N := 10) dX12_duchy_84 sh_196 hi84 ?_
    refine mm_iinc (j := 1) (v := y1 + 1) (lv' := [(1, .int (y1 + 1)), (0, .ref 164)]) dX12_duchy_85 rfl rfl (by decide) rfl ?_
    refine mm_goto (tgt := 73) dX12_duchy_88 (by decide) ?_
    exact mm_sub [1, 0] rfl h
set_option maxRecDepth 100000 in
set_option maxHeartbeats 4000000 in
theorem lX12_duchy_100 {d : Nat} {M : mm_M} {K : Int32 → mm_M → Prop} (hG : mm_G M.2.2) (h : if (M.1 164 5) = 0 then (mm_CI mX12_look d [.ref 164] M (fun z108 m108 => if z108 = (-1) then (jX12_duchy_122 d m108 K) else (mm_CV mX12_statementTold d [.ref 164] m108 (fun m116 => jX12_duchy_100 d m116 K)))) else (jX12_duchy_122 d M K)) : jX12_duchy_100 d  M K  := by
  unfold jX12_duchy_100
  refine mm_aload_n (j := 0) dX12_duchy_100 rfl rfl ?_
  refine mm_getI (ci := 12) (N := 116) dX12_duchy_101 fX12_260 sh_164 rfl ?_
  refine mm_if_ne (tgt := 122) dX12_duchy_104 (by decide) (fun hc => ?_) (fun hc => ?_)
  · rw [if_neg hc] at h
    exact h
  · rw [if_pos hc] at h
    refine mm_aload_n (j := 0) dX12_duchy_107 rfl rfl ?_
    refine mm_kVI [] dX12_duchy_108 kX12_272 rfl sh_164 (by decide) (by decide) h (fun z108 m108 hG h => ?_)
    refine mm_iconst (x := (-1)) dX12_duchy_111 rfl ?_
    refine mm_icmp_eq (tgt := 122) dX12_duchy_112 (by decide) (fun hc => ?_) (fun hc => ?_)
    · rw [if_pos hc] at h
      exact h
    · rw [if_neg hc] at h
      refine mm_aload_n (j := 0) dX12_duchy_115 rfl rfl ?_
      refine mm_kVV [] dX12_duchy_116 kX12_390 rfl sh_164 (by decide) (by decide) h (fun m116 hG h => ?_)
      refine mm_goto (tgt := 100) dX12_duchy_119 (by decide) ?_
      exact h
set_option maxRecDepth 100000 in
set_option maxHeartbeats 4000000 in
theorem lX12_duchy_122 {d : Nat} {M : mm_M} {K : Int32 → mm_M → Prop} (hG : mm_G M.2.2) (h : if ((mm_uI (mm_uI M 164 7 (M.1 164 5)) 164 8 ((mm_uI M 164 7 (M.1 164 5)).1 164 6)).1 164 5) = 0 then (mm_CV mX12_stands d [.ref 164] (mm_uI (mm_uI M 164 7 (M.1 164 5)) 164 8 ((mm_uI M 164 7 (M.1 164 5)).1 164 6)) (fun m158 => K (m158.1 164 47) m158)) else (K (-1) (mm_uI (mm_uI (mm_uI M 164 7 (M.1 164 5)) 164 8 ((mm_uI M 164 7 (M.1 164 5)).1 164 6)) 166 (1).toNatClampNeg (((mm_uI (mm_uI M 164 7 (M.1 164 5)) 164 8 ((mm_uI M 164 7 (M.1 164 5)).1 164 6)).1 166 (1).toNatClampNeg) + 1)))) : jX12_duchy_122 d  M K  := by
  unfold jX12_duchy_122
  refine mm_aload_n (j := 0) dX12_duchy_122 rfl rfl ?_
  refine mm_aload_n (j := 0) dX12_duchy_123 rfl rfl ?_
  refine mm_getI (ci := 12) (N := 116) dX12_duchy_124 fX12_260 sh_164 rfl ?_
  refine mm_putI (ci := 12) (N := 116) dX12_duchy_127 fX12_393 sh_164 (by decide +kernel) rfl rfl rfl ?_
  refine mm_aload_n (j := 0) dX12_duchy_130 rfl rfl ?_
  refine mm_aload_n (j := 0) dX12_duchy_131 rfl rfl ?_
  refine mm_getI (ci := 12) (N := 116) dX12_duchy_132 fX12_263 sh_164 rfl ?_
  refine mm_putI (ci := 12) (N := 116) dX12_duchy_135 fX12_13 sh_164 (by decide +kernel) rfl rfl rfl ?_
  refine mm_aload_n (j := 0) dX12_duchy_138 rfl rfl ?_
  refine mm_getI (ci := 12) (N := 116) dX12_duchy_139 fX12_260 sh_164 rfl ?_
  refine mm_if_eq (tgt := 157) dX12_duchy_142 (by decide) (fun hc => ?_) (fun hc => ?_)
  · rw [if_pos hc] at h
    refine mm_aload_n (j := 0) dX12_duchy_157 rfl rfl ?_
    refine mm_kVV [] dX12_duchy_158 kX12_396 rfl sh_164 (by decide) (by decide) h (fun m158 hG h => ?_)
    refine mm_aload_n (j := 0) dX12_duchy_161 rfl rfl ?_
    refine mm_getI (ci := 12) (N := 116) dX12_duchy_162 fX12_375 sh_164 rfl ?_
    exact mm_iret dX12_duchy_165 rfl (Nat.le_refl 0) (Nat.le_refl 0) ⟨_, rfl, rfl, hG, h⟩
  · rw [if_neg hc] at h
    refine mm_aload_n (j := 0) dX12_duchy_145 rfl rfl ?_
    refine mm_getR (ci := 12) (N := 116) (r := 166) dX12_duchy_146 fX12_17 sh_164 rfl (g_164_9 hG) ?_
    refine mm_iconst (x := 1) dX12_duchy_149 rfl ?_
    refine mm_dup2 dX12_duchy_150 rfl rfl ?_
    refine mm_iaload (N := 6) dX12_duchy_151 sh_166 (by decide) ?_
    refine mm_iconst (x := 1) dX12_duchy_152 rfl ?_
    refine mm_iadd dX12_duchy_153 ?_
    refine mm_iastore (N := 6) dX12_duchy_154 sh_166 (by decide) ?_
    refine mm_iconst (x := (-1)) dX12_duchy_155 rfl ?_
    exact mm_iret dX12_duchy_156 rfl (Nat.le_refl 0) (Nat.le_refl 0) ⟨_, rfl, rfl, hG, h⟩
def jX12_stands_15 (d : Nat) (M : mm_M) (K : mm_M → Prop) (y1 : Int32) : Prop := mm_W mX12_stands d 0 0 15 [(0, .ref 164), (1, .int y1)] [] mm_SH M 0 0 (mm_PV K)
def jX12_stands_42 (d : Nat) (M : mm_M) (K : mm_M → Prop) (y1 : Int32) : Prop := mm_W mX12_stands d 0 0 42 [(0, .ref 164), (1, .int y1)] [] mm_SH M 0 0 (mm_PV K)
def jX12_stands_83 (d : Nat) (M : mm_M) (K : mm_M → Prop) (y1 : Int32) : Prop := mm_W mX12_stands d 0 0 83 [(0, .ref 164), (1, .int y1)] [] mm_SH M 0 0 (mm_PV K)
def jX12_stands_127 (d : Nat) (M : mm_M) (K : mm_M → Prop) (y1 : Int32) : Prop := mm_W mX12_stands d 0 0 127 [(0, .ref 164), (1, .int y1)] [] mm_SH M 0 0 (mm_PV K)
def jX12_stands_159 (d : Nat) (M : mm_M) (K : mm_M → Prop) (y1 : Int32) : Prop := mm_W mX12_stands d 0 0 159 [(0, .ref 164), (1, .int y1)] [] mm_SH M 0 0 (mm_PV K)
def jX12_stands_181 (d : Nat) (M : mm_M) (K : mm_M → Prop) (y1 : Int32) : Prop := mm_W mX12_stands d 0 0 181 [(0, .ref 164), (1, .int y1)] [] mm_SH M 0 0 (mm_PV K)
def jX12_stands_224 (d : Nat) (M : mm_M) (K : mm_M → Prop) (y1 : Int32) : Prop := mm_W mX12_stands d 0 0 224 [(0, .ref 164), (1, .int y1)] [] mm_SH M 0 0 (mm_PV K)
set_option maxRecDepth 100000 in
set_option maxHeartbeats 4000000 in
theorem rX12_stands {d : Nat} {M : mm_M} {K : mm_M → Prop} (hG : mm_G M.2.2) (h : jX12_stands_15 d (mm_uI (mm_uI M 164 48 1) 164 38 ((mm_uI M 164 48 1).1 164 37)) K 0) : mm_CV mX12_stands d [.ref 164] M K := by
  show mm_W mX12_stands d 0 0 0 [(0, .ref 164)] [] mm_SH M 0 0 (mm_PV K)
  refine mm_aload_n (j := 0) dX12_stands_0 rfl rfl ?_
  refine mm_iconst (x := 1) dX12_stands_1 rfl ?_
  refine mm_putI (ci := 12) (N := 116) dX12_stands_2 fX12_399 sh_164 (by decide +kernel) rfl rfl rfl ?_
  refine mm_aload_n (j := 0) dX12_stands_5 rfl rfl ?_
  refine mm_aload_n (j := 0) dX12_stands_6 rfl rfl ?_
  refine mm_getI (ci := 12) (N := 116) dX12_stands_7 fX12_337 sh_164 rfl ?_
  refine mm_putI (ci := 12) (N := 116) dX12_stands_10 fX12_403 sh_164 (by decide +kernel) rfl rfl rfl ?_
  refine mm_iconst (x := 0) dX12_stands_13 rfl ?_
  refine mm_istore_n (lv' := [(1, .int 0), (0, .ref 164)]) dX12_stands_14 rfl (by decide) rfl ?_
  exact mm_sub [1, 0] rfl h
set_option maxRecDepth 100000 in
set_option maxHeartbeats 4000000 in
theorem lX12_stands_15 {d : Nat} {M : mm_M} {K : mm_M → Prop} {y1 : Int32} (hG : mm_G M.2.2) (h : if 2 ≤ y1 then (jX12_stands_42 d M K 0) else (vp_in y1 4 ∧ vp_in (2 + y1) 4 ∧ jX12_stands_15 d (mm_uI M 191 (2 + y1).toNatClampNeg (M.1 191 (y1).toNatClampNeg)) K (y1 + 1))) : jX12_stands_15 d  M K y1 := by
  unfold jX12_stands_15
  refine mm_iload_n (j := 1) dX12_stands_15 rfl rfl ?_
  refine mm_iconst (x := 2) dX12_stands_16 rfl ?_
  refine mm_icmp_ge (tgt := 40) dX12_stands_17 (by decide) (fun hc => ?_) (fun hc => ?_)
  · rw [if_pos hc] at h
    refine mm_iconst (x := 0) dX12_stands_40 rfl ?_
    refine mm_istore_n (lv' := [(1, .int 0), (0, .ref 164)]) dX12_stands_41 rfl (by decide) rfl ?_
    exact mm_sub [1, 0] rfl h
  · rw [if_neg hc] at h
    refine mm_aload_n (j := 0) dX12_stands_20 rfl rfl ?_
    refine mm_getR (ci := 12) (N := 116) (r := 191) dX12_stands_21 fX12_93 sh_164 rfl (g_164_36 hG) ?_
    refine mm_iconst (x := 2) dX12_stands_24 rfl ?_
    refine mm_iload_n (j := 1) dX12_stands_25 rfl rfl ?_
    refine mm_iadd dX12_stands_26 ?_
    refine mm_aload_n (j := 0) dX12_stands_27 rfl rfl ?_
    refine mm_getR (ci := 12) (N := 116) (r := 191) dX12_stands_28 fX12_93 sh_164 rfl (g_164_36 hG) ?_
    refine mm_iload_n (j := 1) dX12_stands_31 rfl rfl ?_
    obtain ⟨hi32, h⟩ := h
    refine mm_iaload (N := 4) dX12_stands_32 sh_191 hi32 ?_
    obtain ⟨hi33, h⟩ := h
    refine mm_iastore (N := 4) dX12_stands_33 sh_191 hi33 ?_
    refine mm_iinc (j := 1) (v := y1 + 1) (lv' := [(1, .int (y1 + 1)), (0, .ref 164)]) dX12_stands_34 rfl rfl (by decide) rfl ?_
    refine mm_goto (tgt := 15) dX12_stands_37 (by decide) ?_
    exact mm_sub [1, 0] rfl h
set_option maxRecDepth 100000 in
set_option maxHeartbeats 4000000 in
theorem lX12_stands_42 {d : Nat} {M : mm_M} {K : mm_M → Prop} {y1 : Int32} (hG : mm_G M.2.2) (h : if 5 ≤ y1 then (jX12_stands_83 d M K 0) else (vp_in y1 10 ∧ vp_in (5 + y1) 10 ∧ vp_in y1 10 ∧ vp_in (5 + y1) 10 ∧ jX12_stands_42 d (mm_uI (mm_uI M 196 (5 + y1).toNatClampNeg (M.1 196 (y1).toNatClampNeg)) 197 (5 + y1).toNatClampNeg ((mm_uI M 196 (5 + y1).toNatClampNeg (M.1 196 (y1).toNatClampNeg)).1 197 (y1).toNatClampNeg)) K (y1 + 1))) : jX12_stands_42 d  M K y1 := by
  unfold jX12_stands_42
  refine mm_iload_n (j := 1) dX12_stands_42 rfl rfl ?_
  refine mm_iconst (x := 5) dX12_stands_43 rfl ?_
  refine mm_icmp_ge (tgt := 81) dX12_stands_44 (by decide) (fun hc => ?_) (fun hc => ?_)
  · rw [if_pos hc] at h
    refine mm_iconst (x := 0) dX12_stands_81 rfl ?_
    refine mm_istore_n (lv' := [(1, .int 0), (0, .ref 164)]) dX12_stands_82 rfl (by decide) rfl ?_
    exact mm_sub [1, 0] rfl h
  · rw [if_neg hc] at h
    refine mm_aload_n (j := 0) dX12_stands_47 rfl rfl ?_
    refine mm_getR (ci := 12) (N := 116) (r := 196) dX12_stands_48 fX12_109 sh_164 rfl (g_164_43 hG) ?_
    refine mm_iconst (x := 5) dX12_stands_51 rfl ?_
    refine mm_iload_n (j := 1) dX12_stands_52 rfl rfl ?_
    refine mm_iadd dX12_stands_53 ?_
    refine mm_aload_n (j := 0) dX12_stands_54 rfl rfl ?_
    refine mm_getR (ci := 12) (N := 116) (r := 196) dX12_stands_55 fX12_109 sh_164 rfl (g_164_43 hG) ?_
    refine mm_iload_n (j := 1) dX12_stands_58 rfl rfl ?_
    obtain ⟨hi59, h⟩ := h
    refine mm_iaload (N := 10) dX12_stands_59 sh_196 hi59 ?_
    obtain ⟨hi60, h⟩ := h
    refine mm_iastore (N := 10) dX12_stands_60 sh_196 hi60 ?_
    refine mm_aload_n (j := 0) dX12_stands_61 rfl rfl ?_
    refine mm_getR (ci := 12) (N := 116) (r := 197) dX12_stands_62 fX12_112 sh_164 rfl (g_164_44 hG) ?_
    refine mm_iconst (x := 5) dX12_stands_65 rfl ?_
    refine mm_iload_n (j := 1) dX12_stands_66 rfl rfl ?_
    refine mm_iadd dX12_stands_67 ?_
    refine mm_aload_n (j := 0) dX12_stands_68 rfl rfl ?_
    refine mm_getR (ci := 12) (N := 116) (r := 197) dX12_stands_69 fX12_112 sh_164 rfl (g_164_44 hG) ?_
    refine mm_iload_n (j := 1) dX12_stands_72 rfl rfl ?_
    obtain ⟨hi73, h⟩ := h
    refine mm_iaload (N := 10) dX12_stands_73 sh_197 hi73 ?_
    obtain ⟨hi74, h⟩ := h
    refine mm_iastore (N := 10) dX12_stands_74 sh_197 hi74 ?_
    refine mm_iinc (j := 1) (v := y1 + 1) (lv' := [(1, .int (y1 + 1)), (0, .ref 164)]) dX12_stands_75 rfl rfl (by decide) rfl ?_
    refine mm_goto (tgt := 42) dX12_stands_78 (by decide) ?_
    exact mm_sub [1, 0] rfl h
set_option maxRecDepth 100000 in
set_option maxHeartbeats 4000000 in
theorem lX12_stands_83 {d : Nat} {M : mm_M} {K : mm_M → Prop} {y1 : Int32} (hG : mm_G M.2.2) (h : if 7 ≤ y1 then (jX12_stands_127 d M K 0) else (vp_in y1 14 ∧ vp_in (7 + y1) 14 ∧ vp_in y1 14 ∧ vp_in (7 + y1) 14 ∧ jX12_stands_83 d (mm_uI (mm_uL M 192 (7 + y1).toNatClampNeg (M.2.1 192 (y1).toNatClampNeg)) 194 (7 + y1).toNatClampNeg ((mm_uL M 192 (7 + y1).toNatClampNeg (M.2.1 192 (y1).toNatClampNeg)).1 194 (y1).toNatClampNeg)) K (y1 + 1))) : jX12_stands_83 d  M K y1 := by
  unfold jX12_stands_83
  refine mm_iload_n (j := 1) dX12_stands_83 rfl rfl ?_
  refine mm_bipush (x := 7) dX12_stands_84 rfl ?_
  refine mm_icmp_ge (tgt := 125) dX12_stands_86 (by decide) (fun hc => ?_) (fun hc => ?_)
  · rw [if_pos hc] at h
    refine mm_iconst (x := 0) dX12_stands_125 rfl ?_
    refine mm_istore_n (lv' := [(1, .int 0), (0, .ref 164)]) dX12_stands_126 rfl (by decide) rfl ?_
    exact mm_sub [1, 0] rfl h
  · rw [if_neg hc] at h
    refine mm_aload_n (j := 0) dX12_stands_89 rfl rfl ?_
    refine mm_getR (ci := 12) (N := 116) (r := 192) dX12_stands_90 fX12_96 sh_164 rfl (g_164_39 hG) ?_
    refine mm_bipush (x := 7) dX12_stands_93 rfl ?_
    refine mm_iload_n (j := 1) dX12_stands_95 rfl rfl ?_
    refine mm_iadd dX12_stands_96 ?_
    refine mm_aload_n (j := 0) dX12_stands_97 rfl rfl ?_
    refine mm_getR (ci := 12) (N := 116) (r := 192) dX12_stands_98 fX12_96 sh_164 rfl (g_164_39 hG) ?_
    refine mm_iload_n (j := 1) dX12_stands_101 rfl rfl ?_
    obtain ⟨hi102, h⟩ := h
    refine mm_laload (N := 14) dX12_stands_102 sh_192 hi102 ?_
    obtain ⟨hi103, h⟩ := h
    refine mm_lastore (N := 14) dX12_stands_103 sh_192 hi103 ?_
    refine mm_aload_n (j := 0) dX12_stands_104 rfl rfl ?_
    refine mm_getR (ci := 12) (N := 116) (r := 194) dX12_stands_105 fX12_103 sh_164 rfl (g_164_41 hG) ?_
    refine mm_bipush (x := 7) dX12_stands_108 rfl ?_
    refine mm_iload_n (j := 1) dX12_stands_110 rfl rfl ?_
    refine mm_iadd dX12_stands_111 ?_
    refine mm_aload_n (j := 0) dX12_stands_112 rfl rfl ?_
    refine mm_getR (ci := 12) (N := 116) (r := 194) dX12_stands_113 fX12_103 sh_164 rfl (g_164_41 hG) ?_
    refine mm_iload_n (j := 1) dX12_stands_116 rfl rfl ?_
    obtain ⟨hi117, h⟩ := h
    refine mm_iaload (N := 14) dX12_stands_117 sh_194 hi117 ?_
    obtain ⟨hi118, h⟩ := h
    refine mm_iastore (N := 14) dX12_stands_118 sh_194 hi118 ?_
    refine mm_iinc (j := 1) (v := y1 + 1) (lv' := [(1, .int (y1 + 1)), (0, .ref 164)]) dX12_stands_119 rfl rfl (by decide) rfl ?_
    refine mm_goto (tgt := 83) dX12_stands_122 (by decide) ?_
    exact mm_sub [1, 0] rfl h
set_option maxRecDepth 100000 in
set_option maxHeartbeats 4000000 in
theorem lX12_stands_127 {d : Nat} {M : mm_M} {K : mm_M → Prop} {y1 : Int32} (hG : mm_G M.2.2) (h : if (M.1 164 46) ≤ y1 then (jX12_stands_159 d M K 0) else (vp_in y1 3200 ∧ vp_in (1600 + y1) 3200 ∧ jX12_stands_127 d (mm_uI M 198 (1600 + y1).toNatClampNeg (M.1 198 (y1).toNatClampNeg)) K (y1 + 1))) : jX12_stands_127 d  M K y1 := by
  unfold jX12_stands_127
  refine mm_iload_n (j := 1) dX12_stands_127 rfl rfl ?_
  refine mm_aload_n (j := 0) dX12_stands_128 rfl rfl ?_
  refine mm_getI (ci := 12) (N := 116) dX12_stands_129 fX12_372 sh_164 rfl ?_
  refine mm_icmp_ge (tgt := 157) dX12_stands_132 (by decide) (fun hc => ?_) (fun hc => ?_)
  · rw [if_pos hc] at h
    refine mm_iconst (x := 0) dX12_stands_157 rfl ?_
    refine mm_istore_n (lv' := [(1, .int 0), (0, .ref 164)]) dX12_stands_158 rfl (by decide) rfl ?_
    exact mm_sub [1, 0] rfl h
  · rw [if_neg hc] at h
    refine mm_aload_n (j := 0) dX12_stands_135 rfl rfl ?_
    refine mm_getR (ci := 12) (N := 116) (r := 198) dX12_stands_136 fX12_115 sh_164 rfl (g_164_45 hG) ?_
    refine mm_sipush (x := 1600) dX12_stands_139 rfl ?_
    refine mm_iload_n (j := 1) dX12_stands_142 rfl rfl ?_
    refine mm_iadd dX12_stands_143 ?_
    refine mm_aload_n (j := 0) dX12_stands_144 rfl rfl ?_
    refine mm_getR (ci := 12) (N := 116) (r := 198) dX12_stands_145 fX12_115 sh_164 rfl (g_164_45 hG) ?_
    refine mm_iload_n (j := 1) dX12_stands_148 rfl rfl ?_
    obtain ⟨hi149, h⟩ := h
    refine mm_iaload (N := 3200) dX12_stands_149 sh_198 hi149 ?_
    obtain ⟨hi150, h⟩ := h
    refine mm_iastore (N := 3200) dX12_stands_150 sh_198 hi150 ?_
    refine mm_iinc (j := 1) (v := y1 + 1) (lv' := [(1, .int (y1 + 1)), (0, .ref 164)]) dX12_stands_151 rfl rfl (by decide) rfl ?_
    refine mm_goto (tgt := 127) dX12_stands_154 (by decide) ?_
    exact mm_sub [1, 0] rfl h
set_option maxRecDepth 100000 in
set_option maxHeartbeats 4000000 in
theorem lX12_stands_159 {d : Nat} {M : mm_M} {K : mm_M → Prop} {y1 : Int32} (hG : mm_G M.2.2) (h : if 204 ≤ y1 then (jX12_stands_181 d M K 0) else (vp_in y1 204 ∧ jX12_stands_159 d (mm_uI M 199 (y1).toNatClampNeg 0) K (y1 + 1))) : jX12_stands_159 d  M K y1 := by
  unfold jX12_stands_159
  refine mm_iload_n (j := 1) dX12_stands_159 rfl rfl ?_
  refine mm_sipush (x := 204) dX12_stands_160 rfl ?_
  refine mm_icmp_ge (tgt := 179) dX12_stands_163 (by decide) (fun hc => ?_) (fun hc => ?_)
  · rw [if_pos hc] at h
    refine mm_iconst (x := 0) dX12_stands_179 rfl ?_
    refine mm_istore_n (lv' := [(1, .int 0), (0, .ref 164)]) dX12_stands_180 rfl (by decide) rfl ?_
    exact mm_sub [1, 0] rfl h
  · rw [if_neg hc] at h
    refine mm_aload_n (j := 0) dX12_stands_166 rfl rfl ?_
    refine mm_getR (ci := 12) (N := 116) (r := 199) dX12_stands_167 fX12_118 sh_164 rfl (g_164_50 hG) ?_
    refine mm_iload_n (j := 1) dX12_stands_170 rfl rfl ?_
    refine mm_iconst (x := 0) dX12_stands_171 rfl ?_
    obtain ⟨hi172, h⟩ := h
    refine mm_iastore (N := 204) dX12_stands_172 sh_199 hi172 ?_
    refine mm_iinc (j := 1) (v := y1 + 1) (lv' := [(1, .int (y1 + 1)), (0, .ref 164)]) dX12_stands_173 rfl rfl (by decide) rfl ?_
    refine mm_goto (tgt := 159) dX12_stands_176 (by decide) ?_
    exact mm_sub [1, 0] rfl h
set_option maxRecDepth 100000 in
set_option maxHeartbeats 4000000 in
theorem lX12_stands_181 {d : Nat} {M : mm_M} {K : mm_M → Prop} {y1 : Int32} (hG : mm_G M.2.2) (h : if (M.1 164 38) ≤ y1 then (jX12_stands_224 d M K 0) else (vp_in (1 + (3 * y1)) 204 ∧ vp_in y1 7 ∧ vp_in (2 + (3 * y1)) 204 ∧ jX12_stands_181 d (mm_uI (mm_uI M 199 (1 + (3 * y1)).toNatClampNeg 1) 199 (2 + (3 * y1)).toNatClampNeg ((mm_uI M 199 (1 + (3 * y1)).toNatClampNeg 1).1 193 (y1).toNatClampNeg)) K (y1 + 1))) : jX12_stands_181 d  M K y1 := by
  unfold jX12_stands_181
  refine mm_iload_n (j := 1) dX12_stands_181 rfl rfl ?_
  refine mm_aload_n (j := 0) dX12_stands_182 rfl rfl ?_
  refine mm_getI (ci := 12) (N := 116) dX12_stands_183 fX12_403 sh_164 rfl ?_
  refine mm_icmp_ge (tgt := 222) dX12_stands_186 (by decide) (fun hc => ?_) (fun hc => ?_)
  · rw [if_pos hc] at h
    refine mm_iconst (x := 0) dX12_stands_222 rfl ?_
    refine mm_istore_n (lv' := [(1, .int 0), (0, .ref 164)]) dX12_stands_223 rfl (by decide) rfl ?_
    exact mm_sub [1, 0] rfl h
  · rw [if_neg hc] at h
    refine mm_aload_n (j := 0) dX12_stands_189 rfl rfl ?_
    refine mm_getR (ci := 12) (N := 116) (r := 199) dX12_stands_190 fX12_118 sh_164 rfl (g_164_50 hG) ?_
    refine mm_iconst (x := 1) dX12_stands_193 rfl ?_
    refine mm_iconst (x := 3) dX12_stands_194 rfl ?_
    refine mm_iload_n (j := 1) dX12_stands_195 rfl rfl ?_
    refine mm_imul dX12_stands_196 ?_
    refine mm_iadd dX12_stands_197 ?_
    refine mm_iconst (x := 1) dX12_stands_198 rfl ?_
    obtain ⟨hi199, h⟩ := h
    refine mm_iastore (N := 204) dX12_stands_199 sh_199 hi199 ?_
    refine mm_aload_n (j := 0) dX12_stands_200 rfl rfl ?_
    refine mm_getR (ci := 12) (N := 116) (r := 199) dX12_stands_201 fX12_118 sh_164 rfl (g_164_50 hG) ?_
    refine mm_iconst (x := 2) dX12_stands_204 rfl ?_
    refine mm_iconst (x := 3) dX12_stands_205 rfl ?_
    refine mm_iload_n (j := 1) dX12_stands_206 rfl rfl ?_
    refine mm_imul dX12_stands_207 ?_
    refine mm_iadd dX12_stands_208 ?_
    refine mm_aload_n (j := 0) dX12_stands_209 rfl rfl ?_
    refine mm_getR (ci := 12) (N := 116) (r := 193) dX12_stands_210 fX12_100 sh_164 rfl (g_164_40 hG) ?_
    refine mm_iload_n (j := 1) dX12_stands_213 rfl rfl ?_
    obtain ⟨hi214, h⟩ := h
    refine mm_iaload (N := 7) dX12_stands_214 sh_193 hi214 ?_
    obtain ⟨hi215, h⟩ := h
    refine mm_iastore (N := 204) dX12_stands_215 sh_199 hi215 ?_
    refine mm_iinc (j := 1) (v := y1 + 1) (lv' := [(1, .int (y1 + 1)), (0, .ref 164)]) dX12_stands_216 rfl rfl (by decide) rfl ?_
    refine mm_goto (tgt := 181) dX12_stands_219 (by decide) ?_
    exact mm_sub [1, 0] rfl h
set_option maxRecDepth 100000 in
set_option maxHeartbeats 4000000 in
theorem lX12_stands_224 {d : Nat} {M : mm_M} {K : mm_M → Prop} {y1 : Int32} (hG : mm_G M.2.2) (h : if 21 ≤ y1 then (K (mm_uI (mm_uI M 164 79 0) 164 72 0)) else (vp_in y1 21 ∧ vp_in (22 + y1) 204 ∧ jX12_stands_224 d (mm_uI M 199 (22 + y1).toNatClampNeg (M.1 195 (y1).toNatClampNeg)) K (y1 + 1))) : jX12_stands_224 d  M K y1 := by
  unfold jX12_stands_224
  refine mm_iload_n (j := 1) dX12_stands_224 rfl rfl ?_
  refine mm_bipush (x := 21) dX12_stands_225 rfl ?_
  refine mm_icmp_ge (tgt := 251) dX12_stands_227 (by decide) (fun hc => ?_) (fun hc => ?_)
  · rw [if_pos hc] at h
    refine mm_aload_n (j := 0) dX12_stands_251 rfl rfl ?_
    refine mm_iconst (x := 0) dX12_stands_252 rfl ?_
    refine mm_putI (ci := 12) (N := 116) dX12_stands_253 fX12_406 sh_164 (by decide +kernel) rfl rfl rfl ?_
    refine mm_aload_n (j := 0) dX12_stands_256 rfl rfl ?_
    refine mm_iconst (x := 0) dX12_stands_257 rfl ?_
    refine mm_putI (ci := 12) (N := 116) dX12_stands_258 fX12_409 sh_164 (by decide +kernel) rfl rfl rfl ?_
    exact mm_vret dX12_stands_261 rfl (Nat.le_refl 0) (Nat.le_refl 0) ⟨rfl, rfl, hG, h⟩
  · rw [if_neg hc] at h
    refine mm_aload_n (j := 0) dX12_stands_230 rfl rfl ?_
    refine mm_getR (ci := 12) (N := 116) (r := 199) dX12_stands_231 fX12_118 sh_164 rfl (g_164_50 hG) ?_
    refine mm_bipush (x := 22) dX12_stands_234 rfl ?_
    refine mm_iload_n (j := 1) dX12_stands_236 rfl rfl ?_
    refine mm_iadd dX12_stands_237 ?_
    refine mm_aload_n (j := 0) dX12_stands_238 rfl rfl ?_
    refine mm_getR (ci := 12) (N := 116) (r := 195) dX12_stands_239 fX12_106 sh_164 rfl (g_164_42 hG) ?_
    refine mm_iload_n (j := 1) dX12_stands_242 rfl rfl ?_
    obtain ⟨hi243, h⟩ := h
    refine mm_iaload (N := 21) dX12_stands_243 sh_195 hi243 ?_
    obtain ⟨hi244, h⟩ := h
    refine mm_iastore (N := 204) dX12_stands_244 sh_199 hi244 ?_
    refine mm_iinc (j := 1) (v := y1 + 1) (lv' := [(1, .int (y1 + 1)), (0, .ref 164)]) dX12_stands_245 rfl rfl (by decide) rfl ?_
    refine mm_goto (tgt := 224) dX12_stands_248 (by decide) ?_
    exact mm_sub [1, 0] rfl h
set_option maxRecDepth 100000 in
set_option maxHeartbeats 4000000 in
theorem rX12_fault {d : Nat} {x1 : Int32} {M : mm_M} {K : Int32 → mm_M → Prop} (hG : mm_G M.2.2) (h : if x1 = 0 then (K (M.1 164 7) M) else (if x1 = 1 then (K (M.1 164 8) M) else (K (-1) M))) : mm_CI mX12_fault d [.ref 164, .int x1] M K := by
  show mm_W mX12_fault d 0 0 0 [(0, .ref 164), (1, .int x1)] [] mm_SH M 0 0 (mm_PI K)
  refine mm_iload_n (j := 1) dX12_fault_0 rfl rfl ?_
  refine mm_if_ne (tgt := 11) dX12_fault_1 (by decide) (fun hc => ?_) (fun hc => ?_)
  · rw [if_neg hc] at h
    refine mm_iload_n (j := 1) dX12_fault_11 rfl rfl ?_
    refine mm_iconst (x := 1) dX12_fault_12 rfl ?_
    refine mm_icmp_ne (tgt := 23) dX12_fault_13 (by decide) (fun hc => ?_) (fun hc => ?_)
    · rw [if_neg hc] at h
      refine mm_iconst (x := (-1)) dX12_fault_23 rfl ?_
      exact mm_iret dX12_fault_24 rfl (Nat.le_refl 0) (Nat.le_refl 0) ⟨_, rfl, rfl, hG, h⟩
    · rw [if_pos hc] at h
      refine mm_aload_n (j := 0) dX12_fault_16 rfl rfl ?_
      refine mm_getI (ci := 12) (N := 116) dX12_fault_17 fX12_13 sh_164 rfl ?_
      refine mm_goto (tgt := 24) dX12_fault_20 (by decide) ?_
      exact mm_iret dX12_fault_24 rfl (Nat.le_refl 0) (Nat.le_refl 0) ⟨_, rfl, rfl, hG, h⟩
  · rw [if_pos hc] at h
    refine mm_aload_n (j := 0) dX12_fault_4 rfl rfl ?_
    refine mm_getI (ci := 12) (N := 116) dX12_fault_5 fX12_393 sh_164 rfl ?_
    refine mm_goto (tgt := 24) dX12_fault_8 (by decide) ?_
    exact mm_iret dX12_fault_24 rfl (Nat.le_refl 0) (Nat.le_refl 0) ⟨_, rfl, rfl, hG, h⟩
set_option maxRecDepth 100000 in
set_option maxHeartbeats 4000000 in
theorem rX12_houseMany {d : Nat} {M : mm_M} {K : Int32 → mm_M → Prop} (hG : mm_G M.2.2) (h : K (M.1 164 38) M) : mm_CI mX12_houseMany d [.ref 164] M K := by
  show mm_W mX12_houseMany d 0 0 0 [(0, .ref 164)] [] mm_SH M 0 0 (mm_PI K)
  refine mm_aload_n (j := 0) dX12_houseMany_0 rfl rfl ?_
  refine mm_getI (ci := 12) (N := 116) dX12_houseMany_1 fX12_403 sh_164 rfl ?_
  exact mm_iret dX12_houseMany_4 rfl (Nat.le_refl 0) (Nat.le_refl 0) ⟨_, rfl, rfl, hG, h⟩
set_option maxRecDepth 100000 in
set_option maxHeartbeats 4000000 in
theorem rX12_isHouse {d : Nat} {x1 : Int64} {M : mm_M} {K : Int32 → mm_M → Prop} (hG : mm_G M.2.2) (h : mm_CI mX12_houseMany d [.ref 164] M (fun z3 m3 => mm_CI mX12_isIn d [.long x1, .long 0, .long ((z3 - 1).toInt64)] m3 (fun z9 m9 => (z9 = 0 ∨ z9 = 1) ∧ K z9 m9))) : mm_CI mX12_isHouse (d + 1) [.ref 164, .long x1] M K := by
  show mm_W mX12_isHouse (d + 1) 0 0 0 [(0, .ref 164), (1, .long x1)] [] mm_SH M 0 0 (mm_PI K)
  refine mm_lload_n (j := 1) dX12_isHouse_0 rfl rfl ?_
  refine mm_lconst (x := 0) dX12_isHouse_1 rfl ?_
  refine mm_aload_n (j := 0) dX12_isHouse_2 rfl rfl ?_
  refine mm_kVI [] dX12_isHouse_3 kX12_412 rfl sh_164 (by decide) (by decide) h (fun z3 m3 hG h => ?_)
  refine mm_iconst (x := 1) dX12_isHouse_6 rfl ?_
  refine mm_isub dX12_isHouse_7 ?_
  refine mm_i2l dX12_isHouse_8 ?_
  refine mm_kSI [.long x1, .long 0, .long ((z3 - 1).toInt64)] dX12_isHouse_9 kX12_303 rfl (by decide) (by decide) h (fun z9 m9 hG h => ?_)
  obtain ⟨hb, h⟩ := h
  exact mm_zret dX12_isHouse_12 rfl (mm_nb hb) (Nat.le_refl 0) (Nat.le_refl 0) ⟨_, rfl, rfl, hG, h⟩
set_option maxRecDepth 100000 in
set_option maxHeartbeats 4000000 in
theorem rX12_isThere {d : Nat} {x1 : Int32} {M : mm_M} {K : Int32 → mm_M → Prop} (hG : mm_G M.2.2) (h : vp_in (1 + (3 * x1)) 204 ∧ if (M.1 199 (1 + (3 * x1)).toNatClampNeg) = 1 then (K 1 M) else (K 0 M)) : mm_CI mX12_isThere d [.ref 164, .int x1] M K := by
  show mm_W mX12_isThere d 0 0 0 [(0, .ref 164), (1, .int x1)] [] mm_SH M 0 0 (mm_PI K)
  refine mm_aload_n (j := 0) dX12_isThere_0 rfl rfl ?_
  refine mm_getR (ci := 12) (N := 116) (r := 199) dX12_isThere_1 fX12_118 sh_164 rfl (g_164_50 hG) ?_
  refine mm_iconst (x := 1) dX12_isThere_4 rfl ?_
  refine mm_iconst (x := 3) dX12_isThere_5 rfl ?_
  refine mm_iload_n (j := 1) dX12_isThere_6 rfl rfl ?_
  refine mm_imul dX12_isThere_7 ?_
  refine mm_iadd dX12_isThere_8 ?_
  obtain ⟨hi9, h⟩ := h
  refine mm_iaload (N := 204) dX12_isThere_9 sh_199 hi9 ?_
  refine mm_iconst (x := 1) dX12_isThere_10 rfl ?_
  refine mm_icmp_ne (tgt := 18) dX12_isThere_11 (by decide) (fun hc => ?_) (fun hc => ?_)
  · rw [if_neg hc] at h
    refine mm_iconst (x := 0) dX12_isThere_18 rfl ?_
    exact mm_zret dX12_isThere_19 rfl rfl (Nat.le_refl 0) (Nat.le_refl 0) ⟨_, rfl, rfl, hG, h⟩
  · rw [if_pos hc] at h
    refine mm_iconst (x := 1) dX12_isThere_14 rfl ?_
    refine mm_goto (tgt := 19) dX12_isThere_15 (by decide) ?_
    exact mm_zret dX12_isThere_19 rfl rfl (Nat.le_refl 0) (Nat.le_refl 0) ⟨_, rfl, rfl, hG, h⟩
set_option maxRecDepth 100000 in
set_option maxHeartbeats 4000000 in
theorem rX12_flourOf {d : Nat} {x1 : Int32} {M : mm_M} {K : Int32 → mm_M → Prop} (hG : mm_G M.2.2) (h : vp_in (2 + (3 * x1)) 204 ∧ K (M.1 199 (2 + (3 * x1)).toNatClampNeg) M) : mm_CI mX12_flourOf d [.ref 164, .int x1] M K := by
  show mm_W mX12_flourOf d 0 0 0 [(0, .ref 164), (1, .int x1)] [] mm_SH M 0 0 (mm_PI K)
  refine mm_aload_n (j := 0) dX12_flourOf_0 rfl rfl ?_
  refine mm_getR (ci := 12) (N := 116) (r := 199) dX12_flourOf_1 fX12_118 sh_164 rfl (g_164_50 hG) ?_
  refine mm_iconst (x := 2) dX12_flourOf_4 rfl ?_
  refine mm_iconst (x := 3) dX12_flourOf_5 rfl ?_
  refine mm_iload_n (j := 1) dX12_flourOf_6 rfl rfl ?_
  refine mm_imul dX12_flourOf_7 ?_
  refine mm_iadd dX12_flourOf_8 ?_
  obtain ⟨hi9, h⟩ := h
  refine mm_iaload (N := 204) dX12_flourOf_9 sh_199 hi9 ?_
  exact mm_iret dX12_flourOf_10 rfl (Nat.le_refl 0) (Nat.le_refl 0) ⟨_, rfl, rfl, hG, h⟩
