set_option maxRecDepth 100000 in
set_option maxHeartbeats 4000000 in
theorem rX12_isIn {d : Nat} {x0 : Int64} {x2 : Int64} {x4 : Int64} {M : mm_M} {K : Int32 → mm_M → Prop} (hG : mm_G M.2.2) (h : if x0 < x2 then (K 0 M) else (if x4 < x0 then (K 0 M) else (K 1 M))) : mm_CI mX12_isIn d [.long x0, .long x2, .long x4] M K := by
  show mm_W mX12_isIn d 0 0 0 [(0, .long x0), (2, .long x2), (4, .long x4)] [] mm_SH M 0 0 (mm_PI K)
  refine mm_lload_n (pc := 0) (j := 0) dX12_isIn_0 rfl rfl ?_
  refine mm_lload_n (pc := 1) (j := 1) dX12_isIn_1 rfl rfl ?_
  refine mm_lcmp (pc := 2) dX12_isIn_2 ?_
  refine mm_if_lt (pc := 3) (tgt := 17) dX12_isIn_3 (by decide) (fun hc => ?_) (fun hc => ?_)
  · have h := mm_ift (lgc_lt.mp hc) h
    refine mm_iconst (pc := 17) (x := 0) dX12_isIn_17 rfl ?_
    exact mm_zret (pc := 18) dX12_isIn_18 rfl rfl (Nat.le_refl 0) (Nat.le_refl 0) ⟨_, rfl, rfl, hG, h⟩
  · have h := mm_iff (fun q => hc (lgc_lt.mpr q)) h
    refine mm_lload_n (pc := 6) (j := 0) dX12_isIn_6 rfl rfl ?_
    refine mm_lload (pc := 7) (j := 2) dX12_isIn_7 rfl ?_
    refine mm_lcmp (pc := 9) dX12_isIn_9 ?_
    refine mm_if_gt (pc := 10) (tgt := 17) dX12_isIn_10 (by decide) (fun hc => ?_) (fun hc => ?_)
    · have h := mm_ift (lgc_gt.mp hc) h
      refine mm_iconst (pc := 17) (x := 0) dX12_isIn_17 rfl ?_
      exact mm_zret (pc := 18) dX12_isIn_18 rfl rfl (Nat.le_refl 0) (Nat.le_refl 0) ⟨_, rfl, rfl, hG, h⟩
    · have h := mm_iff (fun q => hc (lgc_gt.mpr q)) h
      refine mm_iconst (pc := 13) (x := 1) dX12_isIn_13 rfl ?_
      refine mm_goto (pc := 14) (tgt := 18) dX12_isIn_14 (by decide) ?_
      exact mm_zret (pc := 18) dX12_isIn_18 rfl rfl (Nat.le_refl 0) (Nat.le_refl 0) ⟨_, rfl, rfl, hG, h⟩
set_option maxRecDepth 100000 in
set_option maxHeartbeats 4000000 in
theorem rX12_cut {d : Nat} {x0 : Int64} {M : mm_M} {K : Int32 → mm_M → Prop} (hG : mm_G M.2.2) (h : if 0 ≤ x0 then (if x0 ≤ 99 then (K x0.toInt32 M) else (K 99 M)) else (K 0 M)) : mm_CI mX12_cut d [.long x0] M K := by
  show mm_W mX12_cut d 0 0 0 [(0, .long x0)] [] mm_SH M 0 0 (mm_PI K)
  refine mm_lload_n (pc := 0) (j := 0) dX12_cut_0 rfl rfl ?_
  refine mm_lconst (pc := 1) (x := 0) dX12_cut_1 rfl ?_
  refine mm_lcmp (pc := 2) dX12_cut_2 ?_
  refine mm_if_ge (pc := 3) (tgt := 10) dX12_cut_3 (by decide) (fun hc => ?_) (fun hc => ?_)
  · have h := mm_ift (lgc_ge.mp hc) h
    refine mm_lload_n (pc := 10) (j := 0) dX12_cut_10 rfl rfl ?_
    refine mm_ldc2 (pc := 11) (x := 99) dX12_cut_11 cX12_255 ?_
    refine mm_lcmp (pc := 14) dX12_cut_14 ?_
    refine mm_if_le (pc := 15) (tgt := 23) dX12_cut_15 (by decide) (fun hc => ?_) (fun hc => ?_)
    · have h := mm_ift (lgc_le.mp hc) h
      refine mm_lload_n (pc := 23) (j := 0) dX12_cut_23 rfl rfl ?_
      refine mm_l2i (pc := 24) dX12_cut_24 ?_
      exact mm_iret (pc := 25) dX12_cut_25 rfl (Nat.le_refl 0) (Nat.le_refl 0) ⟨_, rfl, rfl, hG, h⟩
    · have h := mm_iff (fun q => hc (lgc_le.mpr q)) h
      refine mm_bipush (pc := 18) (x := 99) dX12_cut_18 rfl ?_
      refine mm_goto (pc := 20) (tgt := 25) dX12_cut_20 (by decide) ?_
      exact mm_iret (pc := 25) dX12_cut_25 rfl (Nat.le_refl 0) (Nat.le_refl 0) ⟨_, rfl, rfl, hG, h⟩
  · have h := mm_iff (fun q => hc (lgc_ge.mpr q)) h
    refine mm_iconst (pc := 6) (x := 0) dX12_cut_6 rfl ?_
    refine mm_goto (pc := 7) (tgt := 25) dX12_cut_7 (by decide) ?_
    exact mm_iret (pc := 25) dX12_cut_25 rfl (Nat.le_refl 0) (Nat.le_refl 0) ⟨_, rfl, rfl, hG, h⟩
def jX12_feed_28 (d : Nat) (x1 : Int32) (x2 : Int32) (x3 : Int32) (x4 : Int32) (x5 : Int32) (M : mm_M) (K : Int32 → mm_M → Prop) (y1 : Int32) (y2 : Int32) (y3 : Int32) (y4 : Int32) (y5 : Int32) (y6 : Int32) : Prop := mm_W mX12_feed d 0 0 28 [(0, .ref 164), (1, .int y1), (2, .int y2), (3, .int y3), (4, .int y4), (5, .int y5), (6, .int y6)] [] mm_SH M 0 0 (mm_PI K)
def jX12_feed_81 (d : Nat) (x1 : Int32) (x2 : Int32) (x3 : Int32) (x4 : Int32) (x5 : Int32) (M : mm_M) (K : Int32 → mm_M → Prop) (y1 : Int32) (y2 : Int32) (y3 : Int32) (y4 : Int32) (y5 : Int32) (y6 : Int32) (u0 : Int32) : Prop := mm_W mX12_feed d 0 0 81 [(0, .ref 164), (1, .int y1), (2, .int y2), (3, .int y3), (4, .int y4), (5, .int y5), (6, .int y6)] [.int u0] mm_SH M 0 0 (mm_PI K)
set_option maxRecDepth 100000 in
set_option maxHeartbeats 4000000 in
theorem rX12_feed {d : Nat} {x1 : Int32} {x2 : Int32} {x3 : Int32} {x4 : Int32} {x5 : Int32} {M : mm_M} {K : Int32 → mm_M → Prop} (hG : mm_G M.2.2) (h : if ((M.1 164 1) + 20) ≤ 1600 then (jX12_feed_28 d x1 x2 x3 x4 x5 M K x1 x2 x3 x4 x5 0) else (K (-1) (mm_uI M 166 (0 : Int32).toNatClampNeg ((M.1 166 (0 : Int32).toNatClampNeg) + 1)))) : mm_CI mX12_feed d [.ref 164, .int x1, .int x2, .int x3, .int x4, .int x5] M K := by
  show mm_W mX12_feed d 0 0 0 [(0, .ref 164), (1, .int x1), (2, .int x2), (3, .int x3), (4, .int x4), (5, .int x5)] [] mm_SH M 0 0 (mm_PI K)
  refine mm_aload_n (pc := 0) (j := 0) dX12_feed_0 rfl rfl ?_
  refine mm_getI (pc := 1) (ci := 12) (N := 116) dX12_feed_1 fX12_257 sh_164 rfl ?_
  refine mm_bipush (pc := 4) (x := 20) dX12_feed_4 rfl ?_
  refine mm_iadd (pc := 6) dX12_feed_6 ?_
  refine mm_sipush (pc := 7) (x := 1600) dX12_feed_7 rfl ?_
  refine mm_icmp_le (pc := 10) (tgt := 25) dX12_feed_10 (by decide) (fun hc => ?_) (fun hc => ?_)
  · have h := mm_ift hc h
    refine mm_iconst (pc := 25) (x := 0) dX12_feed_25 rfl ?_
    refine mm_istore (pc := 26) (lv' := [(6, .int 0), (0, .ref 164), (1, .int x1), (2, .int x2), (3, .int x3), (4, .int x4), (5, .int x5)]) dX12_feed_26 (by decide) rfl ?_
    exact mm_sub [1, 2, 3, 4, 5, 6, 0] rfl h
  · have h := mm_iff hc h
    refine mm_aload_n (pc := 13) (j := 0) dX12_feed_13 rfl rfl ?_
    refine mm_getR (pc := 14) (ci := 12) (N := 116) (r := 166) dX12_feed_14 fX12_17 sh_164 rfl (g_164_9 hG) ?_
    refine mm_iconst (pc := 17) (x := 0) dX12_feed_17 rfl ?_
    refine mm_dup2 (pc := 18) dX12_feed_18 rfl rfl ?_
    refine mm_iaload (pc := 19) (N := 6) dX12_feed_19 sh_166 (mm_vin (k := 0) rfl (by decide) (by decide)) ?_
    refine mm_iconst (pc := 20) (x := 1) dX12_feed_20 rfl ?_
    refine mm_iadd (pc := 21) dX12_feed_21 ?_
    refine mm_iastore (pc := 22) (N := 6) dX12_feed_22 sh_166 (mm_vin (k := 0) rfl (by decide) (by decide)) ?_
    refine mm_iconst (pc := 23) (x := (-1)) dX12_feed_23 rfl ?_
    exact mm_iret (pc := 24) dX12_feed_24 rfl (Nat.le_refl 0) (Nat.le_refl 0) ⟨_, rfl, rfl, hG, h⟩
set_option maxRecDepth 100000 in
set_option maxHeartbeats 4000000 in
theorem lX12_feed_28 {d : Nat} {x1 : Int32} {x2 : Int32} {x3 : Int32} {x4 : Int32} {x5 : Int32} {M : mm_M} {K : Int32 → mm_M → Prop} {y1 : Int32} {y2 : Int32} {y3 : Int32} {y4 : Int32} {y5 : Int32} {y6 : Int32} (hG : mm_G M.2.2) (h : if 20 ≤ y6 then (K (M.1 164 1) M) else (if 4 ≤ y6 then (if 8 ≤ y6 then (if 12 ≤ y6 then (if 16 ≤ y6 then (jX12_feed_81 d x1 x2 x3 x4 x5 M K y1 y2 y3 y4 y5 y6 y5) else (jX12_feed_81 d x1 x2 x3 x4 x5 M K y1 y2 y3 y4 y5 y6 y4)) else (jX12_feed_81 d x1 x2 x3 x4 x5 M K y1 y2 y3 y4 y5 y6 y3)) else (jX12_feed_81 d x1 x2 x3 x4 x5 M K y1 y2 y3 y4 y5 y6 y2)) else (jX12_feed_81 d x1 x2 x3 x4 x5 M K y1 y2 y3 y4 y5 y6 y1))) : jX12_feed_28 d x1 x2 x3 x4 x5 M K y1 y2 y3 y4 y5 y6 := by
  unfold jX12_feed_28
  refine mm_iload (pc := 28) (j := 6) dX12_feed_28 rfl ?_
  refine mm_bipush (pc := 30) (x := 20) dX12_feed_30 rfl ?_
  refine mm_icmp_ge (pc := 32) (tgt := 124) dX12_feed_32 (by decide) (fun hc => ?_) (fun hc => ?_)
  · have h := mm_ift hc h
    refine mm_aload_n (pc := 124) (j := 0) dX12_feed_124 rfl rfl ?_
    refine mm_getI (pc := 125) (ci := 12) (N := 116) dX12_feed_125 fX12_257 sh_164 rfl ?_
    exact mm_iret (pc := 128) dX12_feed_128 rfl (Nat.le_refl 0) (Nat.le_refl 0) ⟨_, rfl, rfl, hG, h⟩
  · have h := mm_iff hc h
    refine mm_iload (pc := 35) (j := 6) dX12_feed_35 rfl ?_
    refine mm_iconst (pc := 37) (x := 4) dX12_feed_37 rfl ?_
    refine mm_icmp_ge (pc := 38) (tgt := 45) dX12_feed_38 (by decide) (fun hc => ?_) (fun hc => ?_)
    · have h := mm_ift hc h
      refine mm_iload (pc := 45) (j := 6) dX12_feed_45 rfl ?_
      refine mm_bipush (pc := 47) (x := 8) dX12_feed_47 rfl ?_
      refine mm_icmp_ge (pc := 49) (tgt := 56) dX12_feed_49 (by decide) (fun hc => ?_) (fun hc => ?_)
      · have h := mm_ift hc h
        refine mm_iload (pc := 56) (j := 6) dX12_feed_56 rfl ?_
        refine mm_bipush (pc := 58) (x := 12) dX12_feed_58 rfl ?_
        refine mm_icmp_ge (pc := 60) (tgt := 67) dX12_feed_60 (by decide) (fun hc => ?_) (fun hc => ?_)
        · have h := mm_ift hc h
          refine mm_iload (pc := 67) (j := 6) dX12_feed_67 rfl ?_
          refine mm_bipush (pc := 69) (x := 16) dX12_feed_69 rfl ?_
          refine mm_icmp_ge (pc := 71) (tgt := 79) dX12_feed_71 (by decide) (fun hc => ?_) (fun hc => ?_)
          · have h := mm_ift hc h
            refine mm_iload (pc := 79) (j := 5) dX12_feed_79 rfl ?_
            exact h
          · have h := mm_iff hc h
            refine mm_iload (pc := 74) (j := 4) dX12_feed_74 rfl ?_
            refine mm_goto (pc := 76) (tgt := 81) dX12_feed_76 (by decide) ?_
            exact h
        · have h := mm_iff hc h
          refine mm_iload_n (pc := 63) (j := 3) dX12_feed_63 rfl rfl ?_
          refine mm_goto (pc := 64) (tgt := 81) dX12_feed_64 (by decide) ?_
          exact h
      · have h := mm_iff hc h
        refine mm_iload_n (pc := 52) (j := 2) dX12_feed_52 rfl rfl ?_
        refine mm_goto (pc := 53) (tgt := 81) dX12_feed_53 (by decide) ?_
        exact h
    · have h := mm_iff hc h
      refine mm_iload_n (pc := 41) (j := 1) dX12_feed_41 rfl rfl ?_
      refine mm_goto (pc := 42) (tgt := 81) dX12_feed_42 (by decide) ?_
      exact h
set_option maxRecDepth 100000 in
set_option maxHeartbeats 4000000 in
theorem lX12_feed_81 {d : Nat} {x1 : Int32} {x2 : Int32} {x3 : Int32} {x4 : Int32} {x5 : Int32} {M : mm_M} {K : Int32 → mm_M → Prop} {y1 : Int32} {y2 : Int32} {y3 : Int32} {y4 : Int32} {y5 : Int32} {y6 : Int32} {u0 : Int32} (hG : mm_G M.2.2) (h : vp_in (M.1 164 1) 1600 ∧ jX12_feed_28 d x1 x2 x3 x4 x5 (mm_uI (mm_uI M 165 (M.1 164 1).toNatClampNeg ((u0 >>> ((8 * (3 - (y6 - y6 / 4 * 4))) &&& 31)) &&& 255)) 164 1 (((mm_uI M 165 (M.1 164 1).toNatClampNeg ((u0 >>> ((8 * (3 - (y6 - y6 / 4 * 4))) &&& 31)) &&& 255)).1 164 1) + 1)) K y1 y2 y3 y4 y5 (y6 + 1)) : jX12_feed_81 d x1 x2 x3 x4 x5 M K y1 y2 y3 y4 y5 y6 u0 := by
  unfold jX12_feed_81
  refine mm_istore (pc := 81) (lv' := [(7, .int u0), (0, .ref 164), (1, .int y1), (2, .int y2), (3, .int y3), (4, .int y4), (5, .int y5), (6, .int y6)]) dX12_feed_81 (by decide) rfl ?_
  refine mm_aload_n (pc := 83) (j := 1) dX12_feed_83 rfl rfl ?_
  refine mm_getR (pc := 84) (ci := 12) (N := 116) (r := 165) dX12_feed_84 fX12_7 sh_164 rfl (g_164_0 hG) ?_
  refine mm_aload_n (pc := 87) (j := 1) dX12_feed_87 rfl rfl ?_
  refine mm_getI (pc := 88) (ci := 12) (N := 116) dX12_feed_88 fX12_257 sh_164 rfl ?_
  refine mm_iload (pc := 91) (j := 0) dX12_feed_91 rfl ?_
  refine mm_bipush (pc := 93) (x := 8) dX12_feed_93 rfl ?_
  refine mm_iconst (pc := 95) (x := 3) dX12_feed_95 rfl ?_
  refine mm_iload (pc := 96) (j := 7) dX12_feed_96 rfl ?_
  refine mm_iconst (pc := 98) (x := 4) dX12_feed_98 rfl ?_
  refine mm_irem (pc := 99) dX12_feed_99 (by decide) ?_
  refine mm_isub (pc := 100) dX12_feed_100 ?_
  refine mm_imul (pc := 101) dX12_feed_101 ?_
  refine mm_ishr (pc := 102) dX12_feed_102 ?_
  refine mm_sipush (pc := 103) (x := 255) dX12_feed_103 rfl ?_
  refine mm_iand (pc := 106) dX12_feed_106 ?_
  obtain ⟨hi107, h⟩ := h
  refine mm_iastore (pc := 107) (N := 1600) dX12_feed_107 sh_165 hi107 ?_
  refine mm_aload_n (pc := 108) (j := 1) dX12_feed_108 rfl rfl ?_
  refine mm_dup (pc := 109) dX12_feed_109 rfl ?_
  refine mm_getI (pc := 110) (ci := 12) (N := 116) dX12_feed_110 fX12_257 sh_164 rfl ?_
  refine mm_iconst (pc := 113) (x := 1) dX12_feed_113 rfl ?_
  refine mm_iadd (pc := 114) dX12_feed_114 ?_
  refine mm_putI (pc := 115) (ci := 12) (N := 116) dX12_feed_115 fX12_257 sh_164 (by decide +kernel) rfl rfl rfl ?_
  refine mm_iinc (pc := 118) (j := 7) (v := y6 + 1) (lv' := [(6, .int (y6 + 1)), (7, .int u0), (0, .ref 164), (1, .int y1), (2, .int y2), (3, .int y3), (4, .int y4), (5, .int y5)]) dX12_feed_118 rfl rfl (by decide) rfl ?_
  refine mm_goto (pc := 121) (tgt := 28) dX12_feed_121 (by decide) ?_
  exact mm_sub [2, 3, 4, 5, 6, 7, 0] rfl h
set_option maxRecDepth 100000 in
set_option maxHeartbeats 4000000 in
theorem rX12_end {d : Nat} {x1 : Int32} {M : mm_M} {K : Int32 → mm_M → Prop} (hG : mm_G M.2.2) (h : if x1 < 0 then (K 0 (mm_uI M 166 (0 : Int32).toNatClampNeg ((M.1 166 (0 : Int32).toNatClampNeg) + 1))) else (if x1 ≤ (M.1 164 1) then (K 1 (mm_uI M 164 1 x1)) else (K 0 (mm_uI M 166 (0 : Int32).toNatClampNeg ((M.1 166 (0 : Int32).toNatClampNeg) + 1))))) : mm_CI mX12_end d [.ref 164, .int x1] M K := by
  show mm_W mX12_end d 0 0 0 [(0, .ref 164), (1, .int x1)] [] mm_SH M 0 0 (mm_PI K)
  refine mm_iload_n (pc := 0) (j := 1) dX12_end_0 rfl rfl ?_
  refine mm_if_lt (pc := 1) (tgt := 12) dX12_end_1 (by decide) (fun hc => ?_) (fun hc => ?_)
  · have h := mm_ift hc h
    refine mm_aload_n (pc := 12) (j := 0) dX12_end_12 rfl rfl ?_
    refine mm_getR (pc := 13) (ci := 12) (N := 116) (r := 166) dX12_end_13 fX12_17 sh_164 rfl (g_164_9 hG) ?_
    refine mm_iconst (pc := 16) (x := 0) dX12_end_16 rfl ?_
    refine mm_dup2 (pc := 17) dX12_end_17 rfl rfl ?_
    refine mm_iaload (pc := 18) (N := 6) dX12_end_18 sh_166 (mm_vin (k := 0) rfl (by decide) (by decide)) ?_
    refine mm_iconst (pc := 19) (x := 1) dX12_end_19 rfl ?_
    refine mm_iadd (pc := 20) dX12_end_20 ?_
    refine mm_iastore (pc := 21) (N := 6) dX12_end_21 sh_166 (mm_vin (k := 0) rfl (by decide) (by decide)) ?_
    refine mm_iconst (pc := 22) (x := 0) dX12_end_22 rfl ?_
    exact mm_zret (pc := 23) dX12_end_23 rfl rfl (Nat.le_refl 0) (Nat.le_refl 0) ⟨_, rfl, rfl, hG, h⟩
  · have h := mm_iff hc h
    refine mm_iload_n (pc := 4) (j := 1) dX12_end_4 rfl rfl ?_
    refine mm_aload_n (pc := 5) (j := 0) dX12_end_5 rfl rfl ?_
    refine mm_getI (pc := 6) (ci := 12) (N := 116) dX12_end_6 fX12_257 sh_164 rfl ?_
    refine mm_icmp_le (pc := 9) (tgt := 24) dX12_end_9 (by decide) (fun hc => ?_) (fun hc => ?_)
    · have h := mm_ift hc h
      refine mm_aload_n (pc := 24) (j := 0) dX12_end_24 rfl rfl ?_
      refine mm_iload_n (pc := 25) (j := 1) dX12_end_25 rfl rfl ?_
      refine mm_putI (pc := 26) (ci := 12) (N := 116) dX12_end_26 fX12_257 sh_164 (by decide +kernel) rfl rfl rfl ?_
      refine mm_iconst (pc := 29) (x := 1) dX12_end_29 rfl ?_
      exact mm_zret (pc := 30) dX12_end_30 rfl rfl (Nat.le_refl 0) (Nat.le_refl 0) ⟨_, rfl, rfl, hG, h⟩
    · have h := mm_iff hc h
      refine mm_aload_n (pc := 12) (j := 0) dX12_end_12 rfl rfl ?_
      refine mm_getR (pc := 13) (ci := 12) (N := 116) (r := 166) dX12_end_13 fX12_17 sh_164 rfl (g_164_9 hG) ?_
      refine mm_iconst (pc := 16) (x := 0) dX12_end_16 rfl ?_
      refine mm_dup2 (pc := 17) dX12_end_17 rfl rfl ?_
      refine mm_iaload (pc := 18) (N := 6) dX12_end_18 sh_166 (mm_vin (k := 0) rfl (by decide) (by decide)) ?_
      refine mm_iconst (pc := 19) (x := 1) dX12_end_19 rfl ?_
      refine mm_iadd (pc := 20) dX12_end_20 ?_
      refine mm_iastore (pc := 21) (N := 6) dX12_end_21 sh_166 (mm_vin (k := 0) rfl (by decide) (by decide)) ?_
      refine mm_iconst (pc := 22) (x := 0) dX12_end_22 rfl ?_
      exact mm_zret (pc := 23) dX12_end_23 rfl rfl (Nat.le_refl 0) (Nat.le_refl 0) ⟨_, rfl, rfl, hG, h⟩
set_option maxRecDepth 100000 in
set_option maxHeartbeats 4000000 in
theorem rX12_fail {d : Nat} {x1 : Int32} {x2 : Int32} {M : mm_M} {K : mm_M → Prop} (hG : mm_G M.2.2) (h : if (M.1 164 5) = 0 then (K (mm_uI (mm_uI M 164 5 x1) 164 6 x2)) else (K M)) : mm_CV mX12_fail d [.ref 164, .int x1, .int x2] M K := by
  show mm_W mX12_fail d 0 0 0 [(0, .ref 164), (1, .int x1), (2, .int x2)] [] mm_SH M 0 0 (mm_PV K)
  refine mm_aload_n (pc := 0) (j := 0) dX12_fail_0 rfl rfl ?_
  refine mm_getI (pc := 1) (ci := 12) (N := 116) dX12_fail_1 fX12_260 sh_164 rfl ?_
  refine mm_if_eq (pc := 4) (tgt := 8) dX12_fail_4 (by decide) (fun hc => ?_) (fun hc => ?_)
  · have h := mm_ift hc h
    refine mm_aload_n (pc := 8) (j := 0) dX12_fail_8 rfl rfl ?_
    refine mm_iload_n (pc := 9) (j := 1) dX12_fail_9 rfl rfl ?_
    refine mm_putI (pc := 10) (ci := 12) (N := 116) dX12_fail_10 fX12_260 sh_164 (by decide +kernel) rfl rfl rfl ?_
    refine mm_aload_n (pc := 13) (j := 0) dX12_fail_13 rfl rfl ?_
    refine mm_iload_n (pc := 14) (j := 2) dX12_fail_14 rfl rfl ?_
    refine mm_putI (pc := 15) (ci := 12) (N := 116) dX12_fail_15 fX12_263 sh_164 (by decide +kernel) rfl rfl rfl ?_
    exact mm_vret (pc := 18) dX12_fail_18 rfl (Nat.le_refl 0) (Nat.le_refl 0) ⟨rfl, rfl, hG, h⟩
  · have h := mm_iff hc h
    exact mm_vret (pc := 7) dX12_fail_7 rfl (Nat.le_refl 0) (Nat.le_refl 0) ⟨rfl, rfl, hG, h⟩
set_option maxRecDepth 100000 in
set_option maxHeartbeats 4000000 in
theorem rX12_isLetter {d : Nat} {x0 : Int32} {M : mm_M} {K : Int32 → mm_M → Prop} (hG : mm_G M.2.2) (h : if x0 < 97 then (K 0 M) else (if 122 < x0 then (K 0 M) else (K 1 M))) : mm_CI mX12_isLetter d [.int x0] M K := by
  show mm_W mX12_isLetter d 0 0 0 [(0, .int x0)] [] mm_SH M 0 0 (mm_PI K)
  refine mm_iload_n (pc := 0) (j := 0) dX12_isLetter_0 rfl rfl ?_
  refine mm_bipush (pc := 1) (x := 97) dX12_isLetter_1 rfl ?_
  refine mm_icmp_lt (pc := 3) (tgt := 16) dX12_isLetter_3 (by decide) (fun hc => ?_) (fun hc => ?_)
  · have h := mm_ift hc h
    refine mm_iconst (pc := 16) (x := 0) dX12_isLetter_16 rfl ?_
    exact mm_zret (pc := 17) dX12_isLetter_17 rfl rfl (Nat.le_refl 0) (Nat.le_refl 0) ⟨_, rfl, rfl, hG, h⟩
  · have h := mm_iff hc h
    refine mm_iload_n (pc := 6) (j := 0) dX12_isLetter_6 rfl rfl ?_
    refine mm_bipush (pc := 7) (x := 122) dX12_isLetter_7 rfl ?_
    refine mm_icmp_gt (pc := 9) (tgt := 16) dX12_isLetter_9 (by decide) (fun hc => ?_) (fun hc => ?_)
    · have h := mm_ift hc h
      refine mm_iconst (pc := 16) (x := 0) dX12_isLetter_16 rfl ?_
      exact mm_zret (pc := 17) dX12_isLetter_17 rfl rfl (Nat.le_refl 0) (Nat.le_refl 0) ⟨_, rfl, rfl, hG, h⟩
    · have h := mm_iff hc h
      refine mm_iconst (pc := 12) (x := 1) dX12_isLetter_12 rfl ?_
      refine mm_goto (pc := 13) (tgt := 17) dX12_isLetter_13 (by decide) ?_
      exact mm_zret (pc := 17) dX12_isLetter_17 rfl rfl (Nat.le_refl 0) (Nat.le_refl 0) ⟨_, rfl, rfl, hG, h⟩
set_option maxRecDepth 100000 in
set_option maxHeartbeats 4000000 in
theorem rX12_isDigit {d : Nat} {x0 : Int32} {M : mm_M} {K : Int32 → mm_M → Prop} (hG : mm_G M.2.2) (h : if x0 < 48 then (K 0 M) else (if 57 < x0 then (K 0 M) else (K 1 M))) : mm_CI mX12_isDigit d [.int x0] M K := by
  show mm_W mX12_isDigit d 0 0 0 [(0, .int x0)] [] mm_SH M 0 0 (mm_PI K)
  refine mm_iload_n (pc := 0) (j := 0) dX12_isDigit_0 rfl rfl ?_
  refine mm_bipush (pc := 1) (x := 48) dX12_isDigit_1 rfl ?_
  refine mm_icmp_lt (pc := 3) (tgt := 16) dX12_isDigit_3 (by decide) (fun hc => ?_) (fun hc => ?_)
  · have h := mm_ift hc h
    refine mm_iconst (pc := 16) (x := 0) dX12_isDigit_16 rfl ?_
    exact mm_zret (pc := 17) dX12_isDigit_17 rfl rfl (Nat.le_refl 0) (Nat.le_refl 0) ⟨_, rfl, rfl, hG, h⟩
  · have h := mm_iff hc h
    refine mm_iload_n (pc := 6) (j := 0) dX12_isDigit_6 rfl rfl ?_
    refine mm_bipush (pc := 7) (x := 57) dX12_isDigit_7 rfl ?_
    refine mm_icmp_gt (pc := 9) (tgt := 16) dX12_isDigit_9 (by decide) (fun hc => ?_) (fun hc => ?_)
    · have h := mm_ift hc h
      refine mm_iconst (pc := 16) (x := 0) dX12_isDigit_16 rfl ?_
      exact mm_zret (pc := 17) dX12_isDigit_17 rfl rfl (Nat.le_refl 0) (Nat.le_refl 0) ⟨_, rfl, rfl, hG, h⟩
    · have h := mm_iff hc h
      refine mm_iconst (pc := 12) (x := 1) dX12_isDigit_12 rfl ?_
      refine mm_goto (pc := 13) (tgt := 17) dX12_isDigit_13 (by decide) ?_
      exact mm_zret (pc := 17) dX12_isDigit_17 rfl rfl (Nat.le_refl 0) (Nat.le_refl 0) ⟨_, rfl, rfl, hG, h⟩
def jX12_look_0 (d : Nat) (M : mm_M) (K : Int32 → mm_M → Prop) : Prop := mm_W mX12_look d 0 0 0 [(0, .ref 164)] [] mm_SH M 0 0 (mm_PI K)
set_option maxRecDepth 100000 in
set_option maxHeartbeats 4000000 in
theorem rX12_look {d : Nat} {M : mm_M} {K : Int32 → mm_M → Prop} (hG : mm_G M.2.2) (h : if (M.1 164 3) ≤ (M.1 164 2) then (if (M.1 164 3) ≤ (M.1 164 2) then (K (-1) M) else (vp_in (M.1 164 2) 1600 ∧ K (M.1 165 (M.1 164 2).toNatClampNeg) M)) else (vp_in (M.1 164 2) 1600 ∧ if (M.1 165 (M.1 164 2).toNatClampNeg) = 10 then (jX12_look_0 d (mm_uI M 164 2 ((M.1 164 2) + 1)) K) else (vp_in (M.1 164 2) 1600 ∧ if (M.1 165 (M.1 164 2).toNatClampNeg) = 32 then (jX12_look_0 d (mm_uI M 164 2 ((M.1 164 2) + 1)) K) else (if (M.1 164 3) ≤ (M.1 164 2) then (K (-1) M) else (vp_in (M.1 164 2) 1600 ∧ K (M.1 165 (M.1 164 2).toNatClampNeg) M))))) : mm_CI mX12_look d [.ref 164] M K := by
  show mm_W mX12_look d 0 0 0 [(0, .ref 164)] [] mm_SH M 0 0 (mm_PI K)
  refine mm_aload_n (pc := 0) (j := 0) dX12_look_0 rfl rfl ?_
  refine mm_getI (pc := 1) (ci := 12) (N := 116) dX12_look_1 fX12_266 sh_164 rfl ?_
  refine mm_aload_n (pc := 4) (j := 0) dX12_look_4 rfl rfl ?_
  refine mm_getI (pc := 5) (ci := 12) (N := 116) dX12_look_5 fX12_269 sh_164 rfl ?_
  refine mm_icmp_ge (pc := 8) (tgt := 52) dX12_look_8 (by decide) (fun hc => ?_) (fun hc => ?_)
  · have h := mm_ift hc h
    refine mm_aload_n (pc := 52) (j := 0) dX12_look_52 rfl rfl ?_
    refine mm_getI (pc := 53) (ci := 12) (N := 116) dX12_look_53 fX12_266 sh_164 rfl ?_
    refine mm_aload_n (pc := 56) (j := 0) dX12_look_56 rfl rfl ?_
    refine mm_getI (pc := 57) (ci := 12) (N := 116) dX12_look_57 fX12_269 sh_164 rfl ?_
    refine mm_icmp_ge (pc := 60) (tgt := 75) dX12_look_60 (by decide) (fun hc => ?_) (fun hc => ?_)
    · have h := mm_ift hc h
      refine mm_iconst (pc := 75) (x := (-1)) dX12_look_75 rfl ?_
      exact mm_iret (pc := 76) dX12_look_76 rfl (Nat.le_refl 0) (Nat.le_refl 0) ⟨_, rfl, rfl, hG, h⟩
    · have h := mm_iff hc h
      refine mm_aload_n (pc := 63) (j := 0) dX12_look_63 rfl rfl ?_
      refine mm_getR (pc := 64) (ci := 12) (N := 116) (r := 165) dX12_look_64 fX12_7 sh_164 rfl (g_164_0 hG) ?_
      refine mm_aload_n (pc := 67) (j := 0) dX12_look_67 rfl rfl ?_
      refine mm_getI (pc := 68) (ci := 12) (N := 116) dX12_look_68 fX12_266 sh_164 rfl ?_
      obtain ⟨hi71, h⟩ := h
      refine mm_iaload (pc := 71) (N := 1600) dX12_look_71 sh_165 hi71 ?_
      refine mm_goto (pc := 72) (tgt := 76) dX12_look_72 (by decide) ?_
      exact mm_iret (pc := 76) dX12_look_76 rfl (Nat.le_refl 0) (Nat.le_refl 0) ⟨_, rfl, rfl, hG, h⟩
  · have h := mm_iff hc h
    refine mm_aload_n (pc := 11) (j := 0) dX12_look_11 rfl rfl ?_
    refine mm_getR (pc := 12) (ci := 12) (N := 116) (r := 165) dX12_look_12 fX12_7 sh_164 rfl (g_164_0 hG) ?_
    refine mm_aload_n (pc := 15) (j := 0) dX12_look_15 rfl rfl ?_
    refine mm_getI (pc := 16) (ci := 12) (N := 116) dX12_look_16 fX12_266 sh_164 rfl ?_
    obtain ⟨hi19, h⟩ := h
    refine mm_iaload (pc := 19) (N := 1600) dX12_look_19 sh_165 hi19 ?_
    refine mm_bipush (pc := 20) (x := 10) dX12_look_20 rfl ?_
    refine mm_icmp_eq (pc := 22) (tgt := 39) dX12_look_22 (by decide) (fun hc => ?_) (fun hc => ?_)
    · have h := mm_ift hc h
      refine mm_aload_n (pc := 39) (j := 0) dX12_look_39 rfl rfl ?_
      refine mm_dup (pc := 40) dX12_look_40 rfl ?_
      refine mm_getI (pc := 41) (ci := 12) (N := 116) dX12_look_41 fX12_266 sh_164 rfl ?_
      refine mm_iconst (pc := 44) (x := 1) dX12_look_44 rfl ?_
      refine mm_iadd (pc := 45) dX12_look_45 ?_
      refine mm_putI (pc := 46) (ci := 12) (N := 116) dX12_look_46 fX12_266 sh_164 (by decide +kernel) rfl rfl rfl ?_
      refine mm_goto (pc := 49) (tgt := 0) dX12_look_49 (by decide) ?_
      exact h
    · have h := mm_iff hc h
      refine mm_aload_n (pc := 25) (j := 0) dX12_look_25 rfl rfl ?_
      refine mm_getR (pc := 26) (ci := 12) (N := 116) (r := 165) dX12_look_26 fX12_7 sh_164 rfl (g_164_0 hG) ?_
      refine mm_aload_n (pc := 29) (j := 0) dX12_look_29 rfl rfl ?_
      refine mm_getI (pc := 30) (ci := 12) (N := 116) dX12_look_30 fX12_266 sh_164 rfl ?_
      obtain ⟨hi33, h⟩ := h
      refine mm_iaload (pc := 33) (N := 1600) dX12_look_33 sh_165 hi33 ?_
      refine mm_bipush (pc := 34) (x := 32) dX12_look_34 rfl ?_
      refine mm_icmp_ne (pc := 36) (tgt := 52) dX12_look_36 (by decide) (fun hc => ?_) (fun hc => ?_)
      · have h := mm_iff hc h
        refine mm_aload_n (pc := 52) (j := 0) dX12_look_52 rfl rfl ?_
        refine mm_getI (pc := 53) (ci := 12) (N := 116) dX12_look_53 fX12_266 sh_164 rfl ?_
        refine mm_aload_n (pc := 56) (j := 0) dX12_look_56 rfl rfl ?_
        refine mm_getI (pc := 57) (ci := 12) (N := 116) dX12_look_57 fX12_269 sh_164 rfl ?_
        refine mm_icmp_ge (pc := 60) (tgt := 75) dX12_look_60 (by decide) (fun hc => ?_) (fun hc => ?_)
        · have h := mm_ift hc h
          refine mm_iconst (pc := 75) (x := (-1)) dX12_look_75 rfl ?_
          exact mm_iret (pc := 76) dX12_look_76 rfl (Nat.le_refl 0) (Nat.le_refl 0) ⟨_, rfl, rfl, hG, h⟩
        · have h := mm_iff hc h
          refine mm_aload_n (pc := 63) (j := 0) dX12_look_63 rfl rfl ?_
          refine mm_getR (pc := 64) (ci := 12) (N := 116) (r := 165) dX12_look_64 fX12_7 sh_164 rfl (g_164_0 hG) ?_
          refine mm_aload_n (pc := 67) (j := 0) dX12_look_67 rfl rfl ?_
          refine mm_getI (pc := 68) (ci := 12) (N := 116) dX12_look_68 fX12_266 sh_164 rfl ?_
          obtain ⟨hi71, h⟩ := h
          refine mm_iaload (pc := 71) (N := 1600) dX12_look_71 sh_165 hi71 ?_
          refine mm_goto (pc := 72) (tgt := 76) dX12_look_72 (by decide) ?_
          exact mm_iret (pc := 76) dX12_look_76 rfl (Nat.le_refl 0) (Nat.le_refl 0) ⟨_, rfl, rfl, hG, h⟩
      · have h := mm_ift hc h
        refine mm_aload_n (pc := 39) (j := 0) dX12_look_39 rfl rfl ?_
        refine mm_dup (pc := 40) dX12_look_40 rfl ?_
        refine mm_getI (pc := 41) (ci := 12) (N := 116) dX12_look_41 fX12_266 sh_164 rfl ?_
        refine mm_iconst (pc := 44) (x := 1) dX12_look_44 rfl ?_
        refine mm_iadd (pc := 45) dX12_look_45 ?_
        refine mm_putI (pc := 46) (ci := 12) (N := 116) dX12_look_46 fX12_266 sh_164 (by decide +kernel) rfl rfl rfl ?_
        refine mm_goto (pc := 49) (tgt := 0) dX12_look_49 (by decide) ?_
        exact h
set_option maxRecDepth 100000 in
set_option maxHeartbeats 4000000 in
theorem lX12_look_0 {d : Nat} {M : mm_M} {K : Int32 → mm_M → Prop} (hG : mm_G M.2.2) (h : if (M.1 164 3) ≤ (M.1 164 2) then (if (M.1 164 3) ≤ (M.1 164 2) then (K (-1) M) else (vp_in (M.1 164 2) 1600 ∧ K (M.1 165 (M.1 164 2).toNatClampNeg) M)) else (vp_in (M.1 164 2) 1600 ∧ if (M.1 165 (M.1 164 2).toNatClampNeg) = 10 then (jX12_look_0 d (mm_uI M 164 2 ((M.1 164 2) + 1)) K) else (vp_in (M.1 164 2) 1600 ∧ if (M.1 165 (M.1 164 2).toNatClampNeg) = 32 then (jX12_look_0 d (mm_uI M 164 2 ((M.1 164 2) + 1)) K) else (if (M.1 164 3) ≤ (M.1 164 2) then (K (-1) M) else (vp_in (M.1 164 2) 1600 ∧ K (M.1 165 (M.1 164 2).toNatClampNeg) M))))) : jX12_look_0 d  M K  := by
  unfold jX12_look_0
  refine mm_aload_n (pc := 0) (j := 0) dX12_look_0 rfl rfl ?_
  refine mm_getI (pc := 1) (ci := 12) (N := 116) dX12_look_1 fX12_266 sh_164 rfl ?_
  refine mm_aload_n (pc := 4) (j := 0) dX12_look_4 rfl rfl ?_
  refine mm_getI (pc := 5) (ci := 12) (N := 116) dX12_look_5 fX12_269 sh_164 rfl ?_
  refine mm_icmp_ge (pc := 8) (tgt := 52) dX12_look_8 (by decide) (fun hc => ?_) (fun hc => ?_)
  · have h := mm_ift hc h
    refine mm_aload_n (pc := 52) (j := 0) dX12_look_52 rfl rfl ?_
    refine mm_getI (pc := 53) (ci := 12) (N := 116) dX12_look_53 fX12_266 sh_164 rfl ?_
    refine mm_aload_n (pc := 56) (j := 0) dX12_look_56 rfl rfl ?_
    refine mm_getI (pc := 57) (ci := 12) (N := 116) dX12_look_57 fX12_269 sh_164 rfl ?_
    refine mm_icmp_ge (pc := 60) (tgt := 75) dX12_look_60 (by decide) (fun hc => ?_) (fun hc => ?_)
    · have h := mm_ift hc h
      refine mm_iconst (pc := 75) (x := (-1)) dX12_look_75 rfl ?_
      exact mm_iret (pc := 76) dX12_look_76 rfl (Nat.le_refl 0) (Nat.le_refl 0) ⟨_, rfl, rfl, hG, h⟩
    · have h := mm_iff hc h
      refine mm_aload_n (pc := 63) (j := 0) dX12_look_63 rfl rfl ?_
      refine mm_getR (pc := 64) (ci := 12) (N := 116) (r := 165) dX12_look_64 fX12_7 sh_164 rfl (g_164_0 hG) ?_
      refine mm_aload_n (pc := 67) (j := 0) dX12_look_67 rfl rfl ?_
      refine mm_getI (pc := 68) (ci := 12) (N := 116) dX12_look_68 fX12_266 sh_164 rfl ?_
      obtain ⟨hi71, h⟩ := h
      refine mm_iaload (pc := 71) (N := 1600) dX12_look_71 sh_165 hi71 ?_
      refine mm_goto (pc := 72) (tgt := 76) dX12_look_72 (by decide) ?_
      exact mm_iret (pc := 76) dX12_look_76 rfl (Nat.le_refl 0) (Nat.le_refl 0) ⟨_, rfl, rfl, hG, h⟩
  · have h := mm_iff hc h
    refine mm_aload_n (pc := 11) (j := 0) dX12_look_11 rfl rfl ?_
    refine mm_getR (pc := 12) (ci := 12) (N := 116) (r := 165) dX12_look_12 fX12_7 sh_164 rfl (g_164_0 hG) ?_
    refine mm_aload_n (pc := 15) (j := 0) dX12_look_15 rfl rfl ?_
    refine mm_getI (pc := 16) (ci := 12) (N := 116) dX12_look_16 fX12_266 sh_164 rfl ?_
    obtain ⟨hi19, h⟩ := h
    refine mm_iaload (pc := 19) (N := 1600) dX12_look_19 sh_165 hi19 ?_
    refine mm_bipush (pc := 20) (x := 10) dX12_look_20 rfl ?_
    refine mm_icmp_eq (pc := 22) (tgt := 39) dX12_look_22 (by decide) (fun hc => ?_) (fun hc => ?_)
    · have h := mm_ift hc h
      refine mm_aload_n (pc := 39) (j := 0) dX12_look_39 rfl rfl ?_
      refine mm_dup (pc := 40) dX12_look_40 rfl ?_
      refine mm_getI (pc := 41) (ci := 12) (N := 116) dX12_look_41 fX12_266 sh_164 rfl ?_
      refine mm_iconst (pc := 44) (x := 1) dX12_look_44 rfl ?_
      refine mm_iadd (pc := 45) dX12_look_45 ?_
      refine mm_putI (pc := 46) (ci := 12) (N := 116) dX12_look_46 fX12_266 sh_164 (by decide +kernel) rfl rfl rfl ?_
      refine mm_goto (pc := 49) (tgt := 0) dX12_look_49 (by decide) ?_
      exact h
    · have h := mm_iff hc h
      refine mm_aload_n (pc := 25) (j := 0) dX12_look_25 rfl rfl ?_
      refine mm_getR (pc := 26) (ci := 12) (N := 116) (r := 165) dX12_look_26 fX12_7 sh_164 rfl (g_164_0 hG) ?_
      refine mm_aload_n (pc := 29) (j := 0) dX12_look_29 rfl rfl ?_
      refine mm_getI (pc := 30) (ci := 12) (N := 116) dX12_look_30 fX12_266 sh_164 rfl ?_
      obtain ⟨hi33, h⟩ := h
      refine mm_iaload (pc := 33) (N := 1600) dX12_look_33 sh_165 hi33 ?_
      refine mm_bipush (pc := 34) (x := 32) dX12_look_34 rfl ?_
      refine mm_icmp_ne (pc := 36) (tgt := 52) dX12_look_36 (by decide) (fun hc => ?_) (fun hc => ?_)
      · have h := mm_iff hc h
        refine mm_aload_n (pc := 52) (j := 0) dX12_look_52 rfl rfl ?_
        refine mm_getI (pc := 53) (ci := 12) (N := 116) dX12_look_53 fX12_266 sh_164 rfl ?_
        refine mm_aload_n (pc := 56) (j := 0) dX12_look_56 rfl rfl ?_
        refine mm_getI (pc := 57) (ci := 12) (N := 116) dX12_look_57 fX12_269 sh_164 rfl ?_
        refine mm_icmp_ge (pc := 60) (tgt := 75) dX12_look_60 (by decide) (fun hc => ?_) (fun hc => ?_)
        · have h := mm_ift hc h
          refine mm_iconst (pc := 75) (x := (-1)) dX12_look_75 rfl ?_
          exact mm_iret (pc := 76) dX12_look_76 rfl (Nat.le_refl 0) (Nat.le_refl 0) ⟨_, rfl, rfl, hG, h⟩
        · have h := mm_iff hc h
          refine mm_aload_n (pc := 63) (j := 0) dX12_look_63 rfl rfl ?_
          refine mm_getR (pc := 64) (ci := 12) (N := 116) (r := 165) dX12_look_64 fX12_7 sh_164 rfl (g_164_0 hG) ?_
          refine mm_aload_n (pc := 67) (j := 0) dX12_look_67 rfl rfl ?_
          refine mm_getI (pc := 68) (ci := 12) (N := 116) dX12_look_68 fX12_266 sh_164 rfl ?_
          obtain ⟨hi71, h⟩ := h
          refine mm_iaload (pc := 71) (N := 1600) dX12_look_71 sh_165 hi71 ?_
          refine mm_goto (pc := 72) (tgt := 76) dX12_look_72 (by decide) ?_
          exact mm_iret (pc := 76) dX12_look_76 rfl (Nat.le_refl 0) (Nat.le_refl 0) ⟨_, rfl, rfl, hG, h⟩
      · have h := mm_ift hc h
        refine mm_aload_n (pc := 39) (j := 0) dX12_look_39 rfl rfl ?_
        refine mm_dup (pc := 40) dX12_look_40 rfl ?_
        refine mm_getI (pc := 41) (ci := 12) (N := 116) dX12_look_41 fX12_266 sh_164 rfl ?_
        refine mm_iconst (pc := 44) (x := 1) dX12_look_44 rfl ?_
        refine mm_iadd (pc := 45) dX12_look_45 ?_
        refine mm_putI (pc := 46) (ci := 12) (N := 116) dX12_look_46 fX12_266 sh_164 (by decide +kernel) rfl rfl rfl ?_
        refine mm_goto (pc := 49) (tgt := 0) dX12_look_49 (by decide) ?_
        exact h
def jX12_isHere_35 (d : Nat) (r1 : Nat) (n1 : Nat) (M : mm_M) (K : Int32 → mm_M → Prop) (y2 : Int32) : Prop := mm_W mX12_isHere (d + 1) 0 0 35 [(0, .ref 164), (1, .ref r1), (2, .int y2)] [] mm_SH M 0 0 (mm_PI K)
def jX12_isHere_76 (d : Nat) (r1 : Nat) (n1 : Nat) (M : mm_M) (K : Int32 → mm_M → Prop) (y3 : Int32) : Prop := mm_W mX12_isHere (d + 1) 0 0 76 [(0, .ref 164), (1, .ref r1), (3, .int y3)] [] mm_SH M 0 0 (mm_PI K)
set_option maxRecDepth 100000 in
set_option maxHeartbeats 4000000 in
theorem rX12_isHere {d : Nat} {r1 : Nat} {n1 : Nat} {M : mm_M} {K : Int32 → mm_M → Prop} (hr1 : mm_SH[r1]? = some (2, n1)) (hG : mm_G M.2.2) (h : if (M.1 164 5) = 0 then (mm_CI mX12_look d [.ref 164] M (fun z8 m8 => mm_CI mX12_isLetter d [.int z8] m8 (fun z11 m11 => if z11 = 0 then (K 0 m11) else (if (m11.1 164 2) = (m11.1 164 4) then (K 0 m11) else (jX12_isHere_35 d r1 n1 m11 K (m11.1 164 2)))))) else (K 0 M)) : mm_CI mX12_isHere (d + 1) [.ref 164, .ref r1] M K := by
  show mm_W mX12_isHere (d + 1) 0 0 0 [(0, .ref 164), (1, .ref r1)] [] mm_SH M 0 0 (mm_PI K)
  refine mm_aload_n (pc := 0) (j := 0) dX12_isHere_0 rfl rfl ?_
  refine mm_getI (pc := 1) (ci := 12) (N := 116) dX12_isHere_1 fX12_260 sh_164 rfl ?_
  refine mm_if_ne (pc := 4) (tgt := 28) dX12_isHere_4 (by decide) (fun hc => ?_) (fun hc => ?_)
  · have h := mm_iff hc h
    refine mm_iconst (pc := 28) (x := 0) dX12_isHere_28 rfl ?_
    exact mm_zret (pc := 29) dX12_isHere_29 rfl rfl (Nat.le_refl 0) (Nat.le_refl 0) ⟨_, rfl, rfl, hG, h⟩
  · have h := mm_ift hc h
    refine mm_aload_n (pc := 7) (j := 0) dX12_isHere_7 rfl rfl ?_
    refine mm_kVI (pc := 8) [] dX12_isHere_8 kX12_272 rfl sh_164 (Nat.le_of_ble_eq_true rfl) (Nat.le_of_ble_eq_true rfl) h (fun z8 m8 hG h => ?_)
    refine mm_kSI (pc := 11) [.int z8] dX12_isHere_11 kX12_276 rfl (Nat.le_of_ble_eq_true rfl) (Nat.le_of_ble_eq_true rfl) h (fun z11 m11 hG h => ?_)
    refine mm_if_eq (pc := 14) (tgt := 28) dX12_isHere_14 (by decide) (fun hc => ?_) (fun hc => ?_)
    · have h := mm_ift hc h
      refine mm_iconst (pc := 28) (x := 0) dX12_isHere_28 rfl ?_
      exact mm_zret (pc := 29) dX12_isHere_29 rfl rfl (Nat.le_refl 0) (Nat.le_refl 0) ⟨_, rfl, rfl, hG, h⟩
    · have h := mm_iff hc h
      refine mm_aload_n (pc := 17) (j := 0) dX12_isHere_17 rfl rfl ?_
      refine mm_getI (pc := 18) (ci := 12) (N := 116) dX12_isHere_18 fX12_266 sh_164 rfl ?_
      refine mm_aload_n (pc := 21) (j := 0) dX12_isHere_21 rfl rfl ?_
      refine mm_getI (pc := 22) (ci := 12) (N := 116) dX12_isHere_22 fX12_280 sh_164 rfl ?_
      refine mm_icmp_ne (pc := 25) (tgt := 30) dX12_isHere_25 (by decide) (fun hc => ?_) (fun hc => ?_)
      · have h := mm_iff hc h
        refine mm_aload_n (pc := 30) (j := 0) dX12_isHere_30 rfl rfl ?_
        refine mm_getI (pc := 31) (ci := 12) (N := 116) dX12_isHere_31 fX12_266 sh_164 rfl ?_
        refine mm_istore_n (pc := 34) (lv' := [(2, .int (m11.1 164 2)), (0, .ref 164), (1, .ref r1)]) dX12_isHere_34 rfl (by decide) rfl ?_
        exact mm_sub [1, 2, 0] rfl h
      · have h := mm_ift hc h
        refine mm_iconst (pc := 28) (x := 0) dX12_isHere_28 rfl ?_
        exact mm_zret (pc := 29) dX12_isHere_29 rfl rfl (Nat.le_refl 0) (Nat.le_refl 0) ⟨_, rfl, rfl, hG, h⟩
set_option maxRecDepth 100000 in
set_option maxHeartbeats 4000000 in
theorem lX12_isHere_35 {d : Nat} {r1 : Nat} {n1 : Nat} {M : mm_M} {K : Int32 → mm_M → Prop} {y2 : Int32} (hr1 : mm_SH[r1]? = some (2, n1)) (hG : mm_G M.2.2) (h : if (M.1 164 3) ≤ y2 then (if (y2 - (M.1 164 2)) = (nI n1) then (jX12_isHere_76 d r1 n1 M K 0) else (K 0 M)) else (vp_in y2 1600 ∧ mm_CI mX12_isLetter d [.int (M.1 165 y2.toNatClampNeg)] M (fun z49 m49 => if z49 = 0 then (if (y2 - (m49.1 164 2)) = (nI n1) then (jX12_isHere_76 d r1 n1 m49 K 0) else (K 0 m49)) else (jX12_isHere_35 d r1 n1 m49 K (y2 + 1))))) : jX12_isHere_35 d r1 n1 M K y2 := by
  unfold jX12_isHere_35
  refine mm_iload_n (pc := 35) (j := 2) dX12_isHere_35 rfl rfl ?_
  refine mm_aload_n (pc := 36) (j := 0) dX12_isHere_36 rfl rfl ?_
  refine mm_getI (pc := 37) (ci := 12) (N := 116) dX12_isHere_37 fX12_269 sh_164 rfl ?_
  refine mm_icmp_ge (pc := 40) (tgt := 61) dX12_isHere_40 (by decide) (fun hc => ?_) (fun hc => ?_)
  · have h := mm_ift hc h
    refine mm_iload_n (pc := 61) (j := 2) dX12_isHere_61 rfl rfl ?_
    refine mm_aload_n (pc := 62) (j := 0) dX12_isHere_62 rfl rfl ?_
    refine mm_getI (pc := 63) (ci := 12) (N := 116) dX12_isHere_63 fX12_266 sh_164 rfl ?_
    refine mm_isub (pc := 66) dX12_isHere_66 ?_
    refine mm_aload_n (pc := 67) (j := 1) dX12_isHere_67 rfl rfl ?_
    refine mm_alen (pc := 68) (t := 2) (N := n1) dX12_isHere_68 hr1 (by decide) ?_
    refine mm_icmp_eq (pc := 69) (tgt := 74) dX12_isHere_69 (by decide) (fun hc => ?_) (fun hc => ?_)
    · have h := mm_ift hc h
      refine mm_iconst (pc := 74) (x := 0) dX12_isHere_74 rfl ?_
      refine mm_istore_n (pc := 75) (lv' := [(3, .int 0), (0, .ref 164), (1, .ref r1), (2, .int y2)]) dX12_isHere_75 rfl (by decide) rfl ?_
      exact mm_sub [1, 2, 0] rfl h
    · have h := mm_iff hc h
      refine mm_iconst (pc := 72) (x := 0) dX12_isHere_72 rfl ?_
      exact mm_zret (pc := 73) dX12_isHere_73 rfl rfl (Nat.le_refl 0) (Nat.le_refl 0) ⟨_, rfl, rfl, hG, h⟩
  · have h := mm_iff hc h
    refine mm_aload_n (pc := 43) (j := 0) dX12_isHere_43 rfl rfl ?_
    refine mm_getR (pc := 44) (ci := 12) (N := 116) (r := 165) dX12_isHere_44 fX12_7 sh_164 rfl (g_164_0 hG) ?_
    refine mm_iload_n (pc := 47) (j := 2) dX12_isHere_47 rfl rfl ?_
    obtain ⟨hi48, h⟩ := h
    refine mm_iaload (pc := 48) (N := 1600) dX12_isHere_48 sh_165 hi48 ?_
    refine mm_kSI (pc := 49) [.int (M.1 165 y2.toNatClampNeg)] dX12_isHere_49 kX12_276 rfl (Nat.le_of_ble_eq_true rfl) (Nat.le_of_ble_eq_true rfl) h (fun z49 m49 hG h => ?_)
    refine mm_if_eq (pc := 52) (tgt := 61) dX12_isHere_52 (by decide) (fun hc => ?_) (fun hc => ?_)
    · have h := mm_ift hc h
      refine mm_iload_n (pc := 61) (j := 2) dX12_isHere_61 rfl rfl ?_
      refine mm_aload_n (pc := 62) (j := 0) dX12_isHere_62 rfl rfl ?_
      refine mm_getI (pc := 63) (ci := 12) (N := 116) dX12_isHere_63 fX12_266 sh_164 rfl ?_
      refine mm_isub (pc := 66) dX12_isHere_66 ?_
      refine mm_aload_n (pc := 67) (j := 1) dX12_isHere_67 rfl rfl ?_
      refine mm_alen (pc := 68) (t := 2) (N := n1) dX12_isHere_68 hr1 (by decide) ?_
      refine mm_icmp_eq (pc := 69) (tgt := 74) dX12_isHere_69 (by decide) (fun hc => ?_) (fun hc => ?_)
      · have h := mm_ift hc h
        refine mm_iconst (pc := 74) (x := 0) dX12_isHere_74 rfl ?_
        refine mm_istore_n (pc := 75) (lv' := [(3, .int 0), (0, .ref 164), (1, .ref r1), (2, .int y2)]) dX12_isHere_75 rfl (by decide) rfl ?_
        exact mm_sub [1, 2, 0] rfl h
      · have h := mm_iff hc h
        refine mm_iconst (pc := 72) (x := 0) dX12_isHere_72 rfl ?_
        exact mm_zret (pc := 73) dX12_isHere_73 rfl rfl (Nat.le_refl 0) (Nat.le_refl 0) ⟨_, rfl, rfl, hG, h⟩
    · have h := mm_iff hc h
      refine mm_iinc (pc := 55) (j := 2) (v := y2 + 1) (lv' := [(2, .int (y2 + 1)), (0, .ref 164), (1, .ref r1)]) dX12_isHere_55 rfl rfl (by decide) rfl ?_
      refine mm_goto (pc := 58) (tgt := 35) dX12_isHere_58 (by decide) ?_
      exact mm_sub [1, 2, 0] rfl h
set_option maxRecDepth 100000 in
set_option maxHeartbeats 4000000 in
theorem lX12_isHere_76 {d : Nat} {r1 : Nat} {n1 : Nat} {M : mm_M} {K : Int32 → mm_M → Prop} {y3 : Int32} (hr1 : mm_SH[r1]? = some (2, n1)) (hG : mm_G M.2.2) (h : if (nI n1) ≤ y3 then (K 1 M) else (vp_in ((M.1 164 2) + y3) 1600 ∧ vp_in y3 n1 ∧ if (M.1 165 ((M.1 164 2) + y3).toNatClampNeg) = (M.1 r1 y3.toNatClampNeg) then (jX12_isHere_76 d r1 n1 M K (y3 + 1)) else (K 0 M))) : jX12_isHere_76 d r1 n1 M K y3 := by
  unfold jX12_isHere_76
  refine mm_iload_n (pc := 76) (j := 2) dX12_isHere_76 rfl rfl ?_
  refine mm_aload_n (pc := 77) (j := 1) dX12_isHere_77 rfl rfl ?_
  refine mm_alen (pc := 78) (t := 2) (N := n1) dX12_isHere_78 hr1 (by decide) ?_
  refine mm_icmp_ge (pc := 79) (tgt := 107) dX12_isHere_79 (by decide) (fun hc => ?_) (fun hc => ?_)
  · have h := mm_ift hc h
    refine mm_iconst (pc := 107) (x := 1) dX12_isHere_107 rfl ?_
    exact mm_zret (pc := 108) dX12_isHere_108 rfl rfl (Nat.le_refl 0) (Nat.le_refl 0) ⟨_, rfl, rfl, hG, h⟩
  · have h := mm_iff hc h
    refine mm_aload_n (pc := 82) (j := 0) dX12_isHere_82 rfl rfl ?_
    refine mm_getR (pc := 83) (ci := 12) (N := 116) (r := 165) dX12_isHere_83 fX12_7 sh_164 rfl (g_164_0 hG) ?_
    refine mm_aload_n (pc := 86) (j := 0) dX12_isHere_86 rfl rfl ?_
    refine mm_getI (pc := 87) (ci := 12) (N := 116) dX12_isHere_87 fX12_266 sh_164 rfl ?_
    refine mm_iload_n (pc := 90) (j := 2) dX12_isHere_90 rfl rfl ?_
    refine mm_iadd (pc := 91) dX12_isHere_91 ?_
    obtain ⟨hi92, h⟩ := h
    refine mm_iaload (pc := 92) (N := 1600) dX12_isHere_92 sh_165 hi92 ?_
    refine mm_aload_n (pc := 93) (j := 1) dX12_isHere_93 rfl rfl ?_
    refine mm_iload_n (pc := 94) (j := 2) dX12_isHere_94 rfl rfl ?_
    obtain ⟨hi95, h⟩ := h
    refine mm_caload (pc := 95) (N := n1) dX12_isHere_95 hr1 hi95 ?_
    refine mm_icmp_eq (pc := 96) (tgt := 101) dX12_isHere_96 (by decide) (fun hc => ?_) (fun hc => ?_)
    · have h := mm_ift hc h
      refine mm_iinc (pc := 101) (j := 2) (v := y3 + 1) (lv' := [(3, .int (y3 + 1)), (0, .ref 164), (1, .ref r1)]) dX12_isHere_101 rfl rfl (by decide) rfl ?_
      refine mm_goto (pc := 104) (tgt := 76) dX12_isHere_104 (by decide) ?_
      exact mm_sub [1, 2, 0] rfl h
    · have h := mm_iff hc h
      refine mm_iconst (pc := 99) (x := 0) dX12_isHere_99 rfl ?_
      exact mm_zret (pc := 100) dX12_isHere_100 rfl rfl (Nat.le_refl 0) (Nat.le_refl 0) ⟨_, rfl, rfl, hG, h⟩
set_option maxRecDepth 100000 in
set_option maxHeartbeats 4000000 in
theorem rX12_takes {d : Nat} {r1 : Nat} {n1 : Nat} {M : mm_M} {K : Int32 → mm_M → Prop} (hr1 : mm_SH[r1]? = some (2, n1)) (hG : mm_G M.2.2) (h : mm_CI mX12_isHere d [.ref 164, .ref r1] M (fun z2 m2 => if z2 = 0 then (K 0 m2) else (K 1 (mm_uI (mm_uI m2 164 2 ((m2.1 164 2) + (nI n1))) 164 4 ((mm_uI m2 164 2 ((m2.1 164 2) + (nI n1))).1 164 2))))) : mm_CI mX12_takes (d + 1) [.ref 164, .ref r1] M K := by
  show mm_W mX12_takes (d + 1) 0 0 0 [(0, .ref 164), (1, .ref r1)] [] mm_SH M 0 0 (mm_PI K)
  refine mm_aload_n (pc := 0) (j := 0) dX12_takes_0 rfl rfl ?_
  refine mm_aload_n (pc := 1) (j := 1) dX12_takes_1 rfl rfl ?_
  refine mm_kVI (pc := 2) [.ref r1] dX12_takes_2 kX12_283 rfl sh_164 (Nat.le_of_ble_eq_true rfl) (Nat.le_of_ble_eq_true rfl) h (fun z2 m2 hG h => ?_)
  refine mm_if_ne (pc := 5) (tgt := 10) dX12_takes_5 (by decide) (fun hc => ?_) (fun hc => ?_)
  · have h := mm_iff hc h
    refine mm_aload_n (pc := 10) (j := 0) dX12_takes_10 rfl rfl ?_
    refine mm_dup (pc := 11) dX12_takes_11 rfl ?_
    refine mm_getI (pc := 12) (ci := 12) (N := 116) dX12_takes_12 fX12_266 sh_164 rfl ?_
    refine mm_aload_n (pc := 15) (j := 1) dX12_takes_15 rfl rfl ?_
    refine mm_alen (pc := 16) (t := 2) (N := n1) dX12_takes_16 hr1 (by decide) ?_
    refine mm_iadd (pc := 17) dX12_takes_17 ?_
    refine mm_putI (pc := 18) (ci := 12) (N := 116) dX12_takes_18 fX12_266 sh_164 (by decide +kernel) rfl rfl rfl ?_
    refine mm_aload_n (pc := 21) (j := 0) dX12_takes_21 rfl rfl ?_
    refine mm_aload_n (pc := 22) (j := 0) dX12_takes_22 rfl rfl ?_
    refine mm_getI (pc := 23) (ci := 12) (N := 116) dX12_takes_23 fX12_266 sh_164 rfl ?_
    refine mm_putI (pc := 26) (ci := 12) (N := 116) dX12_takes_26 fX12_280 sh_164 (by decide +kernel) rfl rfl rfl ?_
    refine mm_iconst (pc := 29) (x := 1) dX12_takes_29 rfl ?_
    exact mm_zret (pc := 30) dX12_takes_30 rfl rfl (Nat.le_refl 0) (Nat.le_refl 0) ⟨_, rfl, rfl, hG, h⟩
  · have h := mm_ift hc h
    refine mm_iconst (pc := 8) (x := 0) dX12_takes_8 rfl ?_
    exact mm_zret (pc := 9) dX12_takes_9 rfl rfl (Nat.le_refl 0) (Nat.le_refl 0) ⟨_, rfl, rfl, hG, h⟩
set_option maxRecDepth 100000 in
set_option maxHeartbeats 4000000 in
theorem rX12_asks {d : Nat} {r1 : Nat} {n1 : Nat} {M : mm_M} {K : mm_M → Prop} (hr1 : mm_SH[r1]? = some (2, n1)) (hG : mm_G M.2.2) (h : if (M.1 164 5) = 0 then (mm_CI mX12_takes d [.ref 164, .ref r1] M (fun z9 m9 => if z9 = 0 then (mm_CV mX12_fail d [.ref 164, .int 1, .int (m9.1 164 2)] m9 (fun m21 => K m21)) else (K m9))) else (K M)) : mm_CV mX12_asks (d + 1) [.ref 164, .ref r1] M K := by
  show mm_W mX12_asks (d + 1) 0 0 0 [(0, .ref 164), (1, .ref r1)] [] mm_SH M 0 0 (mm_PV K)
  refine mm_aload_n (pc := 0) (j := 0) dX12_asks_0 rfl rfl ?_
  refine mm_getI (pc := 1) (ci := 12) (N := 116) dX12_asks_1 fX12_260 sh_164 rfl ?_
  refine mm_if_ne (pc := 4) (tgt := 24) dX12_asks_4 (by decide) (fun hc => ?_) (fun hc => ?_)
  · have h := mm_iff hc h
    exact mm_vret (pc := 24) dX12_asks_24 rfl (Nat.le_refl 0) (Nat.le_refl 0) ⟨rfl, rfl, hG, h⟩
  · have h := mm_ift hc h
    refine mm_aload_n (pc := 7) (j := 0) dX12_asks_7 rfl rfl ?_
    refine mm_aload_n (pc := 8) (j := 1) dX12_asks_8 rfl rfl ?_
    refine mm_kVI (pc := 9) [.ref r1] dX12_asks_9 kX12_287 rfl sh_164 (Nat.le_of_ble_eq_true rfl) (Nat.le_of_ble_eq_true rfl) h (fun z9 m9 hG h => ?_)
    refine mm_if_ne (pc := 12) (tgt := 24) dX12_asks_12 (by decide) (fun hc => ?_) (fun hc => ?_)
    · have h := mm_iff hc h
      exact mm_vret (pc := 24) dX12_asks_24 rfl (Nat.le_refl 0) (Nat.le_refl 0) ⟨rfl, rfl, hG, h⟩
    · have h := mm_ift hc h
      refine mm_aload_n (pc := 15) (j := 0) dX12_asks_15 rfl rfl ?_
      refine mm_iconst (pc := 16) (x := 1) dX12_asks_16 rfl ?_
      refine mm_aload_n (pc := 17) (j := 0) dX12_asks_17 rfl rfl ?_
      refine mm_getI (pc := 18) (ci := 12) (N := 116) dX12_asks_18 fX12_266 sh_164 rfl ?_
      refine mm_kVV (pc := 21) [.int 1, .int (m9.1 164 2)] dX12_asks_21 kX12_290 rfl sh_164 (Nat.le_of_ble_eq_true rfl) (Nat.le_of_ble_eq_true rfl) h (fun m21 hG h => ?_)
      exact mm_vret (pc := 24) dX12_asks_24 rfl (Nat.le_refl 0) (Nat.le_refl 0) ⟨rfl, rfl, hG, h⟩
set_option maxRecDepth 100000 in
set_option maxHeartbeats 4000000 in
theorem rX12_takesSign {d : Nat} {x1 : Int32} {M : mm_M} {K : Int32 → mm_M → Prop} (hG : mm_G M.2.2) (h : if (M.1 164 5) = 0 then (mm_CI mX12_look d [.ref 164] M (fun z8 m8 => if z8 = x1 then (K 1 (mm_uI m8 164 2 ((m8.1 164 2) + 1))) else (K 0 m8))) else (K 0 M)) : mm_CI mX12_takesSign (d + 1) [.ref 164, .int x1] M K := by
  show mm_W mX12_takesSign (d + 1) 0 0 0 [(0, .ref 164), (1, .int x1)] [] mm_SH M 0 0 (mm_PI K)
  refine mm_aload_n (pc := 0) (j := 0) dX12_takesSign_0 rfl rfl ?_
  refine mm_getI (pc := 1) (ci := 12) (N := 116) dX12_takesSign_1 fX12_260 sh_164 rfl ?_
  refine mm_if_ne (pc := 4) (tgt := 15) dX12_takesSign_4 (by decide) (fun hc => ?_) (fun hc => ?_)
  · have h := mm_iff hc h
    refine mm_iconst (pc := 15) (x := 0) dX12_takesSign_15 rfl ?_
    exact mm_zret (pc := 16) dX12_takesSign_16 rfl rfl (Nat.le_refl 0) (Nat.le_refl 0) ⟨_, rfl, rfl, hG, h⟩
  · have h := mm_ift hc h
    refine mm_aload_n (pc := 7) (j := 0) dX12_takesSign_7 rfl rfl ?_
    refine mm_kVI (pc := 8) [] dX12_takesSign_8 kX12_272 rfl sh_164 (Nat.le_of_ble_eq_true rfl) (Nat.le_of_ble_eq_true rfl) h (fun z8 m8 hG h => ?_)
    refine mm_iload_n (pc := 11) (j := 1) dX12_takesSign_11 rfl rfl ?_
    refine mm_icmp_eq (pc := 12) (tgt := 17) dX12_takesSign_12 (by decide) (fun hc => ?_) (fun hc => ?_)
    · have h := mm_ift hc h
      refine mm_aload_n (pc := 17) (j := 0) dX12_takesSign_17 rfl rfl ?_
      refine mm_dup (pc := 18) dX12_takesSign_18 rfl ?_
      refine mm_getI (pc := 19) (ci := 12) (N := 116) dX12_takesSign_19 fX12_266 sh_164 rfl ?_
      refine mm_iconst (pc := 22) (x := 1) dX12_takesSign_22 rfl ?_
      refine mm_iadd (pc := 23) dX12_takesSign_23 ?_
      refine mm_putI (pc := 24) (ci := 12) (N := 116) dX12_takesSign_24 fX12_266 sh_164 (by decide +kernel) rfl rfl rfl ?_
      refine mm_iconst (pc := 27) (x := 1) dX12_takesSign_27 rfl ?_
      exact mm_zret (pc := 28) dX12_takesSign_28 rfl rfl (Nat.le_refl 0) (Nat.le_refl 0) ⟨_, rfl, rfl, hG, h⟩
    · have h := mm_iff hc h
      refine mm_iconst (pc := 15) (x := 0) dX12_takesSign_15 rfl ?_
      exact mm_zret (pc := 16) dX12_takesSign_16 rfl rfl (Nat.le_refl 0) (Nat.le_refl 0) ⟨_, rfl, rfl, hG, h⟩
set_option maxRecDepth 100000 in
set_option maxHeartbeats 4000000 in
theorem rX12_asksSign {d : Nat} {x1 : Int32} {M : mm_M} {K : mm_M → Prop} (hG : mm_G M.2.2) (h : if (M.1 164 5) = 0 then (mm_CI mX12_takesSign d [.ref 164, .int x1] M (fun z9 m9 => if z9 = 0 then (mm_CV mX12_fail d [.ref 164, .int 1, .int (m9.1 164 2)] m9 (fun m21 => K m21)) else (K m9))) else (K M)) : mm_CV mX12_asksSign (d + 1) [.ref 164, .int x1] M K := by
  show mm_W mX12_asksSign (d + 1) 0 0 0 [(0, .ref 164), (1, .int x1)] [] mm_SH M 0 0 (mm_PV K)
  refine mm_aload_n (pc := 0) (j := 0) dX12_asksSign_0 rfl rfl ?_
  refine mm_getI (pc := 1) (ci := 12) (N := 116) dX12_asksSign_1 fX12_260 sh_164 rfl ?_
  refine mm_if_ne (pc := 4) (tgt := 24) dX12_asksSign_4 (by decide) (fun hc => ?_) (fun hc => ?_)
  · have h := mm_iff hc h
    exact mm_vret (pc := 24) dX12_asksSign_24 rfl (Nat.le_refl 0) (Nat.le_refl 0) ⟨rfl, rfl, hG, h⟩
  · have h := mm_ift hc h
    refine mm_aload_n (pc := 7) (j := 0) dX12_asksSign_7 rfl rfl ?_
    refine mm_iload_n (pc := 8) (j := 1) dX12_asksSign_8 rfl rfl ?_
    refine mm_kVI (pc := 9) [.int x1] dX12_asksSign_9 kX12_294 rfl sh_164 (Nat.le_of_ble_eq_true rfl) (Nat.le_of_ble_eq_true rfl) h (fun z9 m9 hG h => ?_)
    refine mm_if_ne (pc := 12) (tgt := 24) dX12_asksSign_12 (by decide) (fun hc => ?_) (fun hc => ?_)
    · have h := mm_iff hc h
      exact mm_vret (pc := 24) dX12_asksSign_24 rfl (Nat.le_refl 0) (Nat.le_refl 0) ⟨rfl, rfl, hG, h⟩
    · have h := mm_ift hc h
      refine mm_aload_n (pc := 15) (j := 0) dX12_asksSign_15 rfl rfl ?_
      refine mm_iconst (pc := 16) (x := 1) dX12_asksSign_16 rfl ?_
      refine mm_aload_n (pc := 17) (j := 0) dX12_asksSign_17 rfl rfl ?_
      refine mm_getI (pc := 18) (ci := 12) (N := 116) dX12_asksSign_18 fX12_266 sh_164 rfl ?_
      refine mm_kVV (pc := 21) [.int 1, .int (m9.1 164 2)] dX12_asksSign_21 kX12_290 rfl sh_164 (Nat.le_of_ble_eq_true rfl) (Nat.le_of_ble_eq_true rfl) h (fun m21 hG h => ?_)
      exact mm_vret (pc := 24) dX12_asksSign_24 rfl (Nat.le_refl 0) (Nat.le_refl 0) ⟨rfl, rfl, hG, h⟩
def jX12_number_49 (d : Nat) (x1 : Int32) (x2 : Int32) (M : mm_M) (K : Int32 → mm_M → Prop) (y1 : Int32) (y2 : Int32) (y3 : Int32) (y4 : Int32) : Prop := mm_W mX12_number (d + 1) 0 0 49 [(0, .ref 164), (1, .int y1), (2, .int y2), (3, .int y3), (4, .int y4)] [] mm_SH M 0 0 (mm_PI K)
def jX12_number_129 (d : Nat) (x1 : Int32) (x2 : Int32) (M : mm_M) (K : Int32 → mm_M → Prop) (y1 : Int32) (y2 : Int32) (y3 : Int32) (y4 : Int32) : Prop := mm_W mX12_number (d + 1) 0 0 129 [(0, .ref 164), (1, .int y1), (2, .int y2), (3, .int y3), (4, .int y4)] [] mm_SH M 0 0 (mm_PI K)
set_option maxRecDepth 100000 in
set_option maxHeartbeats 4000000 in
theorem rX12_number {d : Nat} {x1 : Int32} {x2 : Int32} {M : mm_M} {K : Int32 → mm_M → Prop} (hG : mm_G M.2.2) (h : if (M.1 164 5) = 0 then (mm_CI mX12_look d [.ref 164] M (fun z10 m10 => mm_CI mX12_isDigit d [.int z10] m10 (fun z13 m13 => if z13 = 0 then (mm_CV mX12_fail d [.ref 164, .int 1, .int (m13.1 164 2)] m13 (fun m36 => K 0 m36)) else (if (m13.1 164 2) = (m13.1 164 4) then (mm_CV mX12_fail d [.ref 164, .int 1, .int (m13.1 164 2)] m13 (fun m36 => K 0 m36)) else (jX12_number_49 d x1 x2 m13 K x1 x2 (m13.1 164 2) 0))))) else (K 0 M)) : mm_CI mX12_number (d + 1) [.ref 164, .int x1, .int x2] M K := by
  show mm_W mX12_number (d + 1) 0 0 0 [(0, .ref 164), (1, .int x1), (2, .int x2)] [] mm_SH M 0 0 (mm_PI K)
  refine mm_aload_n (pc := 0) (j := 0) dX12_number_0 rfl rfl ?_
  refine mm_getI (pc := 1) (ci := 12) (N := 116) dX12_number_1 fX12_260 sh_164 rfl ?_
  refine mm_if_eq (pc := 4) (tgt := 9) dX12_number_4 (by decide) (fun hc => ?_) (fun hc => ?_)
  · have h := mm_ift hc h
    refine mm_aload_n (pc := 9) (j := 0) dX12_number_9 rfl rfl ?_
    refine mm_kVI (pc := 10) [] dX12_number_10 kX12_272 rfl sh_164 (Nat.le_of_ble_eq_true rfl) (Nat.le_of_ble_eq_true rfl) h (fun z10 m10 hG h => ?_)
    refine mm_kSI (pc := 13) [.int z10] dX12_number_13 kX12_297 rfl (Nat.le_of_ble_eq_true rfl) (Nat.le_of_ble_eq_true rfl) h (fun z13 m13 hG h => ?_)
    refine mm_if_eq (pc := 16) (tgt := 30) dX12_number_16 (by decide) (fun hc => ?_) (fun hc => ?_)
    · have h := mm_ift hc h
      refine mm_aload_n (pc := 30) (j := 0) dX12_number_30 rfl rfl ?_
      refine mm_iconst (pc := 31) (x := 1) dX12_number_31 rfl ?_
      refine mm_aload_n (pc := 32) (j := 0) dX12_number_32 rfl rfl ?_
      refine mm_getI (pc := 33) (ci := 12) (N := 116) dX12_number_33 fX12_266 sh_164 rfl ?_
      refine mm_kVV (pc := 36) [.int 1, .int (m13.1 164 2)] dX12_number_36 kX12_290 rfl sh_164 (Nat.le_of_ble_eq_true rfl) (Nat.le_of_ble_eq_true rfl) h (fun m36 hG h => ?_)
      refine mm_iconst (pc := 39) (x := 0) dX12_number_39 rfl ?_
      exact mm_iret (pc := 40) dX12_number_40 rfl (Nat.le_refl 0) (Nat.le_refl 0) ⟨_, rfl, rfl, hG, h⟩
    · have h := mm_iff hc h
      refine mm_aload_n (pc := 19) (j := 0) dX12_number_19 rfl rfl ?_
      refine mm_getI (pc := 20) (ci := 12) (N := 116) dX12_number_20 fX12_266 sh_164 rfl ?_
      refine mm_aload_n (pc := 23) (j := 0) dX12_number_23 rfl rfl ?_
      refine mm_getI (pc := 24) (ci := 12) (N := 116) dX12_number_24 fX12_280 sh_164 rfl ?_
      refine mm_icmp_ne (pc := 27) (tgt := 41) dX12_number_27 (by decide) (fun hc => ?_) (fun hc => ?_)
      · have h := mm_iff hc h
        refine mm_aload_n (pc := 41) (j := 0) dX12_number_41 rfl rfl ?_
        refine mm_getI (pc := 42) (ci := 12) (N := 116) dX12_number_42 fX12_266 sh_164 rfl ?_
        refine mm_istore_n (pc := 45) (lv' := [(3, .int (m13.1 164 2)), (0, .ref 164), (1, .int x1), (2, .int x2)]) dX12_number_45 rfl (by decide) rfl ?_
        refine mm_iconst (pc := 46) (x := 0) dX12_number_46 rfl ?_
        refine mm_istore (pc := 47) (lv' := [(4, .int 0), (3, .int (m13.1 164 2)), (0, .ref 164), (1, .int x1), (2, .int x2)]) dX12_number_47 (by decide) rfl ?_
        exact mm_sub [2, 3, 4, 1, 0] rfl h
      · have h := mm_ift hc h
        refine mm_aload_n (pc := 30) (j := 0) dX12_number_30 rfl rfl ?_
        refine mm_iconst (pc := 31) (x := 1) dX12_number_31 rfl ?_
        refine mm_aload_n (pc := 32) (j := 0) dX12_number_32 rfl rfl ?_
        refine mm_getI (pc := 33) (ci := 12) (N := 116) dX12_number_33 fX12_266 sh_164 rfl ?_
        refine mm_kVV (pc := 36) [.int 1, .int (m13.1 164 2)] dX12_number_36 kX12_290 rfl sh_164 (Nat.le_of_ble_eq_true rfl) (Nat.le_of_ble_eq_true rfl) h (fun m36 hG h => ?_)
        refine mm_iconst (pc := 39) (x := 0) dX12_number_39 rfl ?_
        exact mm_iret (pc := 40) dX12_number_40 rfl (Nat.le_refl 0) (Nat.le_refl 0) ⟨_, rfl, rfl, hG, h⟩
  · have h := mm_iff hc h
    refine mm_iconst (pc := 7) (x := 0) dX12_number_7 rfl ?_
    exact mm_iret (pc := 8) dX12_number_8 rfl (Nat.le_refl 0) (Nat.le_refl 0) ⟨_, rfl, rfl, hG, h⟩
set_option maxRecDepth 100000 in
set_option maxHeartbeats 4000000 in
theorem lX12_number_49 {d : Nat} {x1 : Int32} {x2 : Int32} {M : mm_M} {K : Int32 → mm_M → Prop} {y1 : Int32} {y2 : Int32} {y3 : Int32} {y4 : Int32} (hG : mm_G M.2.2) (h : if (M.1 164 3) ≤ (M.1 164 2) then (jX12_number_129 d x1 x2 M K y1 y2 y3 y4) else (vp_in (M.1 164 2) 1600 ∧ mm_CI mX12_isDigit d [.int (M.1 165 (M.1 164 2).toNatClampNeg)] M (fun z69 m69 => if z69 = 0 then (jX12_number_129 d x1 x2 m69 K y1 y2 y3 y4) else (if ((m69.1 164 2) - y3) = 4 then (mm_CV mX12_fail d [.ref 164, .int 1, .int (m69.1 164 2)] m69 (fun m91 => K 0 m91)) else (vp_in (m69.1 164 2) 1600 ∧ jX12_number_49 d x1 x2 (mm_uI m69 164 2 ((m69.1 164 2) + 1)) K y1 y2 y3 (((10 * y4) + (m69.1 165 (m69.1 164 2).toNatClampNeg)) - 48)))))) : jX12_number_49 d x1 x2 M K y1 y2 y3 y4 := by
  unfold jX12_number_49
  refine mm_aload_n (pc := 49) (j := 0) dX12_number_49 rfl rfl ?_
  refine mm_getI (pc := 50) (ci := 12) (N := 116) dX12_number_50 fX12_266 sh_164 rfl ?_
  refine mm_aload_n (pc := 53) (j := 0) dX12_number_53 rfl rfl ?_
  refine mm_getI (pc := 54) (ci := 12) (N := 116) dX12_number_54 fX12_269 sh_164 rfl ?_
  refine mm_icmp_ge (pc := 57) (tgt := 129) dX12_number_57 (by decide) (fun hc => ?_) (fun hc => ?_)
  · have h := mm_ift hc h
    exact h
  · have h := mm_iff hc h
    refine mm_aload_n (pc := 60) (j := 0) dX12_number_60 rfl rfl ?_
    refine mm_getR (pc := 61) (ci := 12) (N := 116) (r := 165) dX12_number_61 fX12_7 sh_164 rfl (g_164_0 hG) ?_
    refine mm_aload_n (pc := 64) (j := 0) dX12_number_64 rfl rfl ?_
    refine mm_getI (pc := 65) (ci := 12) (N := 116) dX12_number_65 fX12_266 sh_164 rfl ?_
    obtain ⟨hi68, h⟩ := h
    refine mm_iaload (pc := 68) (N := 1600) dX12_number_68 sh_165 hi68 ?_
    refine mm_kSI (pc := 69) [.int (M.1 165 (M.1 164 2).toNatClampNeg)] dX12_number_69 kX12_297 rfl (Nat.le_of_ble_eq_true rfl) (Nat.le_of_ble_eq_true rfl) h (fun z69 m69 hG h => ?_)
    refine mm_if_eq (pc := 72) (tgt := 129) dX12_number_72 (by decide) (fun hc => ?_) (fun hc => ?_)
    · have h := mm_ift hc h
      exact h
    · have h := mm_iff hc h
      refine mm_aload_n (pc := 75) (j := 0) dX12_number_75 rfl rfl ?_
      refine mm_getI (pc := 76) (ci := 12) (N := 116) dX12_number_76 fX12_266 sh_164 rfl ?_
      refine mm_iload_n (pc := 79) (j := 3) dX12_number_79 rfl rfl ?_
      refine mm_isub (pc := 80) dX12_number_80 ?_
      refine mm_iconst (pc := 81) (x := 4) dX12_number_81 rfl ?_
      refine mm_icmp_ne (pc := 82) (tgt := 96) dX12_number_82 (by decide) (fun hc => ?_) (fun hc => ?_)
      · have h := mm_iff hc h
        refine mm_bipush (pc := 96) (x := 10) dX12_number_96 rfl ?_
        refine mm_iload (pc := 98) (j := 4) dX12_number_98 rfl ?_
        refine mm_imul (pc := 100) dX12_number_100 ?_
        refine mm_aload_n (pc := 101) (j := 0) dX12_number_101 rfl rfl ?_
        refine mm_getR (pc := 102) (ci := 12) (N := 116) (r := 165) dX12_number_102 fX12_7 sh_164 rfl (g_164_0 hG) ?_
        refine mm_aload_n (pc := 105) (j := 0) dX12_number_105 rfl rfl ?_
        refine mm_getI (pc := 106) (ci := 12) (N := 116) dX12_number_106 fX12_266 sh_164 rfl ?_
        obtain ⟨hi109, h⟩ := h
        refine mm_iaload (pc := 109) (N := 1600) dX12_number_109 sh_165 hi109 ?_
        refine mm_iadd (pc := 110) dX12_number_110 ?_
        refine mm_bipush (pc := 111) (x := 48) dX12_number_111 rfl ?_
        refine mm_isub (pc := 113) dX12_number_113 ?_
        refine mm_istore (pc := 114) (lv' := [(4, .int (((10 * y4) + (m69.1 165 (m69.1 164 2).toNatClampNeg)) - 48)), (0, .ref 164), (1, .int y1), (2, .int y2), (3, .int y3)]) dX12_number_114 (by decide) rfl ?_
        refine mm_aload_n (pc := 116) (j := 1) dX12_number_116 rfl rfl ?_
        refine mm_dup (pc := 117) dX12_number_117 rfl ?_
        refine mm_getI (pc := 118) (ci := 12) (N := 116) dX12_number_118 fX12_266 sh_164 rfl ?_
        refine mm_iconst (pc := 121) (x := 1) dX12_number_121 rfl ?_
        refine mm_iadd (pc := 122) dX12_number_122 ?_
        refine mm_putI (pc := 123) (ci := 12) (N := 116) dX12_number_123 fX12_266 sh_164 (by decide +kernel) rfl rfl rfl ?_
        refine mm_goto (pc := 126) (tgt := 49) dX12_number_126 (by decide) ?_
        exact mm_sub [1, 2, 3, 4, 0] rfl h
      · have h := mm_ift hc h
        refine mm_aload_n (pc := 85) (j := 0) dX12_number_85 rfl rfl ?_
        refine mm_iconst (pc := 86) (x := 1) dX12_number_86 rfl ?_
        refine mm_aload_n (pc := 87) (j := 0) dX12_number_87 rfl rfl ?_
        refine mm_getI (pc := 88) (ci := 12) (N := 116) dX12_number_88 fX12_266 sh_164 rfl ?_
        refine mm_kVV (pc := 91) [.int 1, .int (m69.1 164 2)] dX12_number_91 kX12_290 rfl sh_164 (Nat.le_of_ble_eq_true rfl) (Nat.le_of_ble_eq_true rfl) h (fun m91 hG h => ?_)
        refine mm_iconst (pc := 94) (x := 0) dX12_number_94 rfl ?_
        exact mm_iret (pc := 95) dX12_number_95 rfl (Nat.le_refl 0) (Nat.le_refl 0) ⟨_, rfl, rfl, hG, h⟩
set_option maxRecDepth 100000 in
set_option maxHeartbeats 4000000 in
theorem lX12_number_129 {d : Nat} {x1 : Int32} {x2 : Int32} {M : mm_M} {K : Int32 → mm_M → Prop} {y1 : Int32} {y2 : Int32} {y3 : Int32} {y4 : Int32} (hG : mm_G M.2.2) (h : mm_CI mX12_isIn d [.long y4.toInt64, .long y1.toInt64, .long y2.toInt64] (mm_uI (mm_uI M 164 4 (M.1 164 2)) 164 10 y3) (fun z149 m149 => if z149 = 0 then (mm_CV mX12_fail d [.ref 164, .int 2, .int (m149.1 164 10)] m149 (fun m161 => K y4 m161)) else (K y4 m149))) : jX12_number_129 d x1 x2 M K y1 y2 y3 y4 := by
  unfold jX12_number_129
  refine mm_aload_n (pc := 129) (j := 0) dX12_number_129 rfl rfl ?_
  refine mm_aload_n (pc := 130) (j := 0) dX12_number_130 rfl rfl ?_
  refine mm_getI (pc := 131) (ci := 12) (N := 116) dX12_number_131 fX12_266 sh_164 rfl ?_
  refine mm_putI (pc := 134) (ci := 12) (N := 116) dX12_number_134 fX12_280 sh_164 (by decide +kernel) rfl rfl rfl ?_
  refine mm_aload_n (pc := 137) (j := 0) dX12_number_137 rfl rfl ?_
  refine mm_iload_n (pc := 138) (j := 3) dX12_number_138 rfl rfl ?_
  refine mm_putI (pc := 139) (ci := 12) (N := 116) dX12_number_139 fX12_300 sh_164 (by decide +kernel) rfl rfl rfl ?_
  refine mm_iload (pc := 142) (j := 4) dX12_number_142 rfl ?_
  refine mm_i2l (pc := 144) dX12_number_144 ?_
  refine mm_iload_n (pc := 145) (j := 1) dX12_number_145 rfl rfl ?_
  refine mm_i2l (pc := 146) dX12_number_146 ?_
  refine mm_iload_n (pc := 147) (j := 2) dX12_number_147 rfl rfl ?_
  refine mm_i2l (pc := 148) dX12_number_148 ?_
  refine mm_kSI (pc := 149) [.long y4.toInt64, .long y1.toInt64, .long y2.toInt64] dX12_number_149 kX12_303 rfl (Nat.le_of_ble_eq_true rfl) (Nat.le_of_ble_eq_true rfl) h (fun z149 m149 hG h => ?_)
  refine mm_if_ne (pc := 152) (tgt := 164) dX12_number_152 (by decide) (fun hc => ?_) (fun hc => ?_)
  · have h := mm_iff hc h
    refine mm_iload (pc := 164) (j := 4) dX12_number_164 rfl ?_
    exact mm_iret (pc := 166) dX12_number_166 rfl (Nat.le_refl 0) (Nat.le_refl 0) ⟨_, rfl, rfl, hG, h⟩
  · have h := mm_ift hc h
    refine mm_aload_n (pc := 155) (j := 0) dX12_number_155 rfl rfl ?_
    refine mm_iconst (pc := 156) (x := 2) dX12_number_156 rfl ?_
    refine mm_aload_n (pc := 157) (j := 0) dX12_number_157 rfl rfl ?_
    refine mm_getI (pc := 158) (ci := 12) (N := 116) dX12_number_158 fX12_300 sh_164 rfl ?_
    refine mm_kVV (pc := 161) [.int 2, .int (m149.1 164 10)] dX12_number_161 kX12_290 rfl sh_164 (Nat.le_of_ble_eq_true rfl) (Nat.le_of_ble_eq_true rfl) h (fun m161 hG h => ?_)
    refine mm_iload (pc := 164) (j := 4) dX12_number_164 rfl ?_
    exact mm_iret (pc := 166) dX12_number_166 rfl (Nat.le_refl 0) (Nat.le_refl 0) ⟨_, rfl, rfl, hG, h⟩
def jX12_isOwnHere_71 (d : Nat) (M : mm_M) (K : Int32 → mm_M → Prop) (u0 : Int32) : Prop := mm_W mX12_isOwnHere (d + 1) 0 0 71 [(0, .ref 164)] [.int u0] mm_SH M 0 0 (mm_PI K)
def jX12_isOwnHere_147 (d : Nat) (M : mm_M) (K : Int32 → mm_M → Prop) (u0 : Int32) : Prop := mm_W mX12_isOwnHere (d + 1) 0 0 147 [(0, .ref 164)] [.int u0] mm_SH M 0 0 (mm_PI K)
def jX12_isOwnHere_223 (d : Nat) (M : mm_M) (K : Int32 → mm_M → Prop) (u0 : Int32) : Prop := mm_W mX12_isOwnHere (d + 1) 0 0 223 [(0, .ref 164)] [.int u0] mm_SH M 0 0 (mm_PI K)
set_option maxRecDepth 100000 in
set_option maxHeartbeats 4000000 in
theorem rX12_isOwnHere {d : Nat} {M : mm_M} {K : Int32 → mm_M → Prop} (hG : mm_G M.2.2) (h : mm_CI mX12_isHere d [.ref 164, .ref 167] M (fun z5 m5 => if z5 = 0 then (mm_CI mX12_isHere d [.ref 164, .ref 168] m5 (fun z16 m16 => if z16 = 0 then (mm_CI mX12_isHere d [.ref 164, .ref 169] m16 (fun z27 m27 => if z27 = 0 then (mm_CI mX12_isHere d [.ref 164, .ref 170] m27 (fun z38 m38 => if z38 = 0 then (mm_CI mX12_isHere d [.ref 164, .ref 171] m38 (fun z49 m49 => if z49 = 0 then (mm_CI mX12_isHere d [.ref 164, .ref 172] m49 (fun z60 m60 => if z60 = 0 then (jX12_isOwnHere_71 d m60 K 0) else (jX12_isOwnHere_71 d m60 K 1))) else (jX12_isOwnHere_71 d m49 K 1))) else (jX12_isOwnHere_71 d m38 K 1))) else (jX12_isOwnHere_71 d m27 K 1))) else (jX12_isOwnHere_71 d m16 K 1))) else (jX12_isOwnHere_71 d m5 K 1))) : mm_CI mX12_isOwnHere (d + 1) [.ref 164] M K := by
  show mm_W mX12_isOwnHere (d + 1) 0 0 0 [(0, .ref 164)] [] mm_SH M 0 0 (mm_PI K)
  refine mm_aload_n (pc := 0) (j := 0) dX12_isOwnHere_0 rfl rfl ?_
  refine mm_aload_n (pc := 1) (j := 0) dX12_isOwnHere_1 rfl rfl ?_
  refine mm_getR (pc := 2) (ci := 12) (N := 116) (r := 167) dX12_isOwnHere_2 fX12_20 sh_164 rfl (g_164_11 hG) ?_
  refine mm_kVI (pc := 5) [.ref 167] dX12_isOwnHere_5 kX12_283 rfl sh_164 (Nat.le_of_ble_eq_true rfl) (Nat.le_of_ble_eq_true rfl) h (fun z5 m5 hG h => ?_)
  refine mm_if_ne (pc := 8) (tgt := 66) dX12_isOwnHere_8 (by decide) (fun hc => ?_) (fun hc => ?_)
  · have h := mm_iff hc h
    refine mm_iconst (pc := 66) (x := 1) dX12_isOwnHere_66 rfl ?_
    refine mm_goto (pc := 67) (tgt := 71) dX12_isOwnHere_67 (by decide) ?_
    exact h
  · have h := mm_ift hc h
    refine mm_aload_n (pc := 11) (j := 0) dX12_isOwnHere_11 rfl rfl ?_
    refine mm_aload_n (pc := 12) (j := 0) dX12_isOwnHere_12 rfl rfl ?_
    refine mm_getR (pc := 13) (ci := 12) (N := 116) (r := 168) dX12_isOwnHere_13 fX12_24 sh_164 rfl (g_164_12 hG) ?_
    refine mm_kVI (pc := 16) [.ref 168] dX12_isOwnHere_16 kX12_283 rfl sh_164 (Nat.le_of_ble_eq_true rfl) (Nat.le_of_ble_eq_true rfl) h (fun z16 m16 hG h => ?_)
    refine mm_if_ne (pc := 19) (tgt := 66) dX12_isOwnHere_19 (by decide) (fun hc => ?_) (fun hc => ?_)
    · have h := mm_iff hc h
      refine mm_iconst (pc := 66) (x := 1) dX12_isOwnHere_66 rfl ?_
      refine mm_goto (pc := 67) (tgt := 71) dX12_isOwnHere_67 (by decide) ?_
      exact h
    · have h := mm_ift hc h
      refine mm_aload_n (pc := 22) (j := 0) dX12_isOwnHere_22 rfl rfl ?_
      refine mm_aload_n (pc := 23) (j := 0) dX12_isOwnHere_23 rfl rfl ?_
      refine mm_getR (pc := 24) (ci := 12) (N := 116) (r := 169) dX12_isOwnHere_24 fX12_27 sh_164 rfl (g_164_13 hG) ?_
      refine mm_kVI (pc := 27) [.ref 169] dX12_isOwnHere_27 kX12_283 rfl sh_164 (Nat.le_of_ble_eq_true rfl) (Nat.le_of_ble_eq_true rfl) h (fun z27 m27 hG h => ?_)
      refine mm_if_ne (pc := 30) (tgt := 66) dX12_isOwnHere_30 (by decide) (fun hc => ?_) (fun hc => ?_)
      · have h := mm_iff hc h
        refine mm_iconst (pc := 66) (x := 1) dX12_isOwnHere_66 rfl ?_
        refine mm_goto (pc := 67) (tgt := 71) dX12_isOwnHere_67 (by decide) ?_
        exact h
      · have h := mm_ift hc h
        refine mm_aload_n (pc := 33) (j := 0) dX12_isOwnHere_33 rfl rfl ?_
        refine mm_aload_n (pc := 34) (j := 0) dX12_isOwnHere_34 rfl rfl ?_
        refine mm_getR (pc := 35) (ci := 12) (N := 116) (r := 170) dX12_isOwnHere_35 fX12_30 sh_164 rfl (g_164_14 hG) ?_
        refine mm_kVI (pc := 38) [.ref 170] dX12_isOwnHere_38 kX12_283 rfl sh_164 (Nat.le_of_ble_eq_true rfl) (Nat.le_of_ble_eq_true rfl) h (fun z38 m38 hG h => ?_)
        refine mm_if_ne (pc := 41) (tgt := 66) dX12_isOwnHere_41 (by decide) (fun hc => ?_) (fun hc => ?_)
        · have h := mm_iff hc h
          refine mm_iconst (pc := 66) (x := 1) dX12_isOwnHere_66 rfl ?_
          refine mm_goto (pc := 67) (tgt := 71) dX12_isOwnHere_67 (by decide) ?_
          exact h
        · have h := mm_ift hc h
          refine mm_aload_n (pc := 44) (j := 0) dX12_isOwnHere_44 rfl rfl ?_
          refine mm_aload_n (pc := 45) (j := 0) dX12_isOwnHere_45 rfl rfl ?_
          refine mm_getR (pc := 46) (ci := 12) (N := 116) (r := 171) dX12_isOwnHere_46 fX12_33 sh_164 rfl (g_164_15 hG) ?_
          refine mm_kVI (pc := 49) [.ref 171] dX12_isOwnHere_49 kX12_283 rfl sh_164 (Nat.le_of_ble_eq_true rfl) (Nat.le_of_ble_eq_true rfl) h (fun z49 m49 hG h => ?_)
          refine mm_if_ne (pc := 52) (tgt := 66) dX12_isOwnHere_52 (by decide) (fun hc => ?_) (fun hc => ?_)
          · have h := mm_iff hc h
            refine mm_iconst (pc := 66) (x := 1) dX12_isOwnHere_66 rfl ?_
            refine mm_goto (pc := 67) (tgt := 71) dX12_isOwnHere_67 (by decide) ?_
            exact h
          · have h := mm_ift hc h
            refine mm_aload_n (pc := 55) (j := 0) dX12_isOwnHere_55 rfl rfl ?_
            refine mm_aload_n (pc := 56) (j := 0) dX12_isOwnHere_56 rfl rfl ?_
            refine mm_getR (pc := 57) (ci := 12) (N := 116) (r := 172) dX12_isOwnHere_57 fX12_36 sh_164 rfl (g_164_16 hG) ?_
            refine mm_kVI (pc := 60) [.ref 172] dX12_isOwnHere_60 kX12_283 rfl sh_164 (Nat.le_of_ble_eq_true rfl) (Nat.le_of_ble_eq_true rfl) h (fun z60 m60 hG h => ?_)
            refine mm_if_eq (pc := 63) (tgt := 70) dX12_isOwnHere_63 (by decide) (fun hc => ?_) (fun hc => ?_)
            · have h := mm_ift hc h
              refine mm_iconst (pc := 70) (x := 0) dX12_isOwnHere_70 rfl ?_
              exact h
            · have h := mm_iff hc h
              refine mm_iconst (pc := 66) (x := 1) dX12_isOwnHere_66 rfl ?_
              refine mm_goto (pc := 67) (tgt := 71) dX12_isOwnHere_67 (by decide) ?_
              exact h
set_option maxRecDepth 100000 in
set_option maxHeartbeats 4000000 in
theorem lX12_isOwnHere_71 {d : Nat} {M : mm_M} {K : Int32 → mm_M → Prop} {u0 : Int32} (hG : mm_G M.2.2) (h : if u0 = 0 then (mm_CI mX12_isHere d [.ref 164, .ref 173] M (fun z81 m81 => if z81 = 0 then (mm_CI mX12_isHere d [.ref 164, .ref 174] m81 (fun z92 m92 => if z92 = 0 then (mm_CI mX12_isHere d [.ref 164, .ref 175] m92 (fun z103 m103 => if z103 = 0 then (mm_CI mX12_isHere d [.ref 164, .ref 176] m103 (fun z114 m114 => if z114 = 0 then (mm_CI mX12_isHere d [.ref 164, .ref 177] m114 (fun z125 m125 => if z125 = 0 then (mm_CI mX12_isHere d [.ref 164, .ref 178] m125 (fun z136 m136 => if z136 = 0 then (jX12_isOwnHere_147 d m136 K 0) else (jX12_isOwnHere_147 d m136 K 1))) else (jX12_isOwnHere_147 d m125 K 1))) else (jX12_isOwnHere_147 d m114 K 1))) else (jX12_isOwnHere_147 d m103 K 1))) else (jX12_isOwnHere_147 d m92 K 1))) else (jX12_isOwnHere_147 d m81 K 1))) else (jX12_isOwnHere_147 d M K 1)) : jX12_isOwnHere_71 d  M K u0 := by
  unfold jX12_isOwnHere_71
  refine mm_istore_n (pc := 71) (lv' := [(1, .int u0), (0, .ref 164)]) dX12_isOwnHere_71 rfl (by decide) rfl ?_
  refine mm_iload_n (pc := 72) (j := 0) dX12_isOwnHere_72 rfl rfl ?_
  refine mm_if_ne (pc := 73) (tgt := 142) dX12_isOwnHere_73 (by decide) (fun hc => ?_) (fun hc => ?_)
  · have h := mm_iff hc h
    refine mm_iconst (pc := 142) (x := 1) dX12_isOwnHere_142 rfl ?_
    refine mm_goto (pc := 143) (tgt := 147) dX12_isOwnHere_143 (by decide) ?_
    exact mm_sub [1] rfl h
  · have h := mm_ift hc h
    refine mm_aload_n (pc := 76) (j := 1) dX12_isOwnHere_76 rfl rfl ?_
    refine mm_aload_n (pc := 77) (j := 1) dX12_isOwnHere_77 rfl rfl ?_
    refine mm_getR (pc := 78) (ci := 12) (N := 116) (r := 173) dX12_isOwnHere_78 fX12_39 sh_164 rfl (g_164_17 hG) ?_
    refine mm_kVI (pc := 81) [.ref 173] dX12_isOwnHere_81 kX12_283 rfl sh_164 (Nat.le_of_ble_eq_true rfl) (Nat.le_of_ble_eq_true rfl) h (fun z81 m81 hG h => ?_)
    refine mm_if_ne (pc := 84) (tgt := 142) dX12_isOwnHere_84 (by decide) (fun hc => ?_) (fun hc => ?_)
    · have h := mm_iff hc h
      refine mm_iconst (pc := 142) (x := 1) dX12_isOwnHere_142 rfl ?_
      refine mm_goto (pc := 143) (tgt := 147) dX12_isOwnHere_143 (by decide) ?_
      exact mm_sub [1] rfl h
    · have h := mm_ift hc h
      refine mm_aload_n (pc := 87) (j := 1) dX12_isOwnHere_87 rfl rfl ?_
      refine mm_aload_n (pc := 88) (j := 1) dX12_isOwnHere_88 rfl rfl ?_
      refine mm_getR (pc := 89) (ci := 12) (N := 116) (r := 174) dX12_isOwnHere_89 fX12_42 sh_164 rfl (g_164_18 hG) ?_
      refine mm_kVI (pc := 92) [.ref 174] dX12_isOwnHere_92 kX12_283 rfl sh_164 (Nat.le_of_ble_eq_true rfl) (Nat.le_of_ble_eq_true rfl) h (fun z92 m92 hG h => ?_)
      refine mm_if_ne (pc := 95) (tgt := 142) dX12_isOwnHere_95 (by decide) (fun hc => ?_) (fun hc => ?_)
      · have h := mm_iff hc h
        refine mm_iconst (pc := 142) (x := 1) dX12_isOwnHere_142 rfl ?_
        refine mm_goto (pc := 143) (tgt := 147) dX12_isOwnHere_143 (by decide) ?_
        exact mm_sub [1] rfl h
      · have h := mm_ift hc h
        refine mm_aload_n (pc := 98) (j := 1) dX12_isOwnHere_98 rfl rfl ?_
        refine mm_aload_n (pc := 99) (j := 1) dX12_isOwnHere_99 rfl rfl ?_
        refine mm_getR (pc := 100) (ci := 12) (N := 116) (r := 175) dX12_isOwnHere_100 fX12_45 sh_164 rfl (g_164_19 hG) ?_
        refine mm_kVI (pc := 103) [.ref 175] dX12_isOwnHere_103 kX12_283 rfl sh_164 (Nat.le_of_ble_eq_true rfl) (Nat.le_of_ble_eq_true rfl) h (fun z103 m103 hG h => ?_)
        refine mm_if_ne (pc := 106) (tgt := 142) dX12_isOwnHere_106 (by decide) (fun hc => ?_) (fun hc => ?_)
        · have h := mm_iff hc h
          refine mm_iconst (pc := 142) (x := 1) dX12_isOwnHere_142 rfl ?_
          refine mm_goto (pc := 143) (tgt := 147) dX12_isOwnHere_143 (by decide) ?_
          exact mm_sub [1] rfl h
        · have h := mm_ift hc h
          refine mm_aload_n (pc := 109) (j := 1) dX12_isOwnHere_109 rfl rfl ?_
          refine mm_aload_n (pc := 110) (j := 1) dX12_isOwnHere_110 rfl rfl ?_
          refine mm_getR (pc := 111) (ci := 12) (N := 116) (r := 176) dX12_isOwnHere_111 fX12_48 sh_164 rfl (g_164_20 hG) ?_
          refine mm_kVI (pc := 114) [.ref 176] dX12_isOwnHere_114 kX12_283 rfl sh_164 (Nat.le_of_ble_eq_true rfl) (Nat.le_of_ble_eq_true rfl) h (fun z114 m114 hG h => ?_)
          refine mm_if_ne (pc := 117) (tgt := 142) dX12_isOwnHere_117 (by decide) (fun hc => ?_) (fun hc => ?_)
          · have h := mm_iff hc h
            refine mm_iconst (pc := 142) (x := 1) dX12_isOwnHere_142 rfl ?_
            refine mm_goto (pc := 143) (tgt := 147) dX12_isOwnHere_143 (by decide) ?_
            exact mm_sub [1] rfl h
          · have h := mm_ift hc h
            refine mm_aload_n (pc := 120) (j := 1) dX12_isOwnHere_120 rfl rfl ?_
            refine mm_aload_n (pc := 121) (j := 1) dX12_isOwnHere_121 rfl rfl ?_
            refine mm_getR (pc := 122) (ci := 12) (N := 116) (r := 177) dX12_isOwnHere_122 fX12_51 sh_164 rfl (g_164_21 hG) ?_
            refine mm_kVI (pc := 125) [.ref 177] dX12_isOwnHere_125 kX12_283 rfl sh_164 (Nat.le_of_ble_eq_true rfl) (Nat.le_of_ble_eq_true rfl) h (fun z125 m125 hG h => ?_)
            refine mm_if_ne (pc := 128) (tgt := 142) dX12_isOwnHere_128 (by decide) (fun hc => ?_) (fun hc => ?_)
            · have h := mm_iff hc h
              refine mm_iconst (pc := 142) (x := 1) dX12_isOwnHere_142 rfl ?_
              refine mm_goto (pc := 143) (tgt := 147) dX12_isOwnHere_143 (by decide) ?_
              exact mm_sub [1] rfl h
            · have h := mm_ift hc h
              refine mm_aload_n (pc := 131) (j := 1) dX12_isOwnHere_131 rfl rfl ?_
              refine mm_aload_n (pc := 132) (j := 1) dX12_isOwnHere_132 rfl rfl ?_
              refine mm_getR (pc := 133) (ci := 12) (N := 116) (r := 178) dX12_isOwnHere_133 fX12_54 sh_164 rfl (g_164_22 hG) ?_
              refine mm_kVI (pc := 136) [.ref 178] dX12_isOwnHere_136 kX12_283 rfl sh_164 (Nat.le_of_ble_eq_true rfl) (Nat.le_of_ble_eq_true rfl) h (fun z136 m136 hG h => ?_)
              refine mm_if_eq (pc := 139) (tgt := 146) dX12_isOwnHere_139 (by decide) (fun hc => ?_) (fun hc => ?_)
              · have h := mm_ift hc h
                refine mm_iconst (pc := 146) (x := 0) dX12_isOwnHere_146 rfl ?_
                exact mm_sub [1] rfl h
              · have h := mm_iff hc h
                refine mm_iconst (pc := 142) (x := 1) dX12_isOwnHere_142 rfl ?_
                refine mm_goto (pc := 143) (tgt := 147) dX12_isOwnHere_143 (by decide) ?_
                exact mm_sub [1] rfl h
set_option maxRecDepth 100000 in
set_option maxHeartbeats 4000000 in
theorem lX12_isOwnHere_147 {d : Nat} {M : mm_M} {K : Int32 → mm_M → Prop} {u0 : Int32} (hG : mm_G M.2.2) (h : if u0 = 0 then (mm_CI mX12_isHere d [.ref 164, .ref 179] M (fun z157 m157 => if z157 = 0 then (mm_CI mX12_isHere d [.ref 164, .ref 180] m157 (fun z168 m168 => if z168 = 0 then (mm_CI mX12_isHere d [.ref 164, .ref 181] m168 (fun z179 m179 => if z179 = 0 then (mm_CI mX12_isHere d [.ref 164, .ref 182] m179 (fun z190 m190 => if z190 = 0 then (mm_CI mX12_isHere d [.ref 164, .ref 183] m190 (fun z201 m201 => if z201 = 0 then (mm_CI mX12_isHere d [.ref 164, .ref 184] m201 (fun z212 m212 => if z212 = 0 then (jX12_isOwnHere_223 d m212 K 0) else (jX12_isOwnHere_223 d m212 K 1))) else (jX12_isOwnHere_223 d m201 K 1))) else (jX12_isOwnHere_223 d m190 K 1))) else (jX12_isOwnHere_223 d m179 K 1))) else (jX12_isOwnHere_223 d m168 K 1))) else (jX12_isOwnHere_223 d m157 K 1))) else (jX12_isOwnHere_223 d M K 1)) : jX12_isOwnHere_147 d  M K u0 := by
  unfold jX12_isOwnHere_147
  refine mm_istore_n (pc := 147) (lv' := [(1, .int u0), (0, .ref 164)]) dX12_isOwnHere_147 rfl (by decide) rfl ?_
  refine mm_iload_n (pc := 148) (j := 0) dX12_isOwnHere_148 rfl rfl ?_
  refine mm_if_ne (pc := 149) (tgt := 218) dX12_isOwnHere_149 (by decide) (fun hc => ?_) (fun hc => ?_)
  · have h := mm_iff hc h
    refine mm_iconst (pc := 218) (x := 1) dX12_isOwnHere_218 rfl ?_
    refine mm_goto (pc := 219) (tgt := 223) dX12_isOwnHere_219 (by decide) ?_
    exact mm_sub [1] rfl h
  · have h := mm_ift hc h
    refine mm_aload_n (pc := 152) (j := 1) dX12_isOwnHere_152 rfl rfl ?_
    refine mm_aload_n (pc := 153) (j := 1) dX12_isOwnHere_153 rfl rfl ?_
    refine mm_getR (pc := 154) (ci := 12) (N := 116) (r := 179) dX12_isOwnHere_154 fX12_57 sh_164 rfl (g_164_23 hG) ?_
    refine mm_kVI (pc := 157) [.ref 179] dX12_isOwnHere_157 kX12_283 rfl sh_164 (Nat.le_of_ble_eq_true rfl) (Nat.le_of_ble_eq_true rfl) h (fun z157 m157 hG h => ?_)
    refine mm_if_ne (pc := 160) (tgt := 218) dX12_isOwnHere_160 (by decide) (fun hc => ?_) (fun hc => ?_)
    · have h := mm_iff hc h
      refine mm_iconst (pc := 218) (x := 1) dX12_isOwnHere_218 rfl ?_
      refine mm_goto (pc := 219) (tgt := 223) dX12_isOwnHere_219 (by decide) ?_
      exact mm_sub [1] rfl h
    · have h := mm_ift hc h
      refine mm_aload_n (pc := 163) (j := 1) dX12_isOwnHere_163 rfl rfl ?_
      refine mm_aload_n (pc := 164) (j := 1) dX12_isOwnHere_164 rfl rfl ?_
      refine mm_getR (pc := 165) (ci := 12) (N := 116) (r := 180) dX12_isOwnHere_165 fX12_60 sh_164 rfl (g_164_24 hG) ?_
      refine mm_kVI (pc := 168) [.ref 180] dX12_isOwnHere_168 kX12_283 rfl sh_164 (Nat.le_of_ble_eq_true rfl) (Nat.le_of_ble_eq_true rfl) h (fun z168 m168 hG h => ?_)
      refine mm_if_ne (pc := 171) (tgt := 218) dX12_isOwnHere_171 (by decide) (fun hc => ?_) (fun hc => ?_)
      · have h := mm_iff hc h
        refine mm_iconst (pc := 218) (x := 1) dX12_isOwnHere_218 rfl ?_
        refine mm_goto (pc := 219) (tgt := 223) dX12_isOwnHere_219 (by decide) ?_
        exact mm_sub [1] rfl h
      · have h := mm_ift hc h
        refine mm_aload_n (pc := 174) (j := 1) dX12_isOwnHere_174 rfl rfl ?_
        refine mm_aload_n (pc := 175) (j := 1) dX12_isOwnHere_175 rfl rfl ?_
        refine mm_getR (pc := 176) (ci := 12) (N := 116) (r := 181) dX12_isOwnHere_176 fX12_63 sh_164 rfl (g_164_25 hG) ?_
        refine mm_kVI (pc := 179) [.ref 181] dX12_isOwnHere_179 kX12_283 rfl sh_164 (Nat.le_of_ble_eq_true rfl) (Nat.le_of_ble_eq_true rfl) h (fun z179 m179 hG h => ?_)
        refine mm_if_ne (pc := 182) (tgt := 218) dX12_isOwnHere_182 (by decide) (fun hc => ?_) (fun hc => ?_)
        · have h := mm_iff hc h
          refine mm_iconst (pc := 218) (x := 1) dX12_isOwnHere_218 rfl ?_
          refine mm_goto (pc := 219) (tgt := 223) dX12_isOwnHere_219 (by decide) ?_
          exact mm_sub [1] rfl h
        · have h := mm_ift hc h
          refine mm_aload_n (pc := 185) (j := 1) dX12_isOwnHere_185 rfl rfl ?_
          refine mm_aload_n (pc := 186) (j := 1) dX12_isOwnHere_186 rfl rfl ?_
          refine mm_getR (pc := 187) (ci := 12) (N := 116) (r := 182) dX12_isOwnHere_187 fX12_66 sh_164 rfl (g_164_26 hG) ?_
          refine mm_kVI (pc := 190) [.ref 182] dX12_isOwnHere_190 kX12_283 rfl sh_164 (Nat.le_of_ble_eq_true rfl) (Nat.le_of_ble_eq_true rfl) h (fun z190 m190 hG h => ?_)
          refine mm_if_ne (pc := 193) (tgt := 218) dX12_isOwnHere_193 (by decide) (fun hc => ?_) (fun hc => ?_)
          · have h := mm_iff hc h
            refine mm_iconst (pc := 218) (x := 1) dX12_isOwnHere_218 rfl ?_
            refine mm_goto (pc := 219) (tgt := 223) dX12_isOwnHere_219 (by decide) ?_
            exact mm_sub [1] rfl h
          · have h := mm_ift hc h
            refine mm_aload_n (pc := 196) (j := 1) dX12_isOwnHere_196 rfl rfl ?_
            refine mm_aload_n (pc := 197) (j := 1) dX12_isOwnHere_197 rfl rfl ?_
            refine mm_getR (pc := 198) (ci := 12) (N := 116) (r := 183) dX12_isOwnHere_198 fX12_69 sh_164 rfl (g_164_27 hG) ?_
            refine mm_kVI (pc := 201) [.ref 183] dX12_isOwnHere_201 kX12_283 rfl sh_164 (Nat.le_of_ble_eq_true rfl) (Nat.le_of_ble_eq_true rfl) h (fun z201 m201 hG h => ?_)
            refine mm_if_ne (pc := 204) (tgt := 218) dX12_isOwnHere_204 (by decide) (fun hc => ?_) (fun hc => ?_)
            · have h := mm_iff hc h
              refine mm_iconst (pc := 218) (x := 1) dX12_isOwnHere_218 rfl ?_
              refine mm_goto (pc := 219) (tgt := 223) dX12_isOwnHere_219 (by decide) ?_
              exact mm_sub [1] rfl h
            · have h := mm_ift hc h
              refine mm_aload_n (pc := 207) (j := 1) dX12_isOwnHere_207 rfl rfl ?_
              refine mm_aload_n (pc := 208) (j := 1) dX12_isOwnHere_208 rfl rfl ?_
              refine mm_getR (pc := 209) (ci := 12) (N := 116) (r := 184) dX12_isOwnHere_209 fX12_72 sh_164 rfl (g_164_28 hG) ?_
              refine mm_kVI (pc := 212) [.ref 184] dX12_isOwnHere_212 kX12_283 rfl sh_164 (Nat.le_of_ble_eq_true rfl) (Nat.le_of_ble_eq_true rfl) h (fun z212 m212 hG h => ?_)
              refine mm_if_eq (pc := 215) (tgt := 222) dX12_isOwnHere_215 (by decide) (fun hc => ?_) (fun hc => ?_)
              · have h := mm_ift hc h
                refine mm_iconst (pc := 222) (x := 0) dX12_isOwnHere_222 rfl ?_
                exact mm_sub [1] rfl h
              · have h := mm_iff hc h
                refine mm_iconst (pc := 218) (x := 1) dX12_isOwnHere_218 rfl ?_
                refine mm_goto (pc := 219) (tgt := 223) dX12_isOwnHere_219 (by decide) ?_
                exact mm_sub [1] rfl h
set_option maxRecDepth 100000 in
set_option maxHeartbeats 4000000 in
theorem lX12_isOwnHere_223 {d : Nat} {M : mm_M} {K : Int32 → mm_M → Prop} {u0 : Int32} (hG : mm_G M.2.2) (h : if u0 = 0 then (mm_CI mX12_isHere d [.ref 164, .ref 185] M (fun z233 m233 => if z233 = 0 then (mm_CI mX12_isHere d [.ref 164, .ref 186] m233 (fun z244 m244 => if z244 = 0 then (mm_CI mX12_isHere d [.ref 164, .ref 187] m244 (fun z255 m255 => if z255 = 0 then (mm_CI mX12_isHere d [.ref 164, .ref 188] m255 (fun z266 m266 => if z266 = 0 then (mm_CI mX12_isHere d [.ref 164, .ref 189] m266 (fun z277 m277 => if z277 = 0 then (mm_CI mX12_isHere d [.ref 164, .ref 190] m277 (fun z288 m288 => if z288 = 0 then (K 0 m288) else (K 1 m288))) else (K 1 m277))) else (K 1 m266))) else (K 1 m255))) else (K 1 m244))) else (K 1 m233))) else (K 1 M)) : jX12_isOwnHere_223 d  M K u0 := by
  unfold jX12_isOwnHere_223
  refine mm_istore_n (pc := 223) (lv' := [(1, .int u0), (0, .ref 164)]) dX12_isOwnHere_223 rfl (by decide) rfl ?_
  refine mm_iload_n (pc := 224) (j := 0) dX12_isOwnHere_224 rfl rfl ?_
  refine mm_if_ne (pc := 225) (tgt := 294) dX12_isOwnHere_225 (by decide) (fun hc => ?_) (fun hc => ?_)
  · have h := mm_iff hc h
    refine mm_iconst (pc := 294) (x := 1) dX12_isOwnHere_294 rfl ?_
    refine mm_goto (pc := 295) (tgt := 299) dX12_isOwnHere_295 (by decide) ?_
    refine mm_istore_n (pc := 299) (lv' := [(1, .int 1), (0, .ref 164)]) dX12_isOwnHere_299 rfl (by decide) rfl ?_
    refine mm_iload_n (pc := 300) (j := 0) dX12_isOwnHere_300 rfl rfl ?_
    exact mm_zret (pc := 301) dX12_isOwnHere_301 rfl rfl (Nat.le_refl 0) (Nat.le_refl 0) ⟨_, rfl, rfl, hG, h⟩
  · have h := mm_ift hc h
    refine mm_aload_n (pc := 228) (j := 1) dX12_isOwnHere_228 rfl rfl ?_
    refine mm_aload_n (pc := 229) (j := 1) dX12_isOwnHere_229 rfl rfl ?_
    refine mm_getR (pc := 230) (ci := 12) (N := 116) (r := 185) dX12_isOwnHere_230 fX12_75 sh_164 rfl (g_164_29 hG) ?_
    refine mm_kVI (pc := 233) [.ref 185] dX12_isOwnHere_233 kX12_283 rfl sh_164 (Nat.le_of_ble_eq_true rfl) (Nat.le_of_ble_eq_true rfl) h (fun z233 m233 hG h => ?_)
    refine mm_if_ne (pc := 236) (tgt := 294) dX12_isOwnHere_236 (by decide) (fun hc => ?_) (fun hc => ?_)
    · have h := mm_iff hc h
      refine mm_iconst (pc := 294) (x := 1) dX12_isOwnHere_294 rfl ?_
      refine mm_goto (pc := 295) (tgt := 299) dX12_isOwnHere_295 (by decide) ?_
      refine mm_istore_n (pc := 299) (lv' := [(1, .int 1), (0, .ref 164)]) dX12_isOwnHere_299 rfl (by decide) rfl ?_
      refine mm_iload_n (pc := 300) (j := 0) dX12_isOwnHere_300 rfl rfl ?_
      exact mm_zret (pc := 301) dX12_isOwnHere_301 rfl rfl (Nat.le_refl 0) (Nat.le_refl 0) ⟨_, rfl, rfl, hG, h⟩
    · have h := mm_ift hc h
      refine mm_aload_n (pc := 239) (j := 1) dX12_isOwnHere_239 rfl rfl ?_
      refine mm_aload_n (pc := 240) (j := 1) dX12_isOwnHere_240 rfl rfl ?_
      refine mm_getR (pc := 241) (ci := 12) (N := 116) (r := 186) dX12_isOwnHere_241 fX12_78 sh_164 rfl (g_164_30 hG) ?_
      refine mm_kVI (pc := 244) [.ref 186] dX12_isOwnHere_244 kX12_283 rfl sh_164 (Nat.le_of_ble_eq_true rfl) (Nat.le_of_ble_eq_true rfl) h (fun z244 m244 hG h => ?_)
      refine mm_if_ne (pc := 247) (tgt := 294) dX12_isOwnHere_247 (by decide) (fun hc => ?_) (fun hc => ?_)
      · have h := mm_iff hc h
        refine mm_iconst (pc := 294) (x := 1) dX12_isOwnHere_294 rfl ?_
        refine mm_goto (pc := 295) (tgt := 299) dX12_isOwnHere_295 (by decide) ?_
        refine mm_istore_n (pc := 299) (lv' := [(1, .int 1), (0, .ref 164)]) dX12_isOwnHere_299 rfl (by decide) rfl ?_
        refine mm_iload_n (pc := 300) (j := 0) dX12_isOwnHere_300 rfl rfl ?_
        exact mm_zret (pc := 301) dX12_isOwnHere_301 rfl rfl (Nat.le_refl 0) (Nat.le_refl 0) ⟨_, rfl, rfl, hG, h⟩
      · have h := mm_ift hc h
        refine mm_aload_n (pc := 250) (j := 1) dX12_isOwnHere_250 rfl rfl ?_
        refine mm_aload_n (pc := 251) (j := 1) dX12_isOwnHere_251 rfl rfl ?_
        refine mm_getR (pc := 252) (ci := 12) (N := 116) (r := 187) dX12_isOwnHere_252 fX12_81 sh_164 rfl (g_164_31 hG) ?_
        refine mm_kVI (pc := 255) [.ref 187] dX12_isOwnHere_255 kX12_283 rfl sh_164 (Nat.le_of_ble_eq_true rfl) (Nat.le_of_ble_eq_true rfl) h (fun z255 m255 hG h => ?_)
        refine mm_if_ne (pc := 258) (tgt := 294) dX12_isOwnHere_258 (by decide) (fun hc => ?_) (fun hc => ?_)
        · have h := mm_iff hc h
          refine mm_iconst (pc := 294) (x := 1) dX12_isOwnHere_294 rfl ?_
          refine mm_goto (pc := 295) (tgt := 299) dX12_isOwnHere_295 (by decide) ?_
          refine mm_istore_n (pc := 299) (lv' := [(1, .int 1), (0, .ref 164)]) dX12_isOwnHere_299 rfl (by decide) rfl ?_
          refine mm_iload_n (pc := 300) (j := 0) dX12_isOwnHere_300 rfl rfl ?_
          exact mm_zret (pc := 301) dX12_isOwnHere_301 rfl rfl (Nat.le_refl 0) (Nat.le_refl 0) ⟨_, rfl, rfl, hG, h⟩
        · have h := mm_ift hc h
          refine mm_aload_n (pc := 261) (j := 1) dX12_isOwnHere_261 rfl rfl ?_
          refine mm_aload_n (pc := 262) (j := 1) dX12_isOwnHere_262 rfl rfl ?_
          refine mm_getR (pc := 263) (ci := 12) (N := 116) (r := 188) dX12_isOwnHere_263 fX12_84 sh_164 rfl (g_164_32 hG) ?_
          refine mm_kVI (pc := 266) [.ref 188] dX12_isOwnHere_266 kX12_283 rfl sh_164 (Nat.le_of_ble_eq_true rfl) (Nat.le_of_ble_eq_true rfl) h (fun z266 m266 hG h => ?_)
          refine mm_if_ne (pc := 269) (tgt := 294) dX12_isOwnHere_269 (by decide) (fun hc => ?_) (fun hc => ?_)
          · have h := mm_iff hc h
            refine mm_iconst (pc := 294) (x := 1) dX12_isOwnHere_294 rfl ?_
            refine mm_goto (pc := 295) (tgt := 299) dX12_isOwnHere_295 (by decide) ?_
            refine mm_istore_n (pc := 299) (lv' := [(1, .int 1), (0, .ref 164)]) dX12_isOwnHere_299 rfl (by decide) rfl ?_
            refine mm_iload_n (pc := 300) (j := 0) dX12_isOwnHere_300 rfl rfl ?_
            exact mm_zret (pc := 301) dX12_isOwnHere_301 rfl rfl (Nat.le_refl 0) (Nat.le_refl 0) ⟨_, rfl, rfl, hG, h⟩
          · have h := mm_ift hc h
            refine mm_aload_n (pc := 272) (j := 1) dX12_isOwnHere_272 rfl rfl ?_
            refine mm_aload_n (pc := 273) (j := 1) dX12_isOwnHere_273 rfl rfl ?_
            refine mm_getR (pc := 274) (ci := 12) (N := 116) (r := 189) dX12_isOwnHere_274 fX12_87 sh_164 rfl (g_164_33 hG) ?_
            refine mm_kVI (pc := 277) [.ref 189] dX12_isOwnHere_277 kX12_283 rfl sh_164 (Nat.le_of_ble_eq_true rfl) (Nat.le_of_ble_eq_true rfl) h (fun z277 m277 hG h => ?_)
            refine mm_if_ne (pc := 280) (tgt := 294) dX12_isOwnHere_280 (by decide) (fun hc => ?_) (fun hc => ?_)
            · have h := mm_iff hc h
              refine mm_iconst (pc := 294) (x := 1) dX12_isOwnHere_294 rfl ?_
              refine mm_goto (pc := 295) (tgt := 299) dX12_isOwnHere_295 (by decide) ?_
              refine mm_istore_n (pc := 299) (lv' := [(1, .int 1), (0, .ref 164)]) dX12_isOwnHere_299 rfl (by decide) rfl ?_
              refine mm_iload_n (pc := 300) (j := 0) dX12_isOwnHere_300 rfl rfl ?_
              exact mm_zret (pc := 301) dX12_isOwnHere_301 rfl rfl (Nat.le_refl 0) (Nat.le_refl 0) ⟨_, rfl, rfl, hG, h⟩
            · have h := mm_ift hc h
              refine mm_aload_n (pc := 283) (j := 1) dX12_isOwnHere_283 rfl rfl ?_
              refine mm_aload_n (pc := 284) (j := 1) dX12_isOwnHere_284 rfl rfl ?_
              refine mm_getR (pc := 285) (ci := 12) (N := 116) (r := 190) dX12_isOwnHere_285 fX12_90 sh_164 rfl (g_164_34 hG) ?_
              refine mm_kVI (pc := 288) [.ref 190] dX12_isOwnHere_288 kX12_283 rfl sh_164 (Nat.le_of_ble_eq_true rfl) (Nat.le_of_ble_eq_true rfl) h (fun z288 m288 hG h => ?_)
              refine mm_if_eq (pc := 291) (tgt := 298) dX12_isOwnHere_291 (by decide) (fun hc => ?_) (fun hc => ?_)
              · have h := mm_ift hc h
                refine mm_iconst (pc := 298) (x := 0) dX12_isOwnHere_298 rfl ?_
                refine mm_istore_n (pc := 299) (lv' := [(1, .int 0), (0, .ref 164)]) dX12_isOwnHere_299 rfl (by decide) rfl ?_
                refine mm_iload_n (pc := 300) (j := 0) dX12_isOwnHere_300 rfl rfl ?_
                exact mm_zret (pc := 301) dX12_isOwnHere_301 rfl rfl (Nat.le_refl 0) (Nat.le_refl 0) ⟨_, rfl, rfl, hG, h⟩
              · have h := mm_iff hc h
                refine mm_iconst (pc := 294) (x := 1) dX12_isOwnHere_294 rfl ?_
                refine mm_goto (pc := 295) (tgt := 299) dX12_isOwnHere_295 (by decide) ?_
                refine mm_istore_n (pc := 299) (lv' := [(1, .int 1), (0, .ref 164)]) dX12_isOwnHere_299 rfl (by decide) rfl ?_
                refine mm_iload_n (pc := 300) (j := 0) dX12_isOwnHere_300 rfl rfl ?_
                exact mm_zret (pc := 301) dX12_isOwnHere_301 rfl rfl (Nat.le_refl 0) (Nat.le_refl 0) ⟨_, rfl, rfl, hG, h⟩
def jX12_name_58 (d : Nat) (M : mm_M) (K : Int64 → mm_M → Prop) (y1 : Int64) : Prop := mm_W mX12_name (d + 1) 0 0 58 [(0, .ref 164), (1, .long y1)] [] mm_SH M 0 0 (mm_PL K)
set_option maxRecDepth 100000 in
set_option maxHeartbeats 4000000 in
theorem rX12_name {d : Nat} {M : mm_M} {K : Int64 → mm_M → Prop} (hG : mm_G M.2.2) (h : if (M.1 164 5) = 0 then (mm_CI mX12_look d [.ref 164] M (fun z10 m10 => mm_CI mX12_isLetter d [.int z10] m10 (fun z13 m13 => if z13 = 0 then (mm_CV mX12_fail d [.ref 164, .int 1, .int (m13.1 164 2)] m13 (fun m43 => K 0 m43)) else (if (m13.1 164 2) = (m13.1 164 4) then (mm_CV mX12_fail d [.ref 164, .int 1, .int (m13.1 164 2)] m13 (fun m43 => K 0 m43)) else (mm_CI mX12_isOwnHere d [.ref 164] m13 (fun z31 m31 => if z31 = 0 then (jX12_name_58 d (mm_uI m31 164 35 (m31.1 164 2)) K 0) else (mm_CV mX12_fail d [.ref 164, .int 1, .int (m31.1 164 2)] m31 (fun m43 => K 0 m43)))))))) else (K 0 M)) : mm_CL mX12_name (d + 1) [.ref 164] M K := by
  show mm_W mX12_name (d + 1) 0 0 0 [(0, .ref 164)] [] mm_SH M 0 0 (mm_PL K)
  refine mm_aload_n (pc := 0) (j := 0) dX12_name_0 rfl rfl ?_
  refine mm_getI (pc := 1) (ci := 12) (N := 116) dX12_name_1 fX12_260 sh_164 rfl ?_
  refine mm_if_eq (pc := 4) (tgt := 9) dX12_name_4 (by decide) (fun hc => ?_) (fun hc => ?_)
  · have h := mm_ift hc h
    refine mm_aload_n (pc := 9) (j := 0) dX12_name_9 rfl rfl ?_
    refine mm_kVI (pc := 10) [] dX12_name_10 kX12_272 rfl sh_164 (Nat.le_of_ble_eq_true rfl) (Nat.le_of_ble_eq_true rfl) h (fun z10 m10 hG h => ?_)
    refine mm_kSI (pc := 13) [.int z10] dX12_name_13 kX12_276 rfl (Nat.le_of_ble_eq_true rfl) (Nat.le_of_ble_eq_true rfl) h (fun z13 m13 hG h => ?_)
    refine mm_if_eq (pc := 16) (tgt := 37) dX12_name_16 (by decide) (fun hc => ?_) (fun hc => ?_)
    · have h := mm_ift hc h
      refine mm_aload_n (pc := 37) (j := 0) dX12_name_37 rfl rfl ?_
      refine mm_iconst (pc := 38) (x := 1) dX12_name_38 rfl ?_
      refine mm_aload_n (pc := 39) (j := 0) dX12_name_39 rfl rfl ?_
      refine mm_getI (pc := 40) (ci := 12) (N := 116) dX12_name_40 fX12_266 sh_164 rfl ?_
      refine mm_kVV (pc := 43) [.int 1, .int (m13.1 164 2)] dX12_name_43 kX12_290 rfl sh_164 (Nat.le_of_ble_eq_true rfl) (Nat.le_of_ble_eq_true rfl) h (fun m43 hG h => ?_)
      refine mm_lconst (pc := 46) (x := 0) dX12_name_46 rfl ?_
      exact mm_lret (pc := 47) dX12_name_47 rfl (Nat.le_refl 0) (Nat.le_refl 0) ⟨_, rfl, rfl, hG, h⟩
    · have h := mm_iff hc h
      refine mm_aload_n (pc := 19) (j := 0) dX12_name_19 rfl rfl ?_
      refine mm_getI (pc := 20) (ci := 12) (N := 116) dX12_name_20 fX12_266 sh_164 rfl ?_
      refine mm_aload_n (pc := 23) (j := 0) dX12_name_23 rfl rfl ?_
      refine mm_getI (pc := 24) (ci := 12) (N := 116) dX12_name_24 fX12_280 sh_164 rfl ?_
      refine mm_icmp_eq (pc := 27) (tgt := 37) dX12_name_27 (by decide) (fun hc => ?_) (fun hc => ?_)
      · have h := mm_ift hc h
        refine mm_aload_n (pc := 37) (j := 0) dX12_name_37 rfl rfl ?_
        refine mm_iconst (pc := 38) (x := 1) dX12_name_38 rfl ?_
        refine mm_aload_n (pc := 39) (j := 0) dX12_name_39 rfl rfl ?_
        refine mm_getI (pc := 40) (ci := 12) (N := 116) dX12_name_40 fX12_266 sh_164 rfl ?_
        refine mm_kVV (pc := 43) [.int 1, .int (m13.1 164 2)] dX12_name_43 kX12_290 rfl sh_164 (Nat.le_of_ble_eq_true rfl) (Nat.le_of_ble_eq_true rfl) h (fun m43 hG h => ?_)
        refine mm_lconst (pc := 46) (x := 0) dX12_name_46 rfl ?_
        exact mm_lret (pc := 47) dX12_name_47 rfl (Nat.le_refl 0) (Nat.le_refl 0) ⟨_, rfl, rfl, hG, h⟩
      · have h := mm_iff hc h
        refine mm_aload_n (pc := 30) (j := 0) dX12_name_30 rfl rfl ?_
        refine mm_kVI (pc := 31) [] dX12_name_31 kX12_307 rfl sh_164 (Nat.le_of_ble_eq_true rfl) (Nat.le_of_ble_eq_true rfl) h (fun z31 m31 hG h => ?_)
        refine mm_if_eq (pc := 34) (tgt := 48) dX12_name_34 (by decide) (fun hc => ?_) (fun hc => ?_)
        · have h := mm_ift hc h
          refine mm_aload_n (pc := 48) (j := 0) dX12_name_48 rfl rfl ?_
          refine mm_aload_n (pc := 49) (j := 0) dX12_name_49 rfl rfl ?_
          refine mm_getI (pc := 50) (ci := 12) (N := 116) dX12_name_50 fX12_266 sh_164 rfl ?_
          refine mm_putI (pc := 53) (ci := 12) (N := 116) dX12_name_53 fX12_311 sh_164 (by decide +kernel) rfl rfl rfl ?_
          refine mm_lconst (pc := 56) (x := 0) dX12_name_56 rfl ?_
          refine mm_lstore_n (pc := 57) (lv' := [(1, .long 0), (0, .ref 164)]) dX12_name_57 rfl (by decide) rfl ?_
          exact mm_sub [1, 0] rfl h
        · have h := mm_iff hc h
          refine mm_aload_n (pc := 37) (j := 0) dX12_name_37 rfl rfl ?_
          refine mm_iconst (pc := 38) (x := 1) dX12_name_38 rfl ?_
          refine mm_aload_n (pc := 39) (j := 0) dX12_name_39 rfl rfl ?_
          refine mm_getI (pc := 40) (ci := 12) (N := 116) dX12_name_40 fX12_266 sh_164 rfl ?_
          refine mm_kVV (pc := 43) [.int 1, .int (m31.1 164 2)] dX12_name_43 kX12_290 rfl sh_164 (Nat.le_of_ble_eq_true rfl) (Nat.le_of_ble_eq_true rfl) h (fun m43 hG h => ?_)
          refine mm_lconst (pc := 46) (x := 0) dX12_name_46 rfl ?_
          exact mm_lret (pc := 47) dX12_name_47 rfl (Nat.le_refl 0) (Nat.le_refl 0) ⟨_, rfl, rfl, hG, h⟩
  · have h := mm_iff hc h
    refine mm_lconst (pc := 7) (x := 0) dX12_name_7 rfl ?_
    exact mm_lret (pc := 8) dX12_name_8 rfl (Nat.le_refl 0) (Nat.le_refl 0) ⟨_, rfl, rfl, hG, h⟩
set_option maxRecDepth 100000 in
set_option maxHeartbeats 4000000 in
theorem lX12_name_58 {d : Nat} {M : mm_M} {K : Int64 → mm_M → Prop} {y1 : Int64} (hG : mm_G M.2.2) (h : if (M.1 164 3) ≤ (M.1 164 2) then (K y1 (mm_uI M 164 4 (M.1 164 2))) else (vp_in (M.1 164 2) 1600 ∧ mm_CI mX12_isLetter d [.int (M.1 165 (M.1 164 2).toNatClampNeg)] M (fun z78 m78 => if z78 = 0 then (K y1 (mm_uI m78 164 4 (m78.1 164 2))) else (if ((m78.1 164 2) - (m78.1 164 35)) = 6 then (mm_CV mX12_fail d [.ref 164, .int 1, .int (m78.1 164 2)] m78 (fun m104 => K 0 m104)) else (vp_in (m78.1 164 2) 1600 ∧ jX12_name_58 d (mm_uI m78 164 2 ((m78.1 164 2) + 1)) K ((((27 * y1) + ((m78.1 165 (m78.1 164 2).toNatClampNeg).toInt64)) - 97) + 1)))))) : jX12_name_58 d  M K y1 := by
  unfold jX12_name_58
  refine mm_aload_n (pc := 58) (j := 0) dX12_name_58 rfl rfl ?_
  refine mm_getI (pc := 59) (ci := 12) (N := 116) dX12_name_59 fX12_266 sh_164 rfl ?_
  refine mm_aload_n (pc := 62) (j := 0) dX12_name_62 rfl rfl ?_
  refine mm_getI (pc := 63) (ci := 12) (N := 116) dX12_name_63 fX12_269 sh_164 rfl ?_
  refine mm_icmp_ge (pc := 66) (tgt := 145) dX12_name_66 (by decide) (fun hc => ?_) (fun hc => ?_)
  · have h := mm_ift hc h
    refine mm_aload_n (pc := 145) (j := 0) dX12_name_145 rfl rfl ?_
    refine mm_aload_n (pc := 146) (j := 0) dX12_name_146 rfl rfl ?_
    refine mm_getI (pc := 147) (ci := 12) (N := 116) dX12_name_147 fX12_266 sh_164 rfl ?_
    refine mm_putI (pc := 150) (ci := 12) (N := 116) dX12_name_150 fX12_280 sh_164 (by decide +kernel) rfl rfl rfl ?_
    refine mm_lload_n (pc := 153) (j := 1) dX12_name_153 rfl rfl ?_
    exact mm_lret (pc := 154) dX12_name_154 rfl (Nat.le_refl 0) (Nat.le_refl 0) ⟨_, rfl, rfl, hG, h⟩
  · have h := mm_iff hc h
    refine mm_aload_n (pc := 69) (j := 0) dX12_name_69 rfl rfl ?_
    refine mm_getR (pc := 70) (ci := 12) (N := 116) (r := 165) dX12_name_70 fX12_7 sh_164 rfl (g_164_0 hG) ?_
    refine mm_aload_n (pc := 73) (j := 0) dX12_name_73 rfl rfl ?_
    refine mm_getI (pc := 74) (ci := 12) (N := 116) dX12_name_74 fX12_266 sh_164 rfl ?_
    obtain ⟨hi77, h⟩ := h
    refine mm_iaload (pc := 77) (N := 1600) dX12_name_77 sh_165 hi77 ?_
    refine mm_kSI (pc := 78) [.int (M.1 165 (M.1 164 2).toNatClampNeg)] dX12_name_78 kX12_276 rfl (Nat.le_of_ble_eq_true rfl) (Nat.le_of_ble_eq_true rfl) h (fun z78 m78 hG h => ?_)
    refine mm_if_eq (pc := 81) (tgt := 145) dX12_name_81 (by decide) (fun hc => ?_) (fun hc => ?_)
    · have h := mm_ift hc h
      refine mm_aload_n (pc := 145) (j := 0) dX12_name_145 rfl rfl ?_
      refine mm_aload_n (pc := 146) (j := 0) dX12_name_146 rfl rfl ?_
      refine mm_getI (pc := 147) (ci := 12) (N := 116) dX12_name_147 fX12_266 sh_164 rfl ?_
      refine mm_putI (pc := 150) (ci := 12) (N := 116) dX12_name_150 fX12_280 sh_164 (by decide +kernel) rfl rfl rfl ?_
      refine mm_lload_n (pc := 153) (j := 1) dX12_name_153 rfl rfl ?_
      exact mm_lret (pc := 154) dX12_name_154 rfl (Nat.le_refl 0) (Nat.le_refl 0) ⟨_, rfl, rfl, hG, h⟩
    · have h := mm_iff hc h
      refine mm_aload_n (pc := 84) (j := 0) dX12_name_84 rfl rfl ?_
      refine mm_getI (pc := 85) (ci := 12) (N := 116) dX12_name_85 fX12_266 sh_164 rfl ?_
      refine mm_aload_n (pc := 88) (j := 0) dX12_name_88 rfl rfl ?_
      refine mm_getI (pc := 89) (ci := 12) (N := 116) dX12_name_89 fX12_311 sh_164 rfl ?_
      refine mm_isub (pc := 92) dX12_name_92 ?_
      refine mm_bipush (pc := 93) (x := 6) dX12_name_93 rfl ?_
      refine mm_icmp_ne (pc := 95) (tgt := 109) dX12_name_95 (by decide) (fun hc => ?_) (fun hc => ?_)
      · have h := mm_iff hc h
        refine mm_ldc2 (pc := 109) (x := 27) dX12_name_109 cX12_314 ?_
        refine mm_lload_n (pc := 112) (j := 1) dX12_name_112 rfl rfl ?_
        refine mm_lmul (pc := 113) dX12_name_113 ?_
        refine mm_aload_n (pc := 114) (j := 0) dX12_name_114 rfl rfl ?_
        refine mm_getR (pc := 115) (ci := 12) (N := 116) (r := 165) dX12_name_115 fX12_7 sh_164 rfl (g_164_0 hG) ?_
        refine mm_aload_n (pc := 118) (j := 0) dX12_name_118 rfl rfl ?_
        refine mm_getI (pc := 119) (ci := 12) (N := 116) dX12_name_119 fX12_266 sh_164 rfl ?_
        obtain ⟨hi122, h⟩ := h
        refine mm_iaload (pc := 122) (N := 1600) dX12_name_122 sh_165 hi122 ?_
        refine mm_i2l (pc := 123) dX12_name_123 ?_
        refine mm_ladd (pc := 124) dX12_name_124 ?_
        refine mm_ldc2 (pc := 125) (x := 97) dX12_name_125 cX12_316 ?_
        refine mm_lsub (pc := 128) dX12_name_128 ?_
        refine mm_lconst (pc := 129) (x := 1) dX12_name_129 rfl ?_
        refine mm_ladd (pc := 130) dX12_name_130 ?_
        refine mm_lstore_n (pc := 131) (lv' := [(1, .long ((((27 * y1) + ((m78.1 165 (m78.1 164 2).toNatClampNeg).toInt64)) - 97) + 1)), (0, .ref 164)]) dX12_name_131 rfl (by decide) rfl ?_
        refine mm_aload_n (pc := 132) (j := 1) dX12_name_132 rfl rfl ?_
        refine mm_dup (pc := 133) dX12_name_133 rfl ?_
        refine mm_getI (pc := 134) (ci := 12) (N := 116) dX12_name_134 fX12_266 sh_164 rfl ?_
        refine mm_iconst (pc := 137) (x := 1) dX12_name_137 rfl ?_
        refine mm_iadd (pc := 138) dX12_name_138 ?_
        refine mm_putI (pc := 139) (ci := 12) (N := 116) dX12_name_139 fX12_266 sh_164 (by decide +kernel) rfl rfl rfl ?_
        refine mm_goto (pc := 142) (tgt := 58) dX12_name_142 (by decide) ?_
        exact mm_sub [1, 0] rfl h
      · have h := mm_ift hc h
        refine mm_aload_n (pc := 98) (j := 0) dX12_name_98 rfl rfl ?_
        refine mm_iconst (pc := 99) (x := 1) dX12_name_99 rfl ?_
        refine mm_aload_n (pc := 100) (j := 0) dX12_name_100 rfl rfl ?_
        refine mm_getI (pc := 101) (ci := 12) (N := 116) dX12_name_101 fX12_266 sh_164 rfl ?_
        refine mm_kVV (pc := 104) [.int 1, .int (m78.1 164 2)] dX12_name_104 kX12_290 rfl sh_164 (Nat.le_of_ble_eq_true rfl) (Nat.le_of_ble_eq_true rfl) h (fun m104 hG h => ?_)
        refine mm_lconst (pc := 107) (x := 0) dX12_name_107 rfl ?_
        exact mm_lret (pc := 108) dX12_name_108 rfl (Nat.le_refl 0) (Nat.le_refl 0) ⟨_, rfl, rfl, hG, h⟩
set_option maxRecDepth 100000 in
set_option maxHeartbeats 4000000 in
theorem rX12_kindOf {d : Nat} {x0 : Int32} {M : mm_M} {K : Int32 → mm_M → Prop} (hG : mm_G M.2.2) (h : if 2 ≤ x0 then (if x0 = 3 then (K 2 M) else (K 1 M)) else (K 0 M)) : mm_CI mX12_kindOf d [.int x0] M K := by
  show mm_W mX12_kindOf d 0 0 0 [(0, .int x0)] [] mm_SH M 0 0 (mm_PI K)
  refine mm_iload_n (pc := 0) (j := 0) dX12_kindOf_0 rfl rfl ?_
  refine mm_iconst (pc := 1) (x := 2) dX12_kindOf_1 rfl ?_
  refine mm_icmp_ge (pc := 2) (tgt := 9) dX12_kindOf_2 (by decide) (fun hc => ?_) (fun hc => ?_)
  · have h := mm_ift hc h
    refine mm_iload_n (pc := 9) (j := 0) dX12_kindOf_9 rfl rfl ?_
    refine mm_iconst (pc := 10) (x := 3) dX12_kindOf_10 rfl ?_
    refine mm_icmp_ne (pc := 11) (tgt := 18) dX12_kindOf_11 (by decide) (fun hc => ?_) (fun hc => ?_)
    · have h := mm_iff hc h
      refine mm_iconst (pc := 18) (x := 1) dX12_kindOf_18 rfl ?_
      exact mm_iret (pc := 19) dX12_kindOf_19 rfl (Nat.le_refl 0) (Nat.le_refl 0) ⟨_, rfl, rfl, hG, h⟩
    · have h := mm_ift hc h
      refine mm_iconst (pc := 14) (x := 2) dX12_kindOf_14 rfl ?_
      refine mm_goto (pc := 15) (tgt := 19) dX12_kindOf_15 (by decide) ?_
      exact mm_iret (pc := 19) dX12_kindOf_19 rfl (Nat.le_refl 0) (Nat.le_refl 0) ⟨_, rfl, rfl, hG, h⟩
  · have h := mm_iff hc h
    refine mm_iconst (pc := 5) (x := 0) dX12_kindOf_5 rfl ?_
    refine mm_goto (pc := 6) (tgt := 19) dX12_kindOf_6 (by decide) ?_
    exact mm_iret (pc := 19) dX12_kindOf_19 rfl (Nat.le_refl 0) (Nat.le_refl 0) ⟨_, rfl, rfl, hG, h⟩
set_option maxRecDepth 100000 in
set_option maxHeartbeats 4000000 in
theorem rX12_isAllowed {d : Nat} {x1 : Int32} {M : mm_M} {K : Int32 → mm_M → Prop} (hG : mm_G M.2.2) (h : if (M.1 164 49) = 0 then (if 5 ≤ x1 then (K 0 M) else (K 1 M)) else (if (M.1 164 49) = 1 then (if 4 ≤ x1 then (K 0 M) else (K 1 M)) else (if (M.1 164 49) = 2 then (mm_CI mX12_isIn d [.long x1.toInt64, .long 3, .long 5] M (fun z62 m62 => (z62 = 0 ∨ z62 = 1) ∧ K z62 m62)) else (if x1 < 4 then (K 1 M) else (if x1 ≤ 5 then (K 0 M) else (K 1 M)))))) : mm_CI mX12_isAllowed (d + 1) [.ref 164, .int x1] M K := by
  show mm_W mX12_isAllowed (d + 1) 0 0 0 [(0, .ref 164), (1, .int x1)] [] mm_SH M 0 0 (mm_PI K)
  refine mm_aload_n (pc := 0) (j := 0) dX12_isAllowed_0 rfl rfl ?_
  refine mm_getI (pc := 1) (ci := 12) (N := 116) dX12_isAllowed_1 fX12_318 sh_164 rfl ?_
  by_cases hs4_0 : (M.1 164 49) = 0
  · have h := mm_ift hs4_0 h
    refine mm_tableIn (pc := 4) (off := 28) (tgt := 32) dX12_isAllowed_4 (by rw [hs4_0]; decide) (by rw [hs4_0]; decide) (by rw [hs4_0]; rfl) (by decide) ?_
    refine mm_iload_n (pc := 32) (j := 1) dX12_isAllowed_32 rfl rfl ?_
    refine mm_iconst (pc := 33) (x := 5) dX12_isAllowed_33 rfl ?_
    refine mm_icmp_ge (pc := 34) (tgt := 41) dX12_isAllowed_34 (by decide) (fun hc => ?_) (fun hc => ?_)
    · have h := mm_ift hc h
      refine mm_iconst (pc := 41) (x := 0) dX12_isAllowed_41 rfl ?_
      exact mm_zret (pc := 42) dX12_isAllowed_42 rfl rfl (Nat.le_refl 0) (Nat.le_refl 0) ⟨_, rfl, rfl, hG, h⟩
    · have h := mm_iff hc h
      refine mm_iconst (pc := 37) (x := 1) dX12_isAllowed_37 rfl ?_
      refine mm_goto (pc := 38) (tgt := 42) dX12_isAllowed_38 (by decide) ?_
      exact mm_zret (pc := 42) dX12_isAllowed_42 rfl rfl (Nat.le_refl 0) (Nat.le_refl 0) ⟨_, rfl, rfl, hG, h⟩
  · have h := mm_iff hs4_0 h
    by_cases hs4_1 : (M.1 164 49) = 1
    · have h := mm_ift hs4_1 h
      refine mm_tableIn (pc := 4) (off := 39) (tgt := 43) dX12_isAllowed_4 (by rw [hs4_1]; decide) (by rw [hs4_1]; decide) (by rw [hs4_1]; rfl) (by decide) ?_
      refine mm_iload_n (pc := 43) (j := 1) dX12_isAllowed_43 rfl rfl ?_
      refine mm_iconst (pc := 44) (x := 4) dX12_isAllowed_44 rfl ?_
      refine mm_icmp_ge (pc := 45) (tgt := 52) dX12_isAllowed_45 (by decide) (fun hc => ?_) (fun hc => ?_)
      · have h := mm_ift hc h
        refine mm_iconst (pc := 52) (x := 0) dX12_isAllowed_52 rfl ?_
        exact mm_zret (pc := 53) dX12_isAllowed_53 rfl rfl (Nat.le_refl 0) (Nat.le_refl 0) ⟨_, rfl, rfl, hG, h⟩
      · have h := mm_iff hc h
        refine mm_iconst (pc := 48) (x := 1) dX12_isAllowed_48 rfl ?_
        refine mm_goto (pc := 49) (tgt := 53) dX12_isAllowed_49 (by decide) ?_
        exact mm_zret (pc := 53) dX12_isAllowed_53 rfl rfl (Nat.le_refl 0) (Nat.le_refl 0) ⟨_, rfl, rfl, hG, h⟩
    · have h := mm_iff hs4_1 h
      by_cases hs4_2 : (M.1 164 49) = 2
      · have h := mm_ift hs4_2 h
        refine mm_tableIn (pc := 4) (off := 50) (tgt := 54) dX12_isAllowed_4 (by rw [hs4_2]; decide) (by rw [hs4_2]; decide) (by rw [hs4_2]; rfl) (by decide) ?_
        refine mm_iload_n (pc := 54) (j := 1) dX12_isAllowed_54 rfl rfl ?_
        refine mm_i2l (pc := 55) dX12_isAllowed_55 ?_
        refine mm_ldc2 (pc := 56) (x := 3) dX12_isAllowed_56 cX12_321 ?_
        refine mm_ldc2 (pc := 59) (x := 5) dX12_isAllowed_59 cX12_323 ?_
        refine mm_kSI (pc := 62) [.long x1.toInt64, .long 3, .long 5] dX12_isAllowed_62 kX12_303 rfl (Nat.le_of_ble_eq_true rfl) (Nat.le_of_ble_eq_true rfl) h (fun z62 m62 hG h => ?_)
        obtain ⟨hb, h⟩ := h
        exact mm_zret (pc := 65) dX12_isAllowed_65 rfl (mm_nb hb) (Nat.le_refl 0) (Nat.le_refl 0) ⟨_, rfl, rfl, hG, h⟩
      · have h := mm_iff hs4_2 h
        have ht4_0 := lv_neT hs4_0 (show (0 : Int32).toInt = 0 from rfl)
        have ht4_1 := lv_neT hs4_1 (show (1 : Int32).toInt = 1 from rfl)
        have ht4_2 := lv_neT hs4_2 (show (2 : Int32).toInt = 2 from rfl)
        refine mm_tableOut (pc := 4) (tgt := 66) dX12_isAllowed_4 (by omega) (by decide) ?_
        refine mm_iload_n (pc := 66) (j := 1) dX12_isAllowed_66 rfl rfl ?_
        refine mm_iconst (pc := 67) (x := 4) dX12_isAllowed_67 rfl ?_
        refine mm_icmp_lt (pc := 68) (tgt := 76) dX12_isAllowed_68 (by decide) (fun hc => ?_) (fun hc => ?_)
        · have h := mm_ift hc h
          refine mm_iconst (pc := 76) (x := 1) dX12_isAllowed_76 rfl ?_
          refine mm_goto (pc := 77) (tgt := 81) dX12_isAllowed_77 (by decide) ?_
          exact mm_zret (pc := 81) dX12_isAllowed_81 rfl rfl (Nat.le_refl 0) (Nat.le_refl 0) ⟨_, rfl, rfl, hG, h⟩
        · have h := mm_iff hc h
          refine mm_iload_n (pc := 71) (j := 1) dX12_isAllowed_71 rfl rfl ?_
          refine mm_iconst (pc := 72) (x := 5) dX12_isAllowed_72 rfl ?_
          refine mm_icmp_le (pc := 73) (tgt := 80) dX12_isAllowed_73 (by decide) (fun hc => ?_) (fun hc => ?_)
          · have h := mm_ift hc h
            refine mm_iconst (pc := 80) (x := 0) dX12_isAllowed_80 rfl ?_
            exact mm_zret (pc := 81) dX12_isAllowed_81 rfl rfl (Nat.le_refl 0) (Nat.le_refl 0) ⟨_, rfl, rfl, hG, h⟩
          · have h := mm_iff hc h
            refine mm_iconst (pc := 76) (x := 1) dX12_isAllowed_76 rfl ?_
            refine mm_goto (pc := 77) (tgt := 81) dX12_isAllowed_77 (by decide) ?_
            exact mm_zret (pc := 81) dX12_isAllowed_81 rfl rfl (Nat.le_refl 0) (Nat.le_refl 0) ⟨_, rfl, rfl, hG, h⟩
def jX12_pairOf_21 (d : Nat) (x0 : Int32) (x1 : Int32) (M : mm_M) (K : Int32 → mm_M → Prop) (y2 : Int32) (u0 : Int32) : Prop := mm_W mX12_pairOf d 0 0 21 [(2, .int y2)] [.int u0] mm_SH M 0 0 (mm_PI K)
set_option maxRecDepth 100000 in
set_option maxHeartbeats 4000000 in
theorem rX12_pairOf {d : Nat} {x0 : Int32} {x1 : Int32} {M : mm_M} {K : Int32 → mm_M → Prop} (hG : mm_G M.2.2) (h : if x1 ≤ x0 then (if x1 ≤ x0 then (jX12_pairOf_21 d x0 x1 M K x1 x0) else (jX12_pairOf_21 d x0 x1 M K x1 x1)) else (if x1 ≤ x0 then (jX12_pairOf_21 d x0 x1 M K x0 x0) else (jX12_pairOf_21 d x0 x1 M K x0 x1))) : mm_CI mX12_pairOf d [.int x0, .int x1] M K := by
  show mm_W mX12_pairOf d 0 0 0 [(0, .int x0), (1, .int x1)] [] mm_SH M 0 0 (mm_PI K)
  refine mm_iload_n (pc := 0) (j := 0) dX12_pairOf_0 rfl rfl ?_
  refine mm_iload_n (pc := 1) (j := 1) dX12_pairOf_1 rfl rfl ?_
  refine mm_icmp_ge (pc := 2) (tgt := 9) dX12_pairOf_2 (by decide) (fun hc => ?_) (fun hc => ?_)
  · have h := mm_ift hc h
    refine mm_iload_n (pc := 9) (j := 1) dX12_pairOf_9 rfl rfl ?_
    refine mm_istore_n (pc := 10) (lv' := [(2, .int x1), (0, .int x0), (1, .int x1)]) dX12_pairOf_10 rfl (by decide) rfl ?_
    refine mm_iload_n (pc := 11) (j := 1) dX12_pairOf_11 rfl rfl ?_
    refine mm_iload_n (pc := 12) (j := 2) dX12_pairOf_12 rfl rfl ?_
    refine mm_icmp_ge (pc := 13) (tgt := 20) dX12_pairOf_13 (by decide) (fun hc => ?_) (fun hc => ?_)
    · have h := mm_ift hc h
      refine mm_iload_n (pc := 20) (j := 1) dX12_pairOf_20 rfl rfl ?_
      exact mm_sub [0] rfl h
    · have h := mm_iff hc h
      refine mm_iload_n (pc := 16) (j := 2) dX12_pairOf_16 rfl rfl ?_
      refine mm_goto (pc := 17) (tgt := 21) dX12_pairOf_17 (by decide) ?_
      exact mm_sub [0] rfl h
  · have h := mm_iff hc h
    refine mm_iload_n (pc := 5) (j := 0) dX12_pairOf_5 rfl rfl ?_
    refine mm_goto (pc := 6) (tgt := 10) dX12_pairOf_6 (by decide) ?_
    refine mm_istore_n (pc := 10) (lv' := [(2, .int x0), (0, .int x0), (1, .int x1)]) dX12_pairOf_10 rfl (by decide) rfl ?_
    refine mm_iload_n (pc := 11) (j := 1) dX12_pairOf_11 rfl rfl ?_
    refine mm_iload_n (pc := 12) (j := 2) dX12_pairOf_12 rfl rfl ?_
    refine mm_icmp_ge (pc := 13) (tgt := 20) dX12_pairOf_13 (by decide) (fun hc => ?_) (fun hc => ?_)
    · have h := mm_ift hc h
      refine mm_iload_n (pc := 20) (j := 1) dX12_pairOf_20 rfl rfl ?_
      exact mm_sub [0] rfl h
    · have h := mm_iff hc h
      refine mm_iload_n (pc := 16) (j := 2) dX12_pairOf_16 rfl rfl ?_
      refine mm_goto (pc := 17) (tgt := 21) dX12_pairOf_17 (by decide) ?_
      exact mm_sub [0] rfl h
set_option maxRecDepth 100000 in
set_option maxHeartbeats 4000000 in
theorem lX12_pairOf_21 {d : Nat} {x0 : Int32} {x1 : Int32} {M : mm_M} {K : Int32 → mm_M → Prop} {y2 : Int32} {u0 : Int32} (hG : mm_G M.2.2) (h : K (((((y2 * (13 - y2)) / 2) + u0) - y2) - 1) M) : jX12_pairOf_21 d x0 x1 M K y2 u0 := by
  unfold jX12_pairOf_21
  refine mm_istore_n (pc := 21) (lv' := [(3, .int u0), (2, .int y2)]) dX12_pairOf_21 rfl (by decide) rfl ?_
  refine mm_iload_n (pc := 22) (j := 1) dX12_pairOf_22 rfl rfl ?_
  refine mm_bipush (pc := 23) (x := 13) dX12_pairOf_23 rfl ?_
  refine mm_iload_n (pc := 25) (j := 1) dX12_pairOf_25 rfl rfl ?_
  refine mm_isub (pc := 26) dX12_pairOf_26 ?_
  refine mm_imul (pc := 27) dX12_pairOf_27 ?_
  refine mm_iconst (pc := 28) (x := 2) dX12_pairOf_28 rfl ?_
  refine mm_idiv (pc := 29) dX12_pairOf_29 (by decide) ?_
  refine mm_iload_n (pc := 30) (j := 0) dX12_pairOf_30 rfl rfl ?_
  refine mm_iadd (pc := 31) dX12_pairOf_31 ?_
  refine mm_iload_n (pc := 32) (j := 1) dX12_pairOf_32 rfl rfl ?_
  refine mm_isub (pc := 33) dX12_pairOf_33 ?_
  refine mm_iconst (pc := 34) (x := 1) dX12_pairOf_34 rfl ?_
  refine mm_isub (pc := 35) dX12_pairOf_35 ?_
  exact mm_iret (pc := 36) dX12_pairOf_36 rfl (Nat.le_refl 0) (Nat.le_refl 0) ⟨_, rfl, rfl, hG, h⟩
set_option maxRecDepth 100000 in
set_option maxHeartbeats 4000000 in
theorem rX12_duchyTold {d : Nat} {M : mm_M} {K : mm_M → Prop} (hG : mm_G M.2.2) (h : mm_CV mX12_asks d [.ref 164, .ref 167] M (fun m5 => mm_CI mX12_number d [.ref 164, .int 1, .int 20] m5 (fun z17 m17 => mm_CV mX12_asksSign d [.ref 164, .int 59] (mm_uI m17 191 (0 : Int32).toNatClampNeg z17) (fun m24 => K m24)))) : mm_CV mX12_duchyTold (d + 1) [.ref 164] M K := by
  show mm_W mX12_duchyTold (d + 1) 0 0 0 [(0, .ref 164)] [] mm_SH M 0 0 (mm_PV K)
  refine mm_aload_n (pc := 0) (j := 0) dX12_duchyTold_0 rfl rfl ?_
  refine mm_aload_n (pc := 1) (j := 0) dX12_duchyTold_1 rfl rfl ?_
  refine mm_getR (pc := 2) (ci := 12) (N := 116) (r := 167) dX12_duchyTold_2 fX12_20 sh_164 rfl (g_164_11 hG) ?_
  refine mm_kVV (pc := 5) [.ref 167] dX12_duchyTold_5 kX12_325 rfl sh_164 (Nat.le_of_ble_eq_true rfl) (Nat.le_of_ble_eq_true rfl) h (fun m5 hG h => ?_)
  refine mm_aload_n (pc := 8) (j := 0) dX12_duchyTold_8 rfl rfl ?_
  refine mm_getR (pc := 9) (ci := 12) (N := 116) (r := 191) dX12_duchyTold_9 fX12_93 sh_164 rfl (g_164_36 hG) ?_
  refine mm_iconst (pc := 12) (x := 0) dX12_duchyTold_12 rfl ?_
  refine mm_aload_n (pc := 13) (j := 0) dX12_duchyTold_13 rfl rfl ?_
  refine mm_iconst (pc := 14) (x := 1) dX12_duchyTold_14 rfl ?_
  refine mm_bipush (pc := 15) (x := 20) dX12_duchyTold_15 rfl ?_
  refine mm_kVI (pc := 17) [.int 1, .int 20] dX12_duchyTold_17 kX12_329 rfl sh_164 (Nat.le_of_ble_eq_true rfl) (Nat.le_of_ble_eq_true rfl) h (fun z17 m17 hG h => ?_)
  refine mm_iastore (pc := 20) (N := 4) dX12_duchyTold_20 sh_191 (mm_vin (k := 0) rfl (by decide) (by decide)) ?_
  refine mm_aload_n (pc := 21) (j := 0) dX12_duchyTold_21 rfl rfl ?_
  refine mm_bipush (pc := 22) (x := 59) dX12_duchyTold_22 rfl ?_
  refine mm_kVV (pc := 24) [.int 59] dX12_duchyTold_24 kX12_333 rfl sh_164 (Nat.le_of_ble_eq_true rfl) (Nat.le_of_ble_eq_true rfl) h (fun m24 hG h => ?_)
  exact mm_vret (pc := 27) dX12_duchyTold_27 rfl (Nat.le_refl 0) (Nat.le_refl 0) ⟨rfl, rfl, hG, h⟩
def jX12_houseTold_38 (d : Nat) (x1 : Int32) (M : mm_M) (K : mm_M → Prop) (y2 : Int64) (y4 : Int32) : Prop := mm_W mX12_houseTold (d + 1) 0 0 38 [(0, .ref 164), (2, .long y2), (4, .int y4)] [] mm_SH M 0 0 (mm_PV K)
set_option maxRecDepth 100000 in
set_option maxHeartbeats 4000000 in
theorem rX12_houseTold {d : Nat} {x1 : Int32} {M : mm_M} {K : mm_M → Prop} (hG : mm_G M.2.2) (h : if (M.1 164 5) = 0 then (if (M.1 164 37) = 7 then (mm_CV mX12_fail d [.ref 164, .int 5, .int x1] M (fun m19 => if (m19.1 164 5) = 0 then (mm_CL mX12_name d [.ref 164] m19 (fun z31 m31 => jX12_houseTold_38 d x1 m31 K z31 0)) else (K m19))) else (if (M.1 164 5) = 0 then (mm_CL mX12_name d [.ref 164] M (fun z31 m31 => jX12_houseTold_38 d x1 m31 K z31 0)) else (K M))) else (if (M.1 164 5) = 0 then (mm_CL mX12_name d [.ref 164] M (fun z31 m31 => jX12_houseTold_38 d x1 m31 K z31 0)) else (K M))) : mm_CV mX12_houseTold (d + 1) [.ref 164, .int x1] M K := by
  show mm_W mX12_houseTold (d + 1) 0 0 0 [(0, .ref 164), (1, .int x1)] [] mm_SH M 0 0 (mm_PV K)
  refine mm_aload_n (pc := 0) (j := 0) dX12_houseTold_0 rfl rfl ?_
  refine mm_getI (pc := 1) (ci := 12) (N := 116) dX12_houseTold_1 fX12_260 sh_164 rfl ?_
  refine mm_if_ne (pc := 4) (tgt := 22) dX12_houseTold_4 (by decide) (fun hc => ?_) (fun hc => ?_)
  · have h := mm_iff hc h
    refine mm_aload_n (pc := 22) (j := 0) dX12_houseTold_22 rfl rfl ?_
    refine mm_getI (pc := 23) (ci := 12) (N := 116) dX12_houseTold_23 fX12_260 sh_164 rfl ?_
    refine mm_if_eq (pc := 26) (tgt := 30) dX12_houseTold_26 (by decide) (fun hc => ?_) (fun hc => ?_)
    · have h := mm_ift hc h
      refine mm_aload_n (pc := 30) (j := 0) dX12_houseTold_30 rfl rfl ?_
      refine mm_kVL (pc := 31) [] dX12_houseTold_31 kX12_340 rfl sh_164 (Nat.le_of_ble_eq_true rfl) (Nat.le_of_ble_eq_true rfl) h (fun z31 m31 hG h => ?_)
      refine mm_lstore_n (pc := 34) (lv' := [(2, .long z31), (0, .ref 164), (1, .int x1)]) dX12_houseTold_34 rfl (by decide) rfl ?_
      refine mm_iconst (pc := 35) (x := 0) dX12_houseTold_35 rfl ?_
      refine mm_istore (pc := 36) (lv' := [(4, .int 0), (2, .long z31), (0, .ref 164), (1, .int x1)]) dX12_houseTold_36 (by decide) rfl ?_
      exact mm_sub [2, 1, 0] rfl h
    · have h := mm_iff hc h
      exact mm_vret (pc := 29) dX12_houseTold_29 rfl (Nat.le_refl 0) (Nat.le_refl 0) ⟨rfl, rfl, hG, h⟩
  · have h := mm_ift hc h
    refine mm_aload_n (pc := 7) (j := 0) dX12_houseTold_7 rfl rfl ?_
    refine mm_getI (pc := 8) (ci := 12) (N := 116) dX12_houseTold_8 fX12_337 sh_164 rfl ?_
    refine mm_bipush (pc := 11) (x := 7) dX12_houseTold_11 rfl ?_
    refine mm_icmp_ne (pc := 13) (tgt := 22) dX12_houseTold_13 (by decide) (fun hc => ?_) (fun hc => ?_)
    · have h := mm_iff hc h
      refine mm_aload_n (pc := 22) (j := 0) dX12_houseTold_22 rfl rfl ?_
      refine mm_getI (pc := 23) (ci := 12) (N := 116) dX12_houseTold_23 fX12_260 sh_164 rfl ?_
      refine mm_if_eq (pc := 26) (tgt := 30) dX12_houseTold_26 (by decide) (fun hc => ?_) (fun hc => ?_)
      · have h := mm_ift hc h
        refine mm_aload_n (pc := 30) (j := 0) dX12_houseTold_30 rfl rfl ?_
        refine mm_kVL (pc := 31) [] dX12_houseTold_31 kX12_340 rfl sh_164 (Nat.le_of_ble_eq_true rfl) (Nat.le_of_ble_eq_true rfl) h (fun z31 m31 hG h => ?_)
        refine mm_lstore_n (pc := 34) (lv' := [(2, .long z31), (0, .ref 164), (1, .int x1)]) dX12_houseTold_34 rfl (by decide) rfl ?_
        refine mm_iconst (pc := 35) (x := 0) dX12_houseTold_35 rfl ?_
        refine mm_istore (pc := 36) (lv' := [(4, .int 0), (2, .long z31), (0, .ref 164), (1, .int x1)]) dX12_houseTold_36 (by decide) rfl ?_
        exact mm_sub [2, 1, 0] rfl h
      · have h := mm_iff hc h
        exact mm_vret (pc := 29) dX12_houseTold_29 rfl (Nat.le_refl 0) (Nat.le_refl 0) ⟨rfl, rfl, hG, h⟩
    · have h := mm_ift hc h
      refine mm_aload_n (pc := 16) (j := 0) dX12_houseTold_16 rfl rfl ?_
      refine mm_iconst (pc := 17) (x := 5) dX12_houseTold_17 rfl ?_
      refine mm_iload_n (pc := 18) (j := 1) dX12_houseTold_18 rfl rfl ?_
      refine mm_kVV (pc := 19) [.int 5, .int x1] dX12_houseTold_19 kX12_290 rfl sh_164 (Nat.le_of_ble_eq_true rfl) (Nat.le_of_ble_eq_true rfl) h (fun m19 hG h => ?_)
      refine mm_aload_n (pc := 22) (j := 0) dX12_houseTold_22 rfl rfl ?_
      refine mm_getI (pc := 23) (ci := 12) (N := 116) dX12_houseTold_23 fX12_260 sh_164 rfl ?_
      refine mm_if_eq (pc := 26) (tgt := 30) dX12_houseTold_26 (by decide) (fun hc => ?_) (fun hc => ?_)
      · have h := mm_ift hc h
        refine mm_aload_n (pc := 30) (j := 0) dX12_houseTold_30 rfl rfl ?_
        refine mm_kVL (pc := 31) [] dX12_houseTold_31 kX12_340 rfl sh_164 (Nat.le_of_ble_eq_true rfl) (Nat.le_of_ble_eq_true rfl) h (fun z31 m31 hG h => ?_)
        refine mm_lstore_n (pc := 34) (lv' := [(2, .long z31), (0, .ref 164), (1, .int x1)]) dX12_houseTold_34 rfl (by decide) rfl ?_
        refine mm_iconst (pc := 35) (x := 0) dX12_houseTold_35 rfl ?_
        refine mm_istore (pc := 36) (lv' := [(4, .int 0), (2, .long z31), (0, .ref 164), (1, .int x1)]) dX12_houseTold_36 (by decide) rfl ?_
        exact mm_sub [2, 1, 0] rfl h
      · have h := mm_iff hc h
        exact mm_vret (pc := 29) dX12_houseTold_29 rfl (Nat.le_refl 0) (Nat.le_refl 0) ⟨rfl, rfl, hG, h⟩
set_option maxRecDepth 100000 in
set_option maxHeartbeats 4000000 in
theorem lX12_houseTold_38 {d : Nat} {x1 : Int32} {M : mm_M} {K : mm_M → Prop} {y2 : Int64} {y4 : Int32} (hG : mm_G M.2.2) (h : if (M.1 164 37) ≤ y4 then (mm_CV mX12_asks d [.ref 164, .ref 169] M (fun m86 => mm_CI mX12_number d [.ref 164, .int 0, .int 99] m86 (fun z93 m93 => mm_CV mX12_asks d [.ref 164, .ref 170] m93 (fun m103 => mm_CI mX12_number d [.ref 164, .int 0, .int 9] m103 (fun z110 m110 => if (m110.1 164 5) = 0 then (vp_in (m110.1 164 37) 14 ∧ vp_in ((mm_uL m110 192 (m110.1 164 37).toNatClampNeg y2).1 164 37) 7 ∧ vp_in ((mm_uI (mm_uL m110 192 (m110.1 164 37).toNatClampNeg y2) 193 ((mm_uL m110 192 (m110.1 164 37).toNatClampNeg y2).1 164 37).toNatClampNeg z93).1 164 37) 14 ∧ K (mm_uI (mm_uI (mm_uI (mm_uL m110 192 (m110.1 164 37).toNatClampNeg y2) 193 ((mm_uL m110 192 (m110.1 164 37).toNatClampNeg y2).1 164 37).toNatClampNeg z93) 194 ((mm_uI (mm_uL m110 192 (m110.1 164 37).toNatClampNeg y2) 193 ((mm_uL m110 192 (m110.1 164 37).toNatClampNeg y2).1 164 37).toNatClampNeg z93).1 164 37).toNatClampNeg z110) 164 37 (((mm_uI (mm_uI (mm_uL m110 192 (m110.1 164 37).toNatClampNeg y2) 193 ((mm_uL m110 192 (m110.1 164 37).toNatClampNeg y2).1 164 37).toNatClampNeg z93) 194 ((mm_uI (mm_uL m110 192 (m110.1 164 37).toNatClampNeg y2) 193 ((mm_uL m110 192 (m110.1 164 37).toNatClampNeg y2).1 164 37).toNatClampNeg z93).1 164 37).toNatClampNeg z110).1 164 37) + 1))) else (K m110)))))) else (if (M.1 164 5) = 0 then (vp_in y4 14 ∧ if (M.2.1 192 y4.toNatClampNeg) = y2 then (mm_CV mX12_fail d [.ref 164, .int 3, .int (M.1 164 35)] M (fun m72 => jX12_houseTold_38 d x1 m72 K y2 (y4 + 1))) else (jX12_houseTold_38 d x1 M K y2 (y4 + 1))) else (jX12_houseTold_38 d x1 M K y2 (y4 + 1)))) : jX12_houseTold_38 d x1 M K y2 y4 := by
  unfold jX12_houseTold_38
  refine mm_iload (pc := 38) (j := 2) dX12_houseTold_38 rfl ?_
  refine mm_aload_n (pc := 40) (j := 0) dX12_houseTold_40 rfl rfl ?_
  refine mm_getI (pc := 41) (ci := 12) (N := 116) dX12_houseTold_41 fX12_337 sh_164 rfl ?_
  refine mm_icmp_ge (pc := 44) (tgt := 81) dX12_houseTold_44 (by decide) (fun hc => ?_) (fun hc => ?_)
  · have h := mm_ift hc h
    refine mm_aload_n (pc := 81) (j := 0) dX12_houseTold_81 rfl rfl ?_
    refine mm_aload_n (pc := 82) (j := 0) dX12_houseTold_82 rfl rfl ?_
    refine mm_getR (pc := 83) (ci := 12) (N := 116) (r := 169) dX12_houseTold_83 fX12_27 sh_164 rfl (g_164_13 hG) ?_
    refine mm_kVV (pc := 86) [.ref 169] dX12_houseTold_86 kX12_325 rfl sh_164 (Nat.le_of_ble_eq_true rfl) (Nat.le_of_ble_eq_true rfl) h (fun m86 hG h => ?_)
    refine mm_aload_n (pc := 89) (j := 0) dX12_houseTold_89 rfl rfl ?_
    refine mm_iconst (pc := 90) (x := 0) dX12_houseTold_90 rfl ?_
    refine mm_bipush (pc := 91) (x := 99) dX12_houseTold_91 rfl ?_
    refine mm_kVI (pc := 93) [.int 0, .int 99] dX12_houseTold_93 kX12_329 rfl sh_164 (Nat.le_of_ble_eq_true rfl) (Nat.le_of_ble_eq_true rfl) h (fun z93 m93 hG h => ?_)
    refine mm_istore (pc := 96) (lv' := [(4, .int z93), (0, .ref 164), (2, .long y2)]) dX12_houseTold_96 (by decide) rfl ?_
    refine mm_aload_n (pc := 98) (j := 1) dX12_houseTold_98 rfl rfl ?_
    refine mm_aload_n (pc := 99) (j := 1) dX12_houseTold_99 rfl rfl ?_
    refine mm_getR (pc := 100) (ci := 12) (N := 116) (r := 170) dX12_houseTold_100 fX12_30 sh_164 rfl (g_164_14 hG) ?_
    refine mm_kVV (pc := 103) [.ref 170] dX12_houseTold_103 kX12_325 rfl sh_164 (Nat.le_of_ble_eq_true rfl) (Nat.le_of_ble_eq_true rfl) h (fun m103 hG h => ?_)
    refine mm_aload_n (pc := 106) (j := 1) dX12_houseTold_106 rfl rfl ?_
    refine mm_iconst (pc := 107) (x := 0) dX12_houseTold_107 rfl ?_
    refine mm_bipush (pc := 108) (x := 9) dX12_houseTold_108 rfl ?_
    refine mm_kVI (pc := 110) [.int 0, .int 9] dX12_houseTold_110 kX12_329 rfl sh_164 (Nat.le_of_ble_eq_true rfl) (Nat.le_of_ble_eq_true rfl) h (fun z110 m110 hG h => ?_)
    refine mm_istore (pc := 113) (lv' := [(5, .int z110), (4, .int z93), (0, .ref 164), (2, .long y2)]) dX12_houseTold_113 (by decide) rfl ?_
    refine mm_aload_n (pc := 115) (j := 2) dX12_houseTold_115 rfl rfl ?_
    refine mm_getI (pc := 116) (ci := 12) (N := 116) dX12_houseTold_116 fX12_260 sh_164 rfl ?_
    refine mm_if_eq (pc := 119) (tgt := 123) dX12_houseTold_119 (by decide) (fun hc => ?_) (fun hc => ?_)
    · have h := mm_ift hc h
      refine mm_aload_n (pc := 123) (j := 2) dX12_houseTold_123 rfl rfl ?_
      refine mm_getR (pc := 124) (ci := 12) (N := 116) (r := 192) dX12_houseTold_124 fX12_96 sh_164 rfl (g_164_39 hG) ?_
      refine mm_aload_n (pc := 127) (j := 2) dX12_houseTold_127 rfl rfl ?_
      refine mm_getI (pc := 128) (ci := 12) (N := 116) dX12_houseTold_128 fX12_337 sh_164 rfl ?_
      refine mm_lload_n (pc := 131) (j := 3) dX12_houseTold_131 rfl rfl ?_
      obtain ⟨hi132, h⟩ := h
      refine mm_lastore (pc := 132) (N := 14) dX12_houseTold_132 sh_192 hi132 ?_
      refine mm_aload_n (pc := 133) (j := 2) dX12_houseTold_133 rfl rfl ?_
      refine mm_getR (pc := 134) (ci := 12) (N := 116) (r := 193) dX12_houseTold_134 fX12_100 sh_164 rfl (g_164_40 hG) ?_
      refine mm_aload_n (pc := 137) (j := 2) dX12_houseTold_137 rfl rfl ?_
      refine mm_getI (pc := 138) (ci := 12) (N := 116) dX12_houseTold_138 fX12_337 sh_164 rfl ?_
      refine mm_iload (pc := 141) (j := 1) dX12_houseTold_141 rfl ?_
      obtain ⟨hi143, h⟩ := h
      refine mm_iastore (pc := 143) (N := 7) dX12_houseTold_143 sh_193 hi143 ?_
      refine mm_aload_n (pc := 144) (j := 2) dX12_houseTold_144 rfl rfl ?_
      refine mm_getR (pc := 145) (ci := 12) (N := 116) (r := 194) dX12_houseTold_145 fX12_103 sh_164 rfl (g_164_41 hG) ?_
      refine mm_aload_n (pc := 148) (j := 2) dX12_houseTold_148 rfl rfl ?_
      refine mm_getI (pc := 149) (ci := 12) (N := 116) dX12_houseTold_149 fX12_337 sh_164 rfl ?_
      refine mm_iload (pc := 152) (j := 0) dX12_houseTold_152 rfl ?_
      obtain ⟨hi154, h⟩ := h
      refine mm_iastore (pc := 154) (N := 14) dX12_houseTold_154 sh_194 hi154 ?_
      refine mm_aload_n (pc := 155) (j := 2) dX12_houseTold_155 rfl rfl ?_
      refine mm_dup (pc := 156) dX12_houseTold_156 rfl ?_
      refine mm_getI (pc := 157) (ci := 12) (N := 116) dX12_houseTold_157 fX12_337 sh_164 rfl ?_
      refine mm_iconst (pc := 160) (x := 1) dX12_houseTold_160 rfl ?_
      refine mm_iadd (pc := 161) dX12_houseTold_161 ?_
      refine mm_putI (pc := 162) (ci := 12) (N := 116) dX12_houseTold_162 fX12_337 sh_164 (by decide +kernel) rfl rfl rfl ?_
      exact mm_vret (pc := 165) dX12_houseTold_165 rfl (Nat.le_refl 0) (Nat.le_refl 0) ⟨rfl, rfl, hG, h⟩
    · have h := mm_iff hc h
      exact mm_vret (pc := 122) dX12_houseTold_122 rfl (Nat.le_refl 0) (Nat.le_refl 0) ⟨rfl, rfl, hG, h⟩
  · have h := mm_iff hc h
    refine mm_aload_n (pc := 47) (j := 0) dX12_houseTold_47 rfl rfl ?_
    refine mm_getI (pc := 48) (ci := 12) (N := 116) dX12_houseTold_48 fX12_260 sh_164 rfl ?_
    refine mm_if_ne (pc := 51) (tgt := 75) dX12_houseTold_51 (by decide) (fun hc => ?_) (fun hc => ?_)
    · have h := mm_iff hc h
      refine mm_iinc (pc := 75) (j := 2) (v := y4 + 1) (lv' := [(4, .int (y4 + 1)), (0, .ref 164), (2, .long y2)]) dX12_houseTold_75 rfl rfl (by decide) rfl ?_
      refine mm_goto (pc := 78) (tgt := 38) dX12_houseTold_78 (by decide) ?_
      exact mm_sub [1, 2, 0] rfl h
    · have h := mm_ift hc h
      refine mm_aload_n (pc := 54) (j := 0) dX12_houseTold_54 rfl rfl ?_
      refine mm_getR (pc := 55) (ci := 12) (N := 116) (r := 192) dX12_houseTold_55 fX12_96 sh_164 rfl (g_164_39 hG) ?_
      refine mm_iload (pc := 58) (j := 2) dX12_houseTold_58 rfl ?_
      obtain ⟨hi60, h⟩ := h
      refine mm_laload (pc := 60) (N := 14) dX12_houseTold_60 sh_192 hi60 ?_
      refine mm_lload_n (pc := 61) (j := 1) dX12_houseTold_61 rfl rfl ?_
      refine mm_lcmp (pc := 62) dX12_houseTold_62 ?_
      refine mm_if_ne (pc := 63) (tgt := 75) dX12_houseTold_63 (by decide) (fun hc => ?_) (fun hc => ?_)
      · have h := mm_iff (fun q => hc (lgc_eq.mpr q)) h
        refine mm_iinc (pc := 75) (j := 2) (v := y4 + 1) (lv' := [(4, .int (y4 + 1)), (0, .ref 164), (2, .long y2)]) dX12_houseTold_75 rfl rfl (by decide) rfl ?_
        refine mm_goto (pc := 78) (tgt := 38) dX12_houseTold_78 (by decide) ?_
        exact mm_sub [1, 2, 0] rfl h
      · have h := mm_ift (lgc_eq.mp hc) h
        refine mm_aload_n (pc := 66) (j := 0) dX12_houseTold_66 rfl rfl ?_
        refine mm_iconst (pc := 67) (x := 3) dX12_houseTold_67 rfl ?_
        refine mm_aload_n (pc := 68) (j := 0) dX12_houseTold_68 rfl rfl ?_
        refine mm_getI (pc := 69) (ci := 12) (N := 116) dX12_houseTold_69 fX12_311 sh_164 rfl ?_
        refine mm_kVV (pc := 72) [.int 3, .int (M.1 164 35)] dX12_houseTold_72 kX12_290 rfl sh_164 (Nat.le_of_ble_eq_true rfl) (Nat.le_of_ble_eq_true rfl) h (fun m72 hG h => ?_)
        refine mm_iinc (pc := 75) (j := 2) (v := y4 + 1) (lv' := [(4, .int (y4 + 1)), (0, .ref 164), (2, .long y2)]) dX12_houseTold_75 rfl rfl (by decide) rfl ?_
        refine mm_goto (pc := 78) (tgt := 38) dX12_houseTold_78 (by decide) ?_
        exact mm_sub [1, 2, 0] rfl h
def jX12_houseNamed_7 (d : Nat) (M : mm_M) (K : Int32 → mm_M → Prop) (y1 : Int64) (y3 : Int32) : Prop := mm_W mX12_houseNamed (d + 1) 0 0 7 [(0, .ref 164), (1, .long y1), (3, .int y3)] [] mm_SH M 0 0 (mm_PI K)
set_option maxRecDepth 100000 in
set_option maxHeartbeats 4000000 in
theorem rX12_houseNamed {d : Nat} {M : mm_M} {K : Int32 → mm_M → Prop} (hG : mm_G M.2.2) (h : mm_CL mX12_name d [.ref 164] M (fun z1 m1 => jX12_houseNamed_7 d m1 K z1 0)) : mm_CI mX12_houseNamed (d + 1) [.ref 164] M K := by
  show mm_W mX12_houseNamed (d + 1) 0 0 0 [(0, .ref 164)] [] mm_SH M 0 0 (mm_PI K)
  refine mm_aload_n (pc := 0) (j := 0) dX12_houseNamed_0 rfl rfl ?_
  refine mm_kVL (pc := 1) [] dX12_houseNamed_1 kX12_340 rfl sh_164 (Nat.le_of_ble_eq_true rfl) (Nat.le_of_ble_eq_true rfl) h (fun z1 m1 hG h => ?_)
  refine mm_lstore_n (pc := 4) (lv' := [(1, .long z1), (0, .ref 164)]) dX12_houseNamed_4 rfl (by decide) rfl ?_
  refine mm_iconst (pc := 5) (x := 0) dX12_houseNamed_5 rfl ?_
  refine mm_istore_n (pc := 6) (lv' := [(3, .int 0), (1, .long z1), (0, .ref 164)]) dX12_houseNamed_6 rfl (by decide) rfl ?_
  exact mm_sub [2, 1, 0] rfl h
set_option maxRecDepth 100000 in
set_option maxHeartbeats 4000000 in
theorem lX12_houseNamed_7 {d : Nat} {M : mm_M} {K : Int32 → mm_M → Prop} {y1 : Int64} {y3 : Int32} (hG : mm_G M.2.2) (h : if (M.1 164 37) ≤ y3 then (if (M.1 164 5) = 0 then (mm_CV mX12_fail d [.ref 164, .int 3, .int (M.1 164 35)] M (fun m47 => K 0 m47)) else (K 0 M)) else (vp_in y3 14 ∧ if (M.2.1 192 y3.toNatClampNeg) = y1 then (K y3 M) else (jX12_houseNamed_7 d M K y1 (y3 + 1)))) : jX12_houseNamed_7 d  M K y1 y3 := by
  unfold jX12_houseNamed_7
  refine mm_iload_n (pc := 7) (j := 2) dX12_houseNamed_7 rfl rfl ?_
  refine mm_aload_n (pc := 8) (j := 0) dX12_houseNamed_8 rfl rfl ?_
  refine mm_getI (pc := 9) (ci := 12) (N := 116) dX12_houseNamed_9 fX12_337 sh_164 rfl ?_
  refine mm_icmp_ge (pc := 12) (tgt := 34) dX12_houseNamed_12 (by decide) (fun hc => ?_) (fun hc => ?_)
  · have h := mm_ift hc h
    refine mm_aload_n (pc := 34) (j := 0) dX12_houseNamed_34 rfl rfl ?_
    refine mm_getI (pc := 35) (ci := 12) (N := 116) dX12_houseNamed_35 fX12_260 sh_164 rfl ?_
    refine mm_if_ne (pc := 38) (tgt := 50) dX12_houseNamed_38 (by decide) (fun hc => ?_) (fun hc => ?_)
    · have h := mm_iff hc h
      refine mm_iconst (pc := 50) (x := 0) dX12_houseNamed_50 rfl ?_
      exact mm_iret (pc := 51) dX12_houseNamed_51 rfl (Nat.le_refl 0) (Nat.le_refl 0) ⟨_, rfl, rfl, hG, h⟩
    · have h := mm_ift hc h
      refine mm_aload_n (pc := 41) (j := 0) dX12_houseNamed_41 rfl rfl ?_
      refine mm_iconst (pc := 42) (x := 3) dX12_houseNamed_42 rfl ?_
      refine mm_aload_n (pc := 43) (j := 0) dX12_houseNamed_43 rfl rfl ?_
      refine mm_getI (pc := 44) (ci := 12) (N := 116) dX12_houseNamed_44 fX12_311 sh_164 rfl ?_
      refine mm_kVV (pc := 47) [.int 3, .int (M.1 164 35)] dX12_houseNamed_47 kX12_290 rfl sh_164 (Nat.le_of_ble_eq_true rfl) (Nat.le_of_ble_eq_true rfl) h (fun m47 hG h => ?_)
      refine mm_iconst (pc := 50) (x := 0) dX12_houseNamed_50 rfl ?_
      exact mm_iret (pc := 51) dX12_houseNamed_51 rfl (Nat.le_refl 0) (Nat.le_refl 0) ⟨_, rfl, rfl, hG, h⟩
  · have h := mm_iff hc h
    refine mm_aload_n (pc := 15) (j := 0) dX12_houseNamed_15 rfl rfl ?_
    refine mm_getR (pc := 16) (ci := 12) (N := 116) (r := 192) dX12_houseNamed_16 fX12_96 sh_164 rfl (g_164_39 hG) ?_
    refine mm_iload_n (pc := 19) (j := 2) dX12_houseNamed_19 rfl rfl ?_
    obtain ⟨hi20, h⟩ := h
    refine mm_laload (pc := 20) (N := 14) dX12_houseNamed_20 sh_192 hi20 ?_
    refine mm_lload_n (pc := 21) (j := 1) dX12_houseNamed_21 rfl rfl ?_
    refine mm_lcmp (pc := 22) dX12_houseNamed_22 ?_
    refine mm_if_ne (pc := 23) (tgt := 28) dX12_houseNamed_23 (by decide) (fun hc => ?_) (fun hc => ?_)
    · have h := mm_iff (fun q => hc (lgc_eq.mpr q)) h
      refine mm_iinc (pc := 28) (j := 2) (v := y3 + 1) (lv' := [(3, .int (y3 + 1)), (0, .ref 164), (1, .long y1)]) dX12_houseNamed_28 rfl rfl (by decide) rfl ?_
      refine mm_goto (pc := 31) (tgt := 7) dX12_houseNamed_31 (by decide) ?_
      exact mm_sub [1, 2, 0] rfl h
    · have h := mm_ift (lgc_eq.mp hc) h
      refine mm_iload_n (pc := 26) (j := 2) dX12_houseNamed_26 rfl rfl ?_
      exact mm_iret (pc := 27) dX12_houseNamed_27 rfl (Nat.le_refl 0) (Nat.le_refl 0) ⟨_, rfl, rfl, hG, h⟩
def jX12_feudTold_52 (d : Nat) (M : mm_M) (K : mm_M → Prop) (y1 : Int32) (y2 : Int32) : Prop := mm_W mX12_feudTold (d + 1) 0 0 52 [(0, .ref 164), (1, .int y1), (2, .int y2)] [] mm_SH M 0 0 (mm_PV K)
set_option maxRecDepth 100000 in
set_option maxHeartbeats 4000000 in
theorem rX12_feudTold {d : Nat} {M : mm_M} {K : mm_M → Prop} (hG : mm_G M.2.2) (h : mm_CI mX12_houseNamed d [.ref 164] M (fun z1 m1 => mm_CV mX12_asks d [.ref 164, .ref 172] m1 (fun m10 => mm_CI mX12_houseNamed d [.ref 164] m10 (fun z14 m14 => if (m14.1 164 5) = 0 then (if z1 = z14 then (mm_CV mX12_fail d [.ref 164, .int 3, .int (m14.1 164 35)] m14 (fun m49 => jX12_feudTold_52 d m49 K z1 z14)) else (mm_CI mX12_pairOf d [.int z1, .int z14] m14 (fun z36 m36 => vp_in z36 21 ∧ if (m36.1 195 z36.toNatClampNeg) = 0 then (jX12_feudTold_52 d m36 K z1 z14) else (mm_CV mX12_fail d [.ref 164, .int 3, .int (m36.1 164 35)] m36 (fun m49 => jX12_feudTold_52 d m49 K z1 z14))))) else (jX12_feudTold_52 d m14 K z1 z14))))) : mm_CV mX12_feudTold (d + 1) [.ref 164] M K := by
  show mm_W mX12_feudTold (d + 1) 0 0 0 [(0, .ref 164)] [] mm_SH M 0 0 (mm_PV K)
  refine mm_aload_n (pc := 0) (j := 0) dX12_feudTold_0 rfl rfl ?_
  refine mm_kVI (pc := 1) [] dX12_feudTold_1 kX12_344 rfl sh_164 (Nat.le_of_ble_eq_true rfl) (Nat.le_of_ble_eq_true rfl) h (fun z1 m1 hG h => ?_)
  refine mm_istore_n (pc := 4) (lv' := [(1, .int z1), (0, .ref 164)]) dX12_feudTold_4 rfl (by decide) rfl ?_
  refine mm_aload_n (pc := 5) (j := 1) dX12_feudTold_5 rfl rfl ?_
  refine mm_aload_n (pc := 6) (j := 1) dX12_feudTold_6 rfl rfl ?_
  refine mm_getR (pc := 7) (ci := 12) (N := 116) (r := 172) dX12_feudTold_7 fX12_36 sh_164 rfl (g_164_16 hG) ?_
  refine mm_kVV (pc := 10) [.ref 172] dX12_feudTold_10 kX12_325 rfl sh_164 (Nat.le_of_ble_eq_true rfl) (Nat.le_of_ble_eq_true rfl) h (fun m10 hG h => ?_)
  refine mm_aload_n (pc := 13) (j := 1) dX12_feudTold_13 rfl rfl ?_
  refine mm_kVI (pc := 14) [] dX12_feudTold_14 kX12_344 rfl sh_164 (Nat.le_of_ble_eq_true rfl) (Nat.le_of_ble_eq_true rfl) h (fun z14 m14 hG h => ?_)
  refine mm_istore_n (pc := 17) (lv' := [(2, .int z14), (1, .int z1), (0, .ref 164)]) dX12_feudTold_17 rfl (by decide) rfl ?_
  refine mm_aload_n (pc := 18) (j := 2) dX12_feudTold_18 rfl rfl ?_
  refine mm_getI (pc := 19) (ci := 12) (N := 116) dX12_feudTold_19 fX12_260 sh_164 rfl ?_
  refine mm_if_ne (pc := 22) (tgt := 52) dX12_feudTold_22 (by decide) (fun hc => ?_) (fun hc => ?_)
  · have h := mm_iff hc h
    exact mm_sub [2, 1, 0] rfl h
  · have h := mm_ift hc h
    refine mm_iload_n (pc := 25) (j := 1) dX12_feudTold_25 rfl rfl ?_
    refine mm_iload_n (pc := 26) (j := 0) dX12_feudTold_26 rfl rfl ?_
    refine mm_icmp_eq (pc := 27) (tgt := 43) dX12_feudTold_27 (by decide) (fun hc => ?_) (fun hc => ?_)
    · have h := mm_ift hc h
      refine mm_aload_n (pc := 43) (j := 2) dX12_feudTold_43 rfl rfl ?_
      refine mm_iconst (pc := 44) (x := 3) dX12_feudTold_44 rfl ?_
      refine mm_aload_n (pc := 45) (j := 2) dX12_feudTold_45 rfl rfl ?_
      refine mm_getI (pc := 46) (ci := 12) (N := 116) dX12_feudTold_46 fX12_311 sh_164 rfl ?_
      refine mm_kVV (pc := 49) [.int 3, .int (m14.1 164 35)] dX12_feudTold_49 kX12_290 rfl sh_164 (Nat.le_of_ble_eq_true rfl) (Nat.le_of_ble_eq_true rfl) h (fun m49 hG h => ?_)
      exact mm_sub [2, 1, 0] rfl h
    · have h := mm_iff hc h
      refine mm_aload_n (pc := 30) (j := 2) dX12_feudTold_30 rfl rfl ?_
      refine mm_getR (pc := 31) (ci := 12) (N := 116) (r := 195) dX12_feudTold_31 fX12_106 sh_164 rfl (g_164_42 hG) ?_
      refine mm_iload_n (pc := 34) (j := 1) dX12_feudTold_34 rfl rfl ?_
      refine mm_iload_n (pc := 35) (j := 0) dX12_feudTold_35 rfl rfl ?_
      refine mm_kSI (pc := 36) [.int z1, .int z14] dX12_feudTold_36 kX12_347 rfl (Nat.le_of_ble_eq_true rfl) (Nat.le_of_ble_eq_true rfl) h (fun z36 m36 hG h => ?_)
      obtain ⟨hi39, h⟩ := h
      refine mm_iaload (pc := 39) (N := 21) dX12_feudTold_39 sh_195 hi39 ?_
      refine mm_if_eq (pc := 40) (tgt := 52) dX12_feudTold_40 (by decide) (fun hc => ?_) (fun hc => ?_)
      · have h := mm_ift hc h
        exact mm_sub [2, 1, 0] rfl h
      · have h := mm_iff hc h
        refine mm_aload_n (pc := 43) (j := 2) dX12_feudTold_43 rfl rfl ?_
        refine mm_iconst (pc := 44) (x := 3) dX12_feudTold_44 rfl ?_
        refine mm_aload_n (pc := 45) (j := 2) dX12_feudTold_45 rfl rfl ?_
        refine mm_getI (pc := 46) (ci := 12) (N := 116) dX12_feudTold_46 fX12_311 sh_164 rfl ?_
        refine mm_kVV (pc := 49) [.int 3, .int (m36.1 164 35)] dX12_feudTold_49 kX12_290 rfl sh_164 (Nat.le_of_ble_eq_true rfl) (Nat.le_of_ble_eq_true rfl) h (fun m49 hG h => ?_)
        exact mm_sub [2, 1, 0] rfl h
set_option maxRecDepth 100000 in
set_option maxHeartbeats 4000000 in
theorem lX12_feudTold_52 {d : Nat} {M : mm_M} {K : mm_M → Prop} {y1 : Int32} {y2 : Int32} (hG : mm_G M.2.2) (h : mm_CV mX12_asks d [.ref 164, .ref 173] M (fun m57 => mm_CI mX12_number d [.ref 164, .int 1, .int 99] m57 (fun z64 m64 => if (m64.1 164 5) = 0 then (mm_CI mX12_pairOf d [.int y1, .int y2] m64 (fun z81 m81 => vp_in z81 21 ∧ K (mm_uI m81 195 z81.toNatClampNeg z64))) else (K m64)))) : jX12_feudTold_52 d  M K y1 y2 := by
  unfold jX12_feudTold_52
  refine mm_aload_n (pc := 52) (j := 0) dX12_feudTold_52 rfl rfl ?_
  refine mm_aload_n (pc := 53) (j := 0) dX12_feudTold_53 rfl rfl ?_
  refine mm_getR (pc := 54) (ci := 12) (N := 116) (r := 173) dX12_feudTold_54 fX12_39 sh_164 rfl (g_164_17 hG) ?_
  refine mm_kVV (pc := 57) [.ref 173] dX12_feudTold_57 kX12_325 rfl sh_164 (Nat.le_of_ble_eq_true rfl) (Nat.le_of_ble_eq_true rfl) h (fun m57 hG h => ?_)
  refine mm_aload_n (pc := 60) (j := 0) dX12_feudTold_60 rfl rfl ?_
  refine mm_iconst (pc := 61) (x := 1) dX12_feudTold_61 rfl ?_
  refine mm_bipush (pc := 62) (x := 99) dX12_feudTold_62 rfl ?_
  refine mm_kVI (pc := 64) [.int 1, .int 99] dX12_feudTold_64 kX12_329 rfl sh_164 (Nat.le_of_ble_eq_true rfl) (Nat.le_of_ble_eq_true rfl) h (fun z64 m64 hG h => ?_)
  refine mm_istore_n (pc := 67) (lv' := [(3, .int z64), (0, .ref 164), (1, .int y1), (2, .int y2)]) dX12_feudTold_67 rfl (by decide) rfl ?_
  refine mm_aload_n (pc := 68) (j := 1) dX12_feudTold_68 rfl rfl ?_
  refine mm_getI (pc := 69) (ci := 12) (N := 116) dX12_feudTold_69 fX12_260 sh_164 rfl ?_
  refine mm_if_ne (pc := 72) (tgt := 86) dX12_feudTold_72 (by decide) (fun hc => ?_) (fun hc => ?_)
  · have h := mm_iff hc h
    exact mm_vret (pc := 86) dX12_feudTold_86 rfl (Nat.le_refl 0) (Nat.le_refl 0) ⟨rfl, rfl, hG, h⟩
  · have h := mm_ift hc h
    refine mm_aload_n (pc := 75) (j := 1) dX12_feudTold_75 rfl rfl ?_
    refine mm_getR (pc := 76) (ci := 12) (N := 116) (r := 195) dX12_feudTold_76 fX12_106 sh_164 rfl (g_164_42 hG) ?_
    refine mm_iload_n (pc := 79) (j := 2) dX12_feudTold_79 rfl rfl ?_
    refine mm_iload_n (pc := 80) (j := 3) dX12_feudTold_80 rfl rfl ?_
    refine mm_kSI (pc := 81) [.int y1, .int y2] dX12_feudTold_81 kX12_347 rfl (Nat.le_of_ble_eq_true rfl) (Nat.le_of_ble_eq_true rfl) h (fun z81 m81 hG h => ?_)
    refine mm_iload_n (pc := 84) (j := 0) dX12_feudTold_84 rfl rfl ?_
    obtain ⟨hi85, h⟩ := h
    refine mm_iastore (pc := 85) (N := 21) dX12_feudTold_85 sh_195 hi85 ?_
    exact mm_vret (pc := 86) dX12_feudTold_86 rfl (Nat.le_refl 0) (Nat.le_refl 0) ⟨rfl, rfl, hG, h⟩
def jX12_codesTold_23 (d : Nat) (x1 : Int32) (x2 : Int32) (M : mm_M) (K : mm_M → Prop) (y1 : Int32) : Prop := mm_W mX12_codesTold (d + 1) 0 0 23 [(0, .ref 164), (1, .int y1)] [] mm_SH M 0 0 (mm_PV K)
def jX12_codesTold_95 (d : Nat) (x1 : Int32) (x2 : Int32) (M : mm_M) (K : mm_M → Prop) (y1 : Int32) (y3 : Int32) : Prop := mm_W mX12_codesTold (d + 1) 0 0 95 [(0, .ref 164), (1, .int y1), (3, .int y3)] [] mm_SH M 0 0 (mm_PV K)
set_option maxRecDepth 100000 in
set_option maxHeartbeats 4000000 in
theorem rX12_codesTold {d : Nat} {x1 : Int32} {x2 : Int32} {M : mm_M} {K : mm_M → Prop} (hG : mm_G M.2.2) (h : if (M.1 164 5) = 0 then (vp_in x1 10 ∧ if (M.1 196 x1.toNatClampNeg) = (-1) then (jX12_codesTold_23 d x1 x2 M K x1) else (mm_CV mX12_fail d [.ref 164, .int 5, .int x2] M (fun m20 => jX12_codesTold_23 d x1 x2 m20 K x1))) else (jX12_codesTold_23 d x1 x2 M K x1)) : mm_CV mX12_codesTold (d + 1) [.ref 164, .int x1, .int x2] M K := by
  show mm_W mX12_codesTold (d + 1) 0 0 0 [(0, .ref 164), (1, .int x1), (2, .int x2)] [] mm_SH M 0 0 (mm_PV K)
  refine mm_aload_n (pc := 0) (j := 0) dX12_codesTold_0 rfl rfl ?_
  refine mm_getI (pc := 1) (ci := 12) (N := 116) dX12_codesTold_1 fX12_260 sh_164 rfl ?_
  refine mm_if_ne (pc := 4) (tgt := 23) dX12_codesTold_4 (by decide) (fun hc => ?_) (fun hc => ?_)
  · have h := mm_iff hc h
    exact mm_sub [0, 1] rfl h
  · have h := mm_ift hc h
    refine mm_aload_n (pc := 7) (j := 0) dX12_codesTold_7 rfl rfl ?_
    refine mm_getR (pc := 8) (ci := 12) (N := 116) (r := 196) dX12_codesTold_8 fX12_109 sh_164 rfl (g_164_43 hG) ?_
    refine mm_iload_n (pc := 11) (j := 1) dX12_codesTold_11 rfl rfl ?_
    obtain ⟨hi12, h⟩ := h
    refine mm_iaload (pc := 12) (N := 10) dX12_codesTold_12 sh_196 hi12 ?_
    refine mm_iconst (pc := 13) (x := (-1)) dX12_codesTold_13 rfl ?_
    refine mm_icmp_eq (pc := 14) (tgt := 23) dX12_codesTold_14 (by decide) (fun hc => ?_) (fun hc => ?_)
    · have h := mm_ift hc h
      exact mm_sub [0, 1] rfl h
    · have h := mm_iff hc h
      refine mm_aload_n (pc := 17) (j := 0) dX12_codesTold_17 rfl rfl ?_
      refine mm_iconst (pc := 18) (x := 5) dX12_codesTold_18 rfl ?_
      refine mm_iload_n (pc := 19) (j := 2) dX12_codesTold_19 rfl rfl ?_
      refine mm_kVV (pc := 20) [.int 5, .int x2] dX12_codesTold_20 kX12_290 rfl sh_164 (Nat.le_of_ble_eq_true rfl) (Nat.le_of_ble_eq_true rfl) h (fun m20 hG h => ?_)
      exact mm_sub [0, 1] rfl h
set_option maxRecDepth 100000 in
set_option maxHeartbeats 4000000 in
theorem lX12_codesTold_23 {d : Nat} {x1 : Int32} {x2 : Int32} {M : mm_M} {K : mm_M → Prop} {y1 : Int32} (hG : mm_G M.2.2) (h : if (M.1 164 5) = 0 then (mm_CI mX12_kindOf d [.int y1] M (fun z33 m33 => if y1 = 2 then (mm_CV mX12_qTest d [.ref 164] (mm_uI (mm_uI (mm_uI (mm_uI (mm_uI m33 164 49 z33) 164 105 0) 164 107 0) 164 108 0) 164 109 0) (fun m65 => if (m65.1 164 5) = 0 then (vp_in y1 10 ∧ jX12_codesTold_95 d x1 x2 (mm_uI m65 196 y1.toNatClampNeg (m65.1 164 46)) K y1 0) else (K m65))) else (mm_CV mX12_qSums d [.ref 164] (mm_uI (mm_uI (mm_uI (mm_uI (mm_uI m33 164 49 z33) 164 105 0) 164 107 0) 164 108 0) 164 109 0) (fun m72 => if (m72.1 164 5) = 0 then (vp_in y1 10 ∧ jX12_codesTold_95 d x1 x2 (mm_uI m72 196 y1.toNatClampNeg (m72.1 164 46)) K y1 0) else (K m72))))) else (K M)) : jX12_codesTold_23 d x1 x2 M K y1 := by
  unfold jX12_codesTold_23
  refine mm_aload_n (pc := 23) (j := 0) dX12_codesTold_23 rfl rfl ?_
  refine mm_getI (pc := 24) (ci := 12) (N := 116) dX12_codesTold_24 fX12_260 sh_164 rfl ?_
  refine mm_if_eq (pc := 27) (tgt := 31) dX12_codesTold_27 (by decide) (fun hc => ?_) (fun hc => ?_)
  · have h := mm_ift hc h
    refine mm_aload_n (pc := 31) (j := 0) dX12_codesTold_31 rfl rfl ?_
    refine mm_iload_n (pc := 32) (j := 1) dX12_codesTold_32 rfl rfl ?_
    refine mm_kSI (pc := 33) [.int y1] dX12_codesTold_33 kX12_350 rfl (Nat.le_of_ble_eq_true rfl) (Nat.le_of_ble_eq_true rfl) h (fun z33 m33 hG h => ?_)
    refine mm_putI (pc := 36) (ci := 12) (N := 116) dX12_codesTold_36 fX12_318 sh_164 (by decide +kernel) rfl rfl rfl ?_
    refine mm_aload_n (pc := 39) (j := 0) dX12_codesTold_39 rfl rfl ?_
    refine mm_iconst (pc := 40) (x := 0) dX12_codesTold_40 rfl ?_
    refine mm_putI (pc := 41) (ci := 12) (N := 116) dX12_codesTold_41 fX12_354 sh_164 (by decide +kernel) rfl rfl rfl ?_
    refine mm_aload_n (pc := 44) (j := 0) dX12_codesTold_44 rfl rfl ?_
    refine mm_iconst (pc := 45) (x := 0) dX12_codesTold_45 rfl ?_
    refine mm_putI (pc := 46) (ci := 12) (N := 116) dX12_codesTold_46 fX12_357 sh_164 (by decide +kernel) rfl rfl rfl ?_
    refine mm_aload_n (pc := 49) (j := 0) dX12_codesTold_49 rfl rfl ?_
    refine mm_iconst (pc := 50) (x := 0) dX12_codesTold_50 rfl ?_
    refine mm_putI (pc := 51) (ci := 12) (N := 116) dX12_codesTold_51 fX12_360 sh_164 (by decide +kernel) rfl rfl rfl ?_
    refine mm_aload_n (pc := 54) (j := 0) dX12_codesTold_54 rfl rfl ?_
    refine mm_iconst (pc := 55) (x := 0) dX12_codesTold_55 rfl ?_
    refine mm_putI (pc := 56) (ci := 12) (N := 116) dX12_codesTold_56 fX12_363 sh_164 (by decide +kernel) rfl rfl rfl ?_
    refine mm_iload_n (pc := 59) (j := 1) dX12_codesTold_59 rfl rfl ?_
    refine mm_iconst (pc := 60) (x := 2) dX12_codesTold_60 rfl ?_
    refine mm_icmp_ne (pc := 61) (tgt := 71) dX12_codesTold_61 (by decide) (fun hc => ?_) (fun hc => ?_)
    · have h := mm_iff hc h
      refine mm_aload_n (pc := 71) (j := 0) dX12_codesTold_71 rfl rfl ?_
      refine mm_kVV (pc := 72) [] dX12_codesTold_72 kX12_369 rfl sh_164 (Nat.le_of_ble_eq_true rfl) (Nat.le_of_ble_eq_true rfl) h (fun m72 hG h => ?_)
      refine mm_aload_n (pc := 75) (j := 0) dX12_codesTold_75 rfl rfl ?_
      refine mm_getI (pc := 76) (ci := 12) (N := 116) dX12_codesTold_76 fX12_260 sh_164 rfl ?_
      refine mm_if_eq (pc := 79) (tgt := 83) dX12_codesTold_79 (by decide) (fun hc => ?_) (fun hc => ?_)
      · have h := mm_ift hc h
        refine mm_aload_n (pc := 83) (j := 0) dX12_codesTold_83 rfl rfl ?_
        refine mm_getR (pc := 84) (ci := 12) (N := 116) (r := 196) dX12_codesTold_84 fX12_109 sh_164 rfl (g_164_43 hG) ?_
        refine mm_iload_n (pc := 87) (j := 1) dX12_codesTold_87 rfl rfl ?_
        refine mm_aload_n (pc := 88) (j := 0) dX12_codesTold_88 rfl rfl ?_
        refine mm_getI (pc := 89) (ci := 12) (N := 116) dX12_codesTold_89 fX12_372 sh_164 rfl ?_
        obtain ⟨hi92, h⟩ := h
        refine mm_iastore (pc := 92) (N := 10) dX12_codesTold_92 sh_196 hi92 ?_
        refine mm_iconst (pc := 93) (x := 0) dX12_codesTold_93 rfl ?_
        refine mm_istore_n (pc := 94) (lv' := [(3, .int 0), (0, .ref 164), (1, .int y1)]) dX12_codesTold_94 rfl (by decide) rfl ?_
        exact mm_sub [1, 2, 0] rfl h
      · have h := mm_iff hc h
        exact mm_vret (pc := 82) dX12_codesTold_82 rfl (Nat.le_refl 0) (Nat.le_refl 0) ⟨rfl, rfl, hG, h⟩
    · have h := mm_ift hc h
      refine mm_aload_n (pc := 64) (j := 0) dX12_codesTold_64 rfl rfl ?_
      refine mm_kVV (pc := 65) [] dX12_codesTold_65 kX12_366 rfl sh_164 (Nat.le_of_ble_eq_true rfl) (Nat.le_of_ble_eq_true rfl) h (fun m65 hG h => ?_)
      refine mm_goto (pc := 68) (tgt := 75) dX12_codesTold_68 (by decide) ?_
      refine mm_aload_n (pc := 75) (j := 0) dX12_codesTold_75 rfl rfl ?_
      refine mm_getI (pc := 76) (ci := 12) (N := 116) dX12_codesTold_76 fX12_260 sh_164 rfl ?_
      refine mm_if_eq (pc := 79) (tgt := 83) dX12_codesTold_79 (by decide) (fun hc => ?_) (fun hc => ?_)
      · have h := mm_ift hc h
        refine mm_aload_n (pc := 83) (j := 0) dX12_codesTold_83 rfl rfl ?_
        refine mm_getR (pc := 84) (ci := 12) (N := 116) (r := 196) dX12_codesTold_84 fX12_109 sh_164 rfl (g_164_43 hG) ?_
        refine mm_iload_n (pc := 87) (j := 1) dX12_codesTold_87 rfl rfl ?_
        refine mm_aload_n (pc := 88) (j := 0) dX12_codesTold_88 rfl rfl ?_
        refine mm_getI (pc := 89) (ci := 12) (N := 116) dX12_codesTold_89 fX12_372 sh_164 rfl ?_
        obtain ⟨hi92, h⟩ := h
        refine mm_iastore (pc := 92) (N := 10) dX12_codesTold_92 sh_196 hi92 ?_
        refine mm_iconst (pc := 93) (x := 0) dX12_codesTold_93 rfl ?_
        refine mm_istore_n (pc := 94) (lv' := [(3, .int 0), (0, .ref 164), (1, .int y1)]) dX12_codesTold_94 rfl (by decide) rfl ?_
        exact mm_sub [1, 2, 0] rfl h
      · have h := mm_iff hc h
        exact mm_vret (pc := 82) dX12_codesTold_82 rfl (Nat.le_refl 0) (Nat.le_refl 0) ⟨rfl, rfl, hG, h⟩
  · have h := mm_iff hc h
    exact mm_vret (pc := 30) dX12_codesTold_30 rfl (Nat.le_refl 0) (Nat.le_refl 0) ⟨rfl, rfl, hG, h⟩
set_option maxRecDepth 100000 in
set_option maxHeartbeats 4000000 in
theorem lX12_codesTold_95 {d : Nat} {x1 : Int32} {x2 : Int32} {M : mm_M} {K : mm_M → Prop} {y1 : Int32} {y3 : Int32} (hG : mm_G M.2.2) (h : if (M.1 164 105) ≤ y3 then (vp_in y1 10 ∧ K (mm_uI M 197 y1.toNatClampNeg (M.1 164 46))) else (vp_in y3 1700 ∧ vp_in (M.1 164 46) 3200 ∧ jX12_codesTold_95 d x1 x2 (mm_uI (mm_uI M 198 (M.1 164 46).toNatClampNeg (M.1 239 y3.toNatClampNeg)) 164 46 (((mm_uI M 198 (M.1 164 46).toNatClampNeg (M.1 239 y3.toNatClampNeg)).1 164 46) + 1)) K y1 (y3 + 1))) : jX12_codesTold_95 d x1 x2 M K y1 y3 := by
  unfold jX12_codesTold_95
  refine mm_iload_n (pc := 95) (j := 2) dX12_codesTold_95 rfl rfl ?_
  refine mm_aload_n (pc := 96) (j := 0) dX12_codesTold_96 rfl rfl ?_
  refine mm_getI (pc := 97) (ci := 12) (N := 116) dX12_codesTold_97 fX12_354 sh_164 rfl ?_
  refine mm_icmp_ge (pc := 100) (tgt := 134) dX12_codesTold_100 (by decide) (fun hc => ?_) (fun hc => ?_)
  · have h := mm_ift hc h
    refine mm_aload_n (pc := 134) (j := 0) dX12_codesTold_134 rfl rfl ?_
    refine mm_getR (pc := 135) (ci := 12) (N := 116) (r := 197) dX12_codesTold_135 fX12_112 sh_164 rfl (g_164_44 hG) ?_
    refine mm_iload_n (pc := 138) (j := 1) dX12_codesTold_138 rfl rfl ?_
    refine mm_aload_n (pc := 139) (j := 0) dX12_codesTold_139 rfl rfl ?_
    refine mm_getI (pc := 140) (ci := 12) (N := 116) dX12_codesTold_140 fX12_372 sh_164 rfl ?_
    obtain ⟨hi143, h⟩ := h
    refine mm_iastore (pc := 143) (N := 10) dX12_codesTold_143 sh_197 hi143 ?_
    exact mm_vret (pc := 144) dX12_codesTold_144 rfl (Nat.le_refl 0) (Nat.le_refl 0) ⟨rfl, rfl, hG, h⟩
  · have h := mm_iff hc h
    refine mm_aload_n (pc := 103) (j := 0) dX12_codesTold_103 rfl rfl ?_
    refine mm_getR (pc := 104) (ci := 12) (N := 116) (r := 198) dX12_codesTold_104 fX12_115 sh_164 rfl (g_164_45 hG) ?_
    refine mm_aload_n (pc := 107) (j := 0) dX12_codesTold_107 rfl rfl ?_
    refine mm_getI (pc := 108) (ci := 12) (N := 116) dX12_codesTold_108 fX12_372 sh_164 rfl ?_
    refine mm_aload_n (pc := 111) (j := 0) dX12_codesTold_111 rfl rfl ?_
    refine mm_getR (pc := 112) (ci := 12) (N := 116) (r := 239) dX12_codesTold_112 fX12_243 sh_164 rfl (g_164_104 hG) ?_
    refine mm_iload_n (pc := 115) (j := 2) dX12_codesTold_115 rfl rfl ?_
    obtain ⟨hi116, h⟩ := h
    refine mm_iaload (pc := 116) (N := 1700) dX12_codesTold_116 sh_239 hi116 ?_
    obtain ⟨hi117, h⟩ := h
    refine mm_iastore (pc := 117) (N := 3200) dX12_codesTold_117 sh_198 hi117 ?_
    refine mm_aload_n (pc := 118) (j := 0) dX12_codesTold_118 rfl rfl ?_
    refine mm_dup (pc := 119) dX12_codesTold_119 rfl ?_
    refine mm_getI (pc := 120) (ci := 12) (N := 116) dX12_codesTold_120 fX12_372 sh_164 rfl ?_
    refine mm_iconst (pc := 123) (x := 1) dX12_codesTold_123 rfl ?_
    refine mm_iadd (pc := 124) dX12_codesTold_124 ?_
    refine mm_putI (pc := 125) (ci := 12) (N := 116) dX12_codesTold_125 fX12_372 sh_164 (by decide +kernel) rfl rfl rfl ?_
    refine mm_iinc (pc := 128) (j := 2) (v := y3 + 1) (lv' := [(3, .int (y3 + 1)), (0, .ref 164), (1, .int y1)]) dX12_codesTold_128 rfl rfl (by decide) rfl ?_
    refine mm_goto (pc := 131) (tgt := 95) dX12_codesTold_131 (by decide) ?_
    exact mm_sub [1, 2, 0] rfl h
set_option maxRecDepth 100000 in
set_option maxHeartbeats 4000000 in
theorem rX12_statementTold {d : Nat} {M : mm_M} {K : mm_M → Prop} (hG : mm_G M.2.2) (h : if (M.1 164 47) = 60 then (mm_CV mX12_fail d [.ref 164, .int 5, .int (M.1 164 2)] M (fun m17 => K m17)) else (mm_CI mX12_takes d [.ref 164, .ref 168] M (fun z26 m26 => if z26 = 0 then (mm_CI mX12_takes d [.ref 164, .ref 171] m26 (fun z45 m45 => if z45 = 0 then (mm_CI mX12_takes d [.ref 164, .ref 174] m45 (fun z63 m63 => if z63 = 0 then (mm_CI mX12_takes d [.ref 164, .ref 175] m63 (fun z83 m83 => if z83 = 0 then (mm_CI mX12_takes d [.ref 164, .ref 176] m83 (fun z103 m103 => if z103 = 0 then (mm_CI mX12_takes d [.ref 164, .ref 177] m103 (fun z123 m123 => if z123 = 0 then (mm_CI mX12_takes d [.ref 164, .ref 178] m123 (fun z143 m143 => if z143 = 0 then (mm_CV mX12_asks d [.ref 164, .ref 179] m143 (fun m163 => mm_CI mX12_number d [.ref 164, .int 0, .int 100] m163 (fun z175 m175 => mm_CV mX12_asksSign d [.ref 164, .int 59] (mm_uI m175 191 (1 : Int32).toNatClampNeg z175) (fun m182 => K (mm_uI m182 164 47 ((m182.1 164 47) + 1)))))) else (mm_CV mX12_codesTold d [.ref 164, .int 4, .int (M.1 164 2)] m143 (fun m152 => mm_CV mX12_asksSign d [.ref 164, .int 59] m152 (fun m182 => K (mm_uI m182 164 47 ((m182.1 164 47) + 1))))))) else (mm_CV mX12_codesTold d [.ref 164, .int 3, .int (M.1 164 2)] m123 (fun m132 => mm_CV mX12_asksSign d [.ref 164, .int 59] m132 (fun m182 => K (mm_uI m182 164 47 ((m182.1 164 47) + 1))))))) else (mm_CV mX12_codesTold d [.ref 164, .int 2, .int (M.1 164 2)] m103 (fun m112 => mm_CV mX12_asksSign d [.ref 164, .int 59] m112 (fun m182 => K (mm_uI m182 164 47 ((m182.1 164 47) + 1))))))) else (mm_CV mX12_codesTold d [.ref 164, .int 1, .int (M.1 164 2)] m83 (fun m92 => mm_CV mX12_asksSign d [.ref 164, .int 59] m92 (fun m182 => K (mm_uI m182 164 47 ((m182.1 164 47) + 1))))))) else (mm_CV mX12_codesTold d [.ref 164, .int 0, .int (M.1 164 2)] m63 (fun m72 => mm_CV mX12_asksSign d [.ref 164, .int 59] m72 (fun m182 => K (mm_uI m182 164 47 ((m182.1 164 47) + 1))))))) else (mm_CV mX12_feudTold d [.ref 164] m45 (fun m52 => mm_CV mX12_asksSign d [.ref 164, .int 59] m52 (fun m182 => K (mm_uI m182 164 47 ((m182.1 164 47) + 1))))))) else (mm_CV mX12_houseTold d [.ref 164, .int (M.1 164 2)] m26 (fun m34 => mm_CV mX12_asksSign d [.ref 164, .int 59] m34 (fun m182 => K (mm_uI m182 164 47 ((m182.1 164 47) + 1)))))))) : mm_CV mX12_statementTold (d + 1) [.ref 164] M K := by
  show mm_W mX12_statementTold (d + 1) 0 0 0 [(0, .ref 164)] [] mm_SH M 0 0 (mm_PV K)
  refine mm_aload_n (pc := 0) (j := 0) dX12_statementTold_0 rfl rfl ?_
  refine mm_getI (pc := 1) (ci := 12) (N := 116) dX12_statementTold_1 fX12_266 sh_164 rfl ?_
  refine mm_istore_n (pc := 4) (lv' := [(1, .int (M.1 164 2)), (0, .ref 164)]) dX12_statementTold_4 rfl (by decide) rfl ?_
  refine mm_aload_n (pc := 5) (j := 1) dX12_statementTold_5 rfl rfl ?_
  refine mm_getI (pc := 6) (ci := 12) (N := 116) dX12_statementTold_6 fX12_375 sh_164 rfl ?_
  refine mm_bipush (pc := 9) (x := 60) dX12_statementTold_9 rfl ?_
  refine mm_icmp_ne (pc := 11) (tgt := 21) dX12_statementTold_11 (by decide) (fun hc => ?_) (fun hc => ?_)
  · have h := mm_iff hc h
    refine mm_aload_n (pc := 21) (j := 1) dX12_statementTold_21 rfl rfl ?_
    refine mm_aload_n (pc := 22) (j := 1) dX12_statementTold_22 rfl rfl ?_
    refine mm_getR (pc := 23) (ci := 12) (N := 116) (r := 168) dX12_statementTold_23 fX12_24 sh_164 rfl (g_164_12 hG) ?_
    refine mm_kVI (pc := 26) [.ref 168] dX12_statementTold_26 kX12_287 rfl sh_164 (Nat.le_of_ble_eq_true rfl) (Nat.le_of_ble_eq_true rfl) h (fun z26 m26 hG h => ?_)
    refine mm_if_eq (pc := 29) (tgt := 40) dX12_statementTold_29 (by decide) (fun hc => ?_) (fun hc => ?_)
    · have h := mm_ift hc h
      refine mm_aload_n (pc := 40) (j := 1) dX12_statementTold_40 rfl rfl ?_
      refine mm_aload_n (pc := 41) (j := 1) dX12_statementTold_41 rfl rfl ?_
      refine mm_getR (pc := 42) (ci := 12) (N := 116) (r := 171) dX12_statementTold_42 fX12_33 sh_164 rfl (g_164_15 hG) ?_
      refine mm_kVI (pc := 45) [.ref 171] dX12_statementTold_45 kX12_287 rfl sh_164 (Nat.le_of_ble_eq_true rfl) (Nat.le_of_ble_eq_true rfl) h (fun z45 m45 hG h => ?_)
      refine mm_if_eq (pc := 48) (tgt := 58) dX12_statementTold_48 (by decide) (fun hc => ?_) (fun hc => ?_)
      · have h := mm_ift hc h
        refine mm_aload_n (pc := 58) (j := 1) dX12_statementTold_58 rfl rfl ?_
        refine mm_aload_n (pc := 59) (j := 1) dX12_statementTold_59 rfl rfl ?_
        refine mm_getR (pc := 60) (ci := 12) (N := 116) (r := 174) dX12_statementTold_60 fX12_42 sh_164 rfl (g_164_18 hG) ?_
        refine mm_kVI (pc := 63) [.ref 174] dX12_statementTold_63 kX12_287 rfl sh_164 (Nat.le_of_ble_eq_true rfl) (Nat.le_of_ble_eq_true rfl) h (fun z63 m63 hG h => ?_)
        refine mm_if_eq (pc := 66) (tgt := 78) dX12_statementTold_66 (by decide) (fun hc => ?_) (fun hc => ?_)
        · have h := mm_ift hc h
          refine mm_aload_n (pc := 78) (j := 1) dX12_statementTold_78 rfl rfl ?_
          refine mm_aload_n (pc := 79) (j := 1) dX12_statementTold_79 rfl rfl ?_
          refine mm_getR (pc := 80) (ci := 12) (N := 116) (r := 175) dX12_statementTold_80 fX12_45 sh_164 rfl (g_164_19 hG) ?_
          refine mm_kVI (pc := 83) [.ref 175] dX12_statementTold_83 kX12_287 rfl sh_164 (Nat.le_of_ble_eq_true rfl) (Nat.le_of_ble_eq_true rfl) h (fun z83 m83 hG h => ?_)
          refine mm_if_eq (pc := 86) (tgt := 98) dX12_statementTold_86 (by decide) (fun hc => ?_) (fun hc => ?_)
          · have h := mm_ift hc h
            refine mm_aload_n (pc := 98) (j := 1) dX12_statementTold_98 rfl rfl ?_
            refine mm_aload_n (pc := 99) (j := 1) dX12_statementTold_99 rfl rfl ?_
            refine mm_getR (pc := 100) (ci := 12) (N := 116) (r := 176) dX12_statementTold_100 fX12_48 sh_164 rfl (g_164_20 hG) ?_
            refine mm_kVI (pc := 103) [.ref 176] dX12_statementTold_103 kX12_287 rfl sh_164 (Nat.le_of_ble_eq_true rfl) (Nat.le_of_ble_eq_true rfl) h (fun z103 m103 hG h => ?_)
            refine mm_if_eq (pc := 106) (tgt := 118) dX12_statementTold_106 (by decide) (fun hc => ?_) (fun hc => ?_)
            · have h := mm_ift hc h
              refine mm_aload_n (pc := 118) (j := 1) dX12_statementTold_118 rfl rfl ?_
              refine mm_aload_n (pc := 119) (j := 1) dX12_statementTold_119 rfl rfl ?_
              refine mm_getR (pc := 120) (ci := 12) (N := 116) (r := 177) dX12_statementTold_120 fX12_51 sh_164 rfl (g_164_21 hG) ?_
              refine mm_kVI (pc := 123) [.ref 177] dX12_statementTold_123 kX12_287 rfl sh_164 (Nat.le_of_ble_eq_true rfl) (Nat.le_of_ble_eq_true rfl) h (fun z123 m123 hG h => ?_)
              refine mm_if_eq (pc := 126) (tgt := 138) dX12_statementTold_126 (by decide) (fun hc => ?_) (fun hc => ?_)
              · have h := mm_ift hc h
                refine mm_aload_n (pc := 138) (j := 1) dX12_statementTold_138 rfl rfl ?_
                refine mm_aload_n (pc := 139) (j := 1) dX12_statementTold_139 rfl rfl ?_
                refine mm_getR (pc := 140) (ci := 12) (N := 116) (r := 178) dX12_statementTold_140 fX12_54 sh_164 rfl (g_164_22 hG) ?_
                refine mm_kVI (pc := 143) [.ref 178] dX12_statementTold_143 kX12_287 rfl sh_164 (Nat.le_of_ble_eq_true rfl) (Nat.le_of_ble_eq_true rfl) h (fun z143 m143 hG h => ?_)
                refine mm_if_eq (pc := 146) (tgt := 158) dX12_statementTold_146 (by decide) (fun hc => ?_) (fun hc => ?_)
                · have h := mm_ift hc h
                  refine mm_aload_n (pc := 158) (j := 1) dX12_statementTold_158 rfl rfl ?_
                  refine mm_aload_n (pc := 159) (j := 1) dX12_statementTold_159 rfl rfl ?_
                  refine mm_getR (pc := 160) (ci := 12) (N := 116) (r := 179) dX12_statementTold_160 fX12_57 sh_164 rfl (g_164_23 hG) ?_
                  refine mm_kVV (pc := 163) [.ref 179] dX12_statementTold_163 kX12_325 rfl sh_164 (Nat.le_of_ble_eq_true rfl) (Nat.le_of_ble_eq_true rfl) h (fun m163 hG h => ?_)
                  refine mm_aload_n (pc := 166) (j := 1) dX12_statementTold_166 rfl rfl ?_
                  refine mm_getR (pc := 167) (ci := 12) (N := 116) (r := 191) dX12_statementTold_167 fX12_93 sh_164 rfl (g_164_36 hG) ?_
                  refine mm_iconst (pc := 170) (x := 1) dX12_statementTold_170 rfl ?_
                  refine mm_aload_n (pc := 171) (j := 1) dX12_statementTold_171 rfl rfl ?_
                  refine mm_iconst (pc := 172) (x := 0) dX12_statementTold_172 rfl ?_
                  refine mm_bipush (pc := 173) (x := 100) dX12_statementTold_173 rfl ?_
                  refine mm_kVI (pc := 175) [.int 0, .int 100] dX12_statementTold_175 kX12_329 rfl sh_164 (Nat.le_of_ble_eq_true rfl) (Nat.le_of_ble_eq_true rfl) h (fun z175 m175 hG h => ?_)
                  refine mm_iastore (pc := 178) (N := 4) dX12_statementTold_178 sh_191 (mm_vin (k := 1) rfl (by decide) (by decide)) ?_
                  refine mm_aload_n (pc := 179) (j := 1) dX12_statementTold_179 rfl rfl ?_
                  refine mm_bipush (pc := 180) (x := 59) dX12_statementTold_180 rfl ?_
                  refine mm_kVV (pc := 182) [.int 59] dX12_statementTold_182 kX12_333 rfl sh_164 (Nat.le_of_ble_eq_true rfl) (Nat.le_of_ble_eq_true rfl) h (fun m182 hG h => ?_)
                  refine mm_aload_n (pc := 185) (j := 1) dX12_statementTold_185 rfl rfl ?_
                  refine mm_dup (pc := 186) dX12_statementTold_186 rfl ?_
                  refine mm_getI (pc := 187) (ci := 12) (N := 116) dX12_statementTold_187 fX12_375 sh_164 rfl ?_
                  refine mm_iconst (pc := 190) (x := 1) dX12_statementTold_190 rfl ?_
                  refine mm_iadd (pc := 191) dX12_statementTold_191 ?_
                  refine mm_putI (pc := 192) (ci := 12) (N := 116) dX12_statementTold_192 fX12_375 sh_164 (by decide +kernel) rfl rfl rfl ?_
                  exact mm_vret (pc := 195) dX12_statementTold_195 rfl (Nat.le_refl 0) (Nat.le_refl 0) ⟨rfl, rfl, hG, h⟩
                · have h := mm_iff hc h
                  refine mm_aload_n (pc := 149) (j := 1) dX12_statementTold_149 rfl rfl ?_
                  refine mm_iconst (pc := 150) (x := 4) dX12_statementTold_150 rfl ?_
                  refine mm_iload_n (pc := 151) (j := 0) dX12_statementTold_151 rfl rfl ?_
                  refine mm_kVV (pc := 152) [.int 4, .int (M.1 164 2)] dX12_statementTold_152 kX12_384 rfl sh_164 (Nat.le_of_ble_eq_true rfl) (Nat.le_of_ble_eq_true rfl) h (fun m152 hG h => ?_)
                  refine mm_goto (pc := 155) (tgt := 179) dX12_statementTold_155 (by decide) ?_
                  refine mm_aload_n (pc := 179) (j := 1) dX12_statementTold_179 rfl rfl ?_
                  refine mm_bipush (pc := 180) (x := 59) dX12_statementTold_180 rfl ?_
                  refine mm_kVV (pc := 182) [.int 59] dX12_statementTold_182 kX12_333 rfl sh_164 (Nat.le_of_ble_eq_true rfl) (Nat.le_of_ble_eq_true rfl) h (fun m182 hG h => ?_)
                  refine mm_aload_n (pc := 185) (j := 1) dX12_statementTold_185 rfl rfl ?_
                  refine mm_dup (pc := 186) dX12_statementTold_186 rfl ?_
                  refine mm_getI (pc := 187) (ci := 12) (N := 116) dX12_statementTold_187 fX12_375 sh_164 rfl ?_
                  refine mm_iconst (pc := 190) (x := 1) dX12_statementTold_190 rfl ?_
                  refine mm_iadd (pc := 191) dX12_statementTold_191 ?_
                  refine mm_putI (pc := 192) (ci := 12) (N := 116) dX12_statementTold_192 fX12_375 sh_164 (by decide +kernel) rfl rfl rfl ?_
                  exact mm_vret (pc := 195) dX12_statementTold_195 rfl (Nat.le_refl 0) (Nat.le_refl 0) ⟨rfl, rfl, hG, h⟩
              · have h := mm_iff hc h
                refine mm_aload_n (pc := 129) (j := 1) dX12_statementTold_129 rfl rfl ?_
                refine mm_iconst (pc := 130) (x := 3) dX12_statementTold_130 rfl ?_
                refine mm_iload_n (pc := 131) (j := 0) dX12_statementTold_131 rfl rfl ?_
                refine mm_kVV (pc := 132) [.int 3, .int (M.1 164 2)] dX12_statementTold_132 kX12_384 rfl sh_164 (Nat.le_of_ble_eq_true rfl) (Nat.le_of_ble_eq_true rfl) h (fun m132 hG h => ?_)
                refine mm_goto (pc := 135) (tgt := 179) dX12_statementTold_135 (by decide) ?_
                refine mm_aload_n (pc := 179) (j := 1) dX12_statementTold_179 rfl rfl ?_
                refine mm_bipush (pc := 180) (x := 59) dX12_statementTold_180 rfl ?_
                refine mm_kVV (pc := 182) [.int 59] dX12_statementTold_182 kX12_333 rfl sh_164 (Nat.le_of_ble_eq_true rfl) (Nat.le_of_ble_eq_true rfl) h (fun m182 hG h => ?_)
                refine mm_aload_n (pc := 185) (j := 1) dX12_statementTold_185 rfl rfl ?_
                refine mm_dup (pc := 186) dX12_statementTold_186 rfl ?_
                refine mm_getI (pc := 187) (ci := 12) (N := 116) dX12_statementTold_187 fX12_375 sh_164 rfl ?_
                refine mm_iconst (pc := 190) (x := 1) dX12_statementTold_190 rfl ?_
                refine mm_iadd (pc := 191) dX12_statementTold_191 ?_
                refine mm_putI (pc := 192) (ci := 12) (N := 116) dX12_statementTold_192 fX12_375 sh_164 (by decide +kernel) rfl rfl rfl ?_
                exact mm_vret (pc := 195) dX12_statementTold_195 rfl (Nat.le_refl 0) (Nat.le_refl 0) ⟨rfl, rfl, hG, h⟩
            · have h := mm_iff hc h
              refine mm_aload_n (pc := 109) (j := 1) dX12_statementTold_109 rfl rfl ?_
              refine mm_iconst (pc := 110) (x := 2) dX12_statementTold_110 rfl ?_
              refine mm_iload_n (pc := 111) (j := 0) dX12_statementTold_111 rfl rfl ?_
              refine mm_kVV (pc := 112) [.int 2, .int (M.1 164 2)] dX12_statementTold_112 kX12_384 rfl sh_164 (Nat.le_of_ble_eq_true rfl) (Nat.le_of_ble_eq_true rfl) h (fun m112 hG h => ?_)
              refine mm_goto (pc := 115) (tgt := 179) dX12_statementTold_115 (by decide) ?_
              refine mm_aload_n (pc := 179) (j := 1) dX12_statementTold_179 rfl rfl ?_
              refine mm_bipush (pc := 180) (x := 59) dX12_statementTold_180 rfl ?_
              refine mm_kVV (pc := 182) [.int 59] dX12_statementTold_182 kX12_333 rfl sh_164 (Nat.le_of_ble_eq_true rfl) (Nat.le_of_ble_eq_true rfl) h (fun m182 hG h => ?_)
              refine mm_aload_n (pc := 185) (j := 1) dX12_statementTold_185 rfl rfl ?_
              refine mm_dup (pc := 186) dX12_statementTold_186 rfl ?_
              refine mm_getI (pc := 187) (ci := 12) (N := 116) dX12_statementTold_187 fX12_375 sh_164 rfl ?_
              refine mm_iconst (pc := 190) (x := 1) dX12_statementTold_190 rfl ?_
              refine mm_iadd (pc := 191) dX12_statementTold_191 ?_
              refine mm_putI (pc := 192) (ci := 12) (N := 116) dX12_statementTold_192 fX12_375 sh_164 (by decide +kernel) rfl rfl rfl ?_
              exact mm_vret (pc := 195) dX12_statementTold_195 rfl (Nat.le_refl 0) (Nat.le_refl 0) ⟨rfl, rfl, hG, h⟩
          · have h := mm_iff hc h
            refine mm_aload_n (pc := 89) (j := 1) dX12_statementTold_89 rfl rfl ?_
            refine mm_iconst (pc := 90) (x := 1) dX12_statementTold_90 rfl ?_
            refine mm_iload_n (pc := 91) (j := 0) dX12_statementTold_91 rfl rfl ?_
            refine mm_kVV (pc := 92) [.int 1, .int (M.1 164 2)] dX12_statementTold_92 kX12_384 rfl sh_164 (Nat.le_of_ble_eq_true rfl) (Nat.le_of_ble_eq_true rfl) h (fun m92 hG h => ?_)
            refine mm_goto (pc := 95) (tgt := 179) dX12_statementTold_95 (by decide) ?_
            refine mm_aload_n (pc := 179) (j := 1) dX12_statementTold_179 rfl rfl ?_
            refine mm_bipush (pc := 180) (x := 59) dX12_statementTold_180 rfl ?_
            refine mm_kVV (pc := 182) [.int 59] dX12_statementTold_182 kX12_333 rfl sh_164 (Nat.le_of_ble_eq_true rfl) (Nat.le_of_ble_eq_true rfl) h (fun m182 hG h => ?_)
            refine mm_aload_n (pc := 185) (j := 1) dX12_statementTold_185 rfl rfl ?_
            refine mm_dup (pc := 186) dX12_statementTold_186 rfl ?_
            refine mm_getI (pc := 187) (ci := 12) (N := 116) dX12_statementTold_187 fX12_375 sh_164 rfl ?_
            refine mm_iconst (pc := 190) (x := 1) dX12_statementTold_190 rfl ?_
            refine mm_iadd (pc := 191) dX12_statementTold_191 ?_
            refine mm_putI (pc := 192) (ci := 12) (N := 116) dX12_statementTold_192 fX12_375 sh_164 (by decide +kernel) rfl rfl rfl ?_
            exact mm_vret (pc := 195) dX12_statementTold_195 rfl (Nat.le_refl 0) (Nat.le_refl 0) ⟨rfl, rfl, hG, h⟩
        · have h := mm_iff hc h
          refine mm_aload_n (pc := 69) (j := 1) dX12_statementTold_69 rfl rfl ?_
          refine mm_iconst (pc := 70) (x := 0) dX12_statementTold_70 rfl ?_
          refine mm_iload_n (pc := 71) (j := 0) dX12_statementTold_71 rfl rfl ?_
          refine mm_kVV (pc := 72) [.int 0, .int (M.1 164 2)] dX12_statementTold_72 kX12_384 rfl sh_164 (Nat.le_of_ble_eq_true rfl) (Nat.le_of_ble_eq_true rfl) h (fun m72 hG h => ?_)
          refine mm_goto (pc := 75) (tgt := 179) dX12_statementTold_75 (by decide) ?_
          refine mm_aload_n (pc := 179) (j := 1) dX12_statementTold_179 rfl rfl ?_
          refine mm_bipush (pc := 180) (x := 59) dX12_statementTold_180 rfl ?_
          refine mm_kVV (pc := 182) [.int 59] dX12_statementTold_182 kX12_333 rfl sh_164 (Nat.le_of_ble_eq_true rfl) (Nat.le_of_ble_eq_true rfl) h (fun m182 hG h => ?_)
          refine mm_aload_n (pc := 185) (j := 1) dX12_statementTold_185 rfl rfl ?_
          refine mm_dup (pc := 186) dX12_statementTold_186 rfl ?_
          refine mm_getI (pc := 187) (ci := 12) (N := 116) dX12_statementTold_187 fX12_375 sh_164 rfl ?_
          refine mm_iconst (pc := 190) (x := 1) dX12_statementTold_190 rfl ?_
          refine mm_iadd (pc := 191) dX12_statementTold_191 ?_
          refine mm_putI (pc := 192) (ci := 12) (N := 116) dX12_statementTold_192 fX12_375 sh_164 (by decide +kernel) rfl rfl rfl ?_
          exact mm_vret (pc := 195) dX12_statementTold_195 rfl (Nat.le_refl 0) (Nat.le_refl 0) ⟨rfl, rfl, hG, h⟩
      · have h := mm_iff hc h
        refine mm_aload_n (pc := 51) (j := 1) dX12_statementTold_51 rfl rfl ?_
        refine mm_kVV (pc := 52) [] dX12_statementTold_52 kX12_381 rfl sh_164 (Nat.le_of_ble_eq_true rfl) (Nat.le_of_ble_eq_true rfl) h (fun m52 hG h => ?_)
        refine mm_goto (pc := 55) (tgt := 179) dX12_statementTold_55 (by decide) ?_
        refine mm_aload_n (pc := 179) (j := 1) dX12_statementTold_179 rfl rfl ?_
        refine mm_bipush (pc := 180) (x := 59) dX12_statementTold_180 rfl ?_
        refine mm_kVV (pc := 182) [.int 59] dX12_statementTold_182 kX12_333 rfl sh_164 (Nat.le_of_ble_eq_true rfl) (Nat.le_of_ble_eq_true rfl) h (fun m182 hG h => ?_)
        refine mm_aload_n (pc := 185) (j := 1) dX12_statementTold_185 rfl rfl ?_
        refine mm_dup (pc := 186) dX12_statementTold_186 rfl ?_
        refine mm_getI (pc := 187) (ci := 12) (N := 116) dX12_statementTold_187 fX12_375 sh_164 rfl ?_
        refine mm_iconst (pc := 190) (x := 1) dX12_statementTold_190 rfl ?_
        refine mm_iadd (pc := 191) dX12_statementTold_191 ?_
        refine mm_putI (pc := 192) (ci := 12) (N := 116) dX12_statementTold_192 fX12_375 sh_164 (by decide +kernel) rfl rfl rfl ?_
        exact mm_vret (pc := 195) dX12_statementTold_195 rfl (Nat.le_refl 0) (Nat.le_refl 0) ⟨rfl, rfl, hG, h⟩
    · have h := mm_iff hc h
      refine mm_aload_n (pc := 32) (j := 1) dX12_statementTold_32 rfl rfl ?_
      refine mm_iload_n (pc := 33) (j := 0) dX12_statementTold_33 rfl rfl ?_
      refine mm_kVV (pc := 34) [.int (M.1 164 2)] dX12_statementTold_34 kX12_378 rfl sh_164 (Nat.le_of_ble_eq_true rfl) (Nat.le_of_ble_eq_true rfl) h (fun m34 hG h => ?_)
      refine mm_goto (pc := 37) (tgt := 179) dX12_statementTold_37 (by decide) ?_
      refine mm_aload_n (pc := 179) (j := 1) dX12_statementTold_179 rfl rfl ?_
      refine mm_bipush (pc := 180) (x := 59) dX12_statementTold_180 rfl ?_
      refine mm_kVV (pc := 182) [.int 59] dX12_statementTold_182 kX12_333 rfl sh_164 (Nat.le_of_ble_eq_true rfl) (Nat.le_of_ble_eq_true rfl) h (fun m182 hG h => ?_)
      refine mm_aload_n (pc := 185) (j := 1) dX12_statementTold_185 rfl rfl ?_
      refine mm_dup (pc := 186) dX12_statementTold_186 rfl ?_
      refine mm_getI (pc := 187) (ci := 12) (N := 116) dX12_statementTold_187 fX12_375 sh_164 rfl ?_
      refine mm_iconst (pc := 190) (x := 1) dX12_statementTold_190 rfl ?_
      refine mm_iadd (pc := 191) dX12_statementTold_191 ?_
      refine mm_putI (pc := 192) (ci := 12) (N := 116) dX12_statementTold_192 fX12_375 sh_164 (by decide +kernel) rfl rfl rfl ?_
      exact mm_vret (pc := 195) dX12_statementTold_195 rfl (Nat.le_refl 0) (Nat.le_refl 0) ⟨rfl, rfl, hG, h⟩
  · have h := mm_ift hc h
    refine mm_aload_n (pc := 14) (j := 1) dX12_statementTold_14 rfl rfl ?_
    refine mm_iconst (pc := 15) (x := 5) dX12_statementTold_15 rfl ?_
    refine mm_iload_n (pc := 16) (j := 0) dX12_statementTold_16 rfl rfl ?_
    refine mm_kVV (pc := 17) [.int 5, .int (M.1 164 2)] dX12_statementTold_17 kX12_290 rfl sh_164 (Nat.le_of_ble_eq_true rfl) (Nat.le_of_ble_eq_true rfl) h (fun m17 hG h => ?_)
    exact mm_vret (pc := 20) dX12_statementTold_20 rfl (Nat.le_refl 0) (Nat.le_refl 0) ⟨rfl, rfl, hG, h⟩
def jX12_duchy_52 (d : Nat) (M : mm_M) (K : Int32 → mm_M → Prop) (y1 : Int32) : Prop := mm_W mX12_duchy (d + 1) 0 0 52 [(0, .ref 164), (1, .int y1)] [] mm_SH M 0 0 (mm_PI K)
def jX12_duchy_73 (d : Nat) (M : mm_M) (K : Int32 → mm_M → Prop) (y1 : Int32) : Prop := mm_W mX12_duchy (d + 1) 0 0 73 [(0, .ref 164), (1, .int y1)] [] mm_SH M 0 0 (mm_PI K)
def jX12_duchy_100 (d : Nat) (M : mm_M) (K : Int32 → mm_M → Prop) : Prop := mm_W mX12_duchy (d + 1) 0 0 100 [(0, .ref 164)] [] mm_SH M 0 0 (mm_PI K)
def jX12_duchy_122 (d : Nat) (M : mm_M) (K : Int32 → mm_M → Prop) : Prop := mm_W mX12_duchy (d + 1) 0 0 122 [(0, .ref 164)] [] mm_SH M 0 0 (mm_PI K)
set_option maxRecDepth 100000 in
set_option maxHeartbeats 4000000 in
theorem rX12_duchy {d : Nat} {M : mm_M} {K : Int32 → mm_M → Prop} (hG : mm_G M.2.2) (h : jX12_duchy_52 d (mm_uI (mm_uI (mm_uI (mm_uI (mm_uI (mm_uI (mm_uI (mm_uI (mm_uI M 164 3 (M.1 164 1)) 164 1 0) 164 2 0) 164 4 (-1)) 164 5 0) 164 6 (-1)) 164 46 0) 164 37 0) 191 (1 : Int32).toNatClampNeg 0) K 0) : mm_CI mX12_duchy (d + 1) [.ref 164] M K := by
  show mm_W mX12_duchy (d + 1) 0 0 0 [(0, .ref 164)] [] mm_SH M 0 0 (mm_PI K)
  refine mm_aload_n (pc := 0) (j := 0) dX12_duchy_0 rfl rfl ?_
  refine mm_aload_n (pc := 1) (j := 0) dX12_duchy_1 rfl rfl ?_
  refine mm_getI (pc := 2) (ci := 12) (N := 116) dX12_duchy_2 fX12_257 sh_164 rfl ?_
  refine mm_putI (pc := 5) (ci := 12) (N := 116) dX12_duchy_5 fX12_269 sh_164 (by decide +kernel) rfl rfl rfl ?_
  refine mm_aload_n (pc := 8) (j := 0) dX12_duchy_8 rfl rfl ?_
  refine mm_iconst (pc := 9) (x := 0) dX12_duchy_9 rfl ?_
  refine mm_putI (pc := 10) (ci := 12) (N := 116) dX12_duchy_10 fX12_257 sh_164 (by decide +kernel) rfl rfl rfl ?_
  refine mm_aload_n (pc := 13) (j := 0) dX12_duchy_13 rfl rfl ?_
  refine mm_iconst (pc := 14) (x := 0) dX12_duchy_14 rfl ?_
  refine mm_putI (pc := 15) (ci := 12) (N := 116) dX12_duchy_15 fX12_266 sh_164 (by decide +kernel) rfl rfl rfl ?_
  refine mm_aload_n (pc := 18) (j := 0) dX12_duchy_18 rfl rfl ?_
  refine mm_iconst (pc := 19) (x := (-1)) dX12_duchy_19 rfl ?_
  refine mm_putI (pc := 20) (ci := 12) (N := 116) dX12_duchy_20 fX12_280 sh_164 (by decide +kernel) rfl rfl rfl ?_
  refine mm_aload_n (pc := 23) (j := 0) dX12_duchy_23 rfl rfl ?_
  refine mm_iconst (pc := 24) (x := 0) dX12_duchy_24 rfl ?_
  refine mm_putI (pc := 25) (ci := 12) (N := 116) dX12_duchy_25 fX12_260 sh_164 (by decide +kernel) rfl rfl rfl ?_
  refine mm_aload_n (pc := 28) (j := 0) dX12_duchy_28 rfl rfl ?_
  refine mm_iconst (pc := 29) (x := (-1)) dX12_duchy_29 rfl ?_
  refine mm_putI (pc := 30) (ci := 12) (N := 116) dX12_duchy_30 fX12_263 sh_164 (by decide +kernel) rfl rfl rfl ?_
  refine mm_aload_n (pc := 33) (j := 0) dX12_duchy_33 rfl rfl ?_
  refine mm_iconst (pc := 34) (x := 0) dX12_duchy_34 rfl ?_
  refine mm_putI (pc := 35) (ci := 12) (N := 116) dX12_duchy_35 fX12_372 sh_164 (by decide +kernel) rfl rfl rfl ?_
  refine mm_aload_n (pc := 38) (j := 0) dX12_duchy_38 rfl rfl ?_
  refine mm_iconst (pc := 39) (x := 0) dX12_duchy_39 rfl ?_
  refine mm_putI (pc := 40) (ci := 12) (N := 116) dX12_duchy_40 fX12_337 sh_164 (by decide +kernel) rfl rfl rfl ?_
  refine mm_aload_n (pc := 43) (j := 0) dX12_duchy_43 rfl rfl ?_
  refine mm_getR (pc := 44) (ci := 12) (N := 116) (r := 191) dX12_duchy_44 fX12_93 sh_164 rfl (g_164_36 hG) ?_
  refine mm_iconst (pc := 47) (x := 1) dX12_duchy_47 rfl ?_
  refine mm_iconst (pc := 48) (x := 0) dX12_duchy_48 rfl ?_
  refine mm_iastore (pc := 49) (N := 4) dX12_duchy_49 sh_191 (mm_vin (k := 1) rfl (by decide) (by decide)) ?_
  refine mm_iconst (pc := 50) (x := 0) dX12_duchy_50 rfl ?_
  refine mm_istore_n (pc := 51) (lv' := [(1, .int 0), (0, .ref 164)]) dX12_duchy_51 rfl (by decide) rfl ?_
  exact mm_sub [1, 0] rfl h
set_option maxRecDepth 100000 in
set_option maxHeartbeats 4000000 in
theorem lX12_duchy_52 {d : Nat} {M : mm_M} {K : Int32 → mm_M → Prop} {y1 : Int32} (hG : mm_G M.2.2) (h : if 21 ≤ y1 then (jX12_duchy_73 d M K 0) else (vp_in y1 21 ∧ jX12_duchy_52 d (mm_uI M 195 y1.toNatClampNeg 0) K (y1 + 1))) : jX12_duchy_52 d  M K y1 := by
  unfold jX12_duchy_52
  refine mm_iload_n (pc := 52) (j := 1) dX12_duchy_52 rfl rfl ?_
  refine mm_bipush (pc := 53) (x := 21) dX12_duchy_53 rfl ?_
  refine mm_icmp_ge (pc := 55) (tgt := 71) dX12_duchy_55 (by decide) (fun hc => ?_) (fun hc => ?_)
  · have h := mm_ift hc h
    refine mm_iconst (pc := 71) (x := 0) dX12_duchy_71 rfl ?_
    refine mm_istore_n (pc := 72) (lv' := [(1, .int 0), (0, .ref 164)]) dX12_duchy_72 rfl (by decide) rfl ?_
    exact mm_sub [1, 0] rfl h
  · have h := mm_iff hc h
    refine mm_aload_n (pc := 58) (j := 0) dX12_duchy_58 rfl rfl ?_
    refine mm_getR (pc := 59) (ci := 12) (N := 116) (r := 195) dX12_duchy_59 fX12_106 sh_164 rfl (g_164_42 hG) ?_
    refine mm_iload_n (pc := 62) (j := 1) dX12_duchy_62 rfl rfl ?_
    refine mm_iconst (pc := 63) (x := 0) dX12_duchy_63 rfl ?_
    obtain ⟨hi64, h⟩ := h
    refine mm_iastore (pc := 64) (N := 21) dX12_duchy_64 sh_195 hi64 ?_
    refine mm_iinc (pc := 65) (j := 1) (v := y1 + 1) (lv' := [(1, .int (y1 + 1)), (0, .ref 164)]) dX12_duchy_65 rfl rfl (by decide) rfl ?_
    refine mm_goto (pc := 68) (tgt := 52) dX12_duchy_68 (by decide) ?_
    exact mm_sub [1, 0] rfl h
set_option maxRecDepth 100000 in
set_option maxHeartbeats 4000000 in
theorem lX12_duchy_73 {d : Nat} {M : mm_M} {K : Int32 → mm_M → Prop} {y1 : Int32} (hG : mm_G M.2.2) (h : if 5 ≤ y1 then (mm_CV mX12_duchyTold d [.ref 164] M (fun m92 => jX12_duchy_100 d (mm_uI m92 164 47 1) K)) else (vp_in y1 10 ∧ jX12_duchy_73 d (mm_uI M 196 y1.toNatClampNeg (-1)) K (y1 + 1))) : jX12_duchy_73 d  M K y1 := by
  unfold jX12_duchy_73
  refine mm_iload_n (pc := 73) (j := 1) dX12_duchy_73 rfl rfl ?_
  refine mm_iconst (pc := 74) (x := 5) dX12_duchy_74 rfl ?_
  refine mm_icmp_ge (pc := 75) (tgt := 91) dX12_duchy_75 (by decide) (fun hc => ?_) (fun hc => ?_)
  · have h := mm_ift hc h
    refine mm_aload_n (pc := 91) (j := 0) dX12_duchy_91 rfl rfl ?_
    refine mm_kVV (pc := 92) [] dX12_duchy_92 kX12_387 rfl sh_164 (Nat.le_of_ble_eq_true rfl) (Nat.le_of_ble_eq_true rfl) h (fun m92 hG h => ?_)
    refine mm_aload_n (pc := 95) (j := 0) dX12_duchy_95 rfl rfl ?_
    refine mm_iconst (pc := 96) (x := 1) dX12_duchy_96 rfl ?_
    refine mm_putI (pc := 97) (ci := 12) (N := 116) dX12_duchy_97 fX12_375 sh_164 (by decide +kernel) rfl rfl rfl ?_
    exact mm_sub [0] rfl h
  · have h := mm_iff hc h
    refine mm_aload_n (pc := 78) (j := 0) dX12_duchy_78 rfl rfl ?_
    refine mm_getR (pc := 79) (ci := 12) (N := 116) (r := 196) dX12_duchy_79 fX12_109 sh_164 rfl (g_164_43 hG) ?_
    refine mm_iload_n (pc := 82) (j := 1) dX12_duchy_82 rfl rfl ?_
    refine mm_iconst (pc := 83) (x := (-1)) dX12_duchy_83 rfl ?_
    obtain ⟨hi84, h⟩ := h
    refine mm_iastore (pc := 84) (N := 10) dX12_duchy_84 sh_196 hi84 ?_
    refine mm_iinc (pc := 85) (j := 1) (v := y1 + 1) (lv' := [(1, .int (y1 + 1)), (0, .ref 164)]) dX12_duchy_85 rfl rfl (by decide) rfl ?_
    refine mm_goto (pc := 88) (tgt := 73) dX12_duchy_88 (by decide) ?_
    exact mm_sub [1, 0] rfl h
set_option maxRecDepth 100000 in
set_option maxHeartbeats 4000000 in
theorem lX12_duchy_100 {d : Nat} {M : mm_M} {K : Int32 → mm_M → Prop} (hG : mm_G M.2.2) (h : if (M.1 164 5) = 0 then (mm_CI mX12_look d [.ref 164] M (fun z108 m108 => if z108 = (-1) then (jX12_duchy_122 d m108 K) else (mm_CV mX12_statementTold d [.ref 164] m108 (fun m116 => jX12_duchy_100 d m116 K)))) else (jX12_duchy_122 d M K)) : jX12_duchy_100 d  M K  := by
  unfold jX12_duchy_100
  refine mm_aload_n (pc := 100) (j := 0) dX12_duchy_100 rfl rfl ?_
  refine mm_getI (pc := 101) (ci := 12) (N := 116) dX12_duchy_101 fX12_260 sh_164 rfl ?_
  refine mm_if_ne (pc := 104) (tgt := 122) dX12_duchy_104 (by decide) (fun hc => ?_) (fun hc => ?_)
  · have h := mm_iff hc h
    exact h
  · have h := mm_ift hc h
    refine mm_aload_n (pc := 107) (j := 0) dX12_duchy_107 rfl rfl ?_
    refine mm_kVI (pc := 108) [] dX12_duchy_108 kX12_272 rfl sh_164 (Nat.le_of_ble_eq_true rfl) (Nat.le_of_ble_eq_true rfl) h (fun z108 m108 hG h => ?_)
    refine mm_iconst (pc := 111) (x := (-1)) dX12_duchy_111 rfl ?_
    refine mm_icmp_eq (pc := 112) (tgt := 122) dX12_duchy_112 (by decide) (fun hc => ?_) (fun hc => ?_)
    · have h := mm_ift hc h
      exact h
    · have h := mm_iff hc h
      refine mm_aload_n (pc := 115) (j := 0) dX12_duchy_115 rfl rfl ?_
      refine mm_kVV (pc := 116) [] dX12_duchy_116 kX12_390 rfl sh_164 (Nat.le_of_ble_eq_true rfl) (Nat.le_of_ble_eq_true rfl) h (fun m116 hG h => ?_)
      refine mm_goto (pc := 119) (tgt := 100) dX12_duchy_119 (by decide) ?_
      exact h
set_option maxRecDepth 100000 in
set_option maxHeartbeats 4000000 in
theorem lX12_duchy_122 {d : Nat} {M : mm_M} {K : Int32 → mm_M → Prop} (hG : mm_G M.2.2) (h : if ((mm_uI (mm_uI M 164 7 (M.1 164 5)) 164 8 ((mm_uI M 164 7 (M.1 164 5)).1 164 6)).1 164 5) = 0 then (mm_CV mX12_stands d [.ref 164] (mm_uI (mm_uI M 164 7 (M.1 164 5)) 164 8 ((mm_uI M 164 7 (M.1 164 5)).1 164 6)) (fun m158 => K (m158.1 164 47) m158)) else (K (-1) (mm_uI (mm_uI (mm_uI M 164 7 (M.1 164 5)) 164 8 ((mm_uI M 164 7 (M.1 164 5)).1 164 6)) 166 (1 : Int32).toNatClampNeg (((mm_uI (mm_uI M 164 7 (M.1 164 5)) 164 8 ((mm_uI M 164 7 (M.1 164 5)).1 164 6)).1 166 (1 : Int32).toNatClampNeg) + 1)))) : jX12_duchy_122 d  M K  := by
  unfold jX12_duchy_122
  refine mm_aload_n (pc := 122) (j := 0) dX12_duchy_122 rfl rfl ?_
  refine mm_aload_n (pc := 123) (j := 0) dX12_duchy_123 rfl rfl ?_
  refine mm_getI (pc := 124) (ci := 12) (N := 116) dX12_duchy_124 fX12_260 sh_164 rfl ?_
  refine mm_putI (pc := 127) (ci := 12) (N := 116) dX12_duchy_127 fX12_393 sh_164 (by decide +kernel) rfl rfl rfl ?_
  refine mm_aload_n (pc := 130) (j := 0) dX12_duchy_130 rfl rfl ?_
  refine mm_aload_n (pc := 131) (j := 0) dX12_duchy_131 rfl rfl ?_
  refine mm_getI (pc := 132) (ci := 12) (N := 116) dX12_duchy_132 fX12_263 sh_164 rfl ?_
  refine mm_putI (pc := 135) (ci := 12) (N := 116) dX12_duchy_135 fX12_13 sh_164 (by decide +kernel) rfl rfl rfl ?_
  refine mm_aload_n (pc := 138) (j := 0) dX12_duchy_138 rfl rfl ?_
  refine mm_getI (pc := 139) (ci := 12) (N := 116) dX12_duchy_139 fX12_260 sh_164 rfl ?_
  refine mm_if_eq (pc := 142) (tgt := 157) dX12_duchy_142 (by decide) (fun hc => ?_) (fun hc => ?_)
  · have h := mm_ift hc h
    refine mm_aload_n (pc := 157) (j := 0) dX12_duchy_157 rfl rfl ?_
    refine mm_kVV (pc := 158) [] dX12_duchy_158 kX12_396 rfl sh_164 (Nat.le_of_ble_eq_true rfl) (Nat.le_of_ble_eq_true rfl) h (fun m158 hG h => ?_)
    refine mm_aload_n (pc := 161) (j := 0) dX12_duchy_161 rfl rfl ?_
    refine mm_getI (pc := 162) (ci := 12) (N := 116) dX12_duchy_162 fX12_375 sh_164 rfl ?_
    exact mm_iret (pc := 165) dX12_duchy_165 rfl (Nat.le_refl 0) (Nat.le_refl 0) ⟨_, rfl, rfl, hG, h⟩
  · have h := mm_iff hc h
    refine mm_aload_n (pc := 145) (j := 0) dX12_duchy_145 rfl rfl ?_
    refine mm_getR (pc := 146) (ci := 12) (N := 116) (r := 166) dX12_duchy_146 fX12_17 sh_164 rfl (g_164_9 hG) ?_
    refine mm_iconst (pc := 149) (x := 1) dX12_duchy_149 rfl ?_
    refine mm_dup2 (pc := 150) dX12_duchy_150 rfl rfl ?_
    refine mm_iaload (pc := 151) (N := 6) dX12_duchy_151 sh_166 (mm_vin (k := 1) rfl (by decide) (by decide)) ?_
    refine mm_iconst (pc := 152) (x := 1) dX12_duchy_152 rfl ?_
    refine mm_iadd (pc := 153) dX12_duchy_153 ?_
    refine mm_iastore (pc := 154) (N := 6) dX12_duchy_154 sh_166 (mm_vin (k := 1) rfl (by decide) (by decide)) ?_
    refine mm_iconst (pc := 155) (x := (-1)) dX12_duchy_155 rfl ?_
    exact mm_iret (pc := 156) dX12_duchy_156 rfl (Nat.le_refl 0) (Nat.le_refl 0) ⟨_, rfl, rfl, hG, h⟩
