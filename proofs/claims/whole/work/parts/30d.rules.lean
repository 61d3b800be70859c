def jX12_qWordHere_73 (d : Nat) (M : mm_M) (K : Int32 → mm_M → Prop) : Prop := mm_W mX12_qWordHere (d + 1) 0 0 73 [(0, .ref 164)] [] mm_SH M 0 0 (mm_PI K)
set_option maxRecDepth 100000 in
set_option maxHeartbeats 4000000 in
theorem rX12_qWordHere {d : Nat} {M : mm_M} {K : Int32 → mm_M → Prop} (hG : mm_G M.2.2) (h : mm_CI mX12_isHere d [.ref 164, .ref 229] M (fun z5 m5 => if z5 = 0 then (mm_CI mX12_isHere d [.ref 164, .ref 230] m5 (fun z18 m18 => if z18 = 0 then (mm_CI mX12_isHere d [.ref 164, .ref 231] m18 (fun z31 m31 => if z31 = 0 then (mm_CI mX12_isHere d [.ref 164, .ref 232] m31 (fun z44 m44 => if z44 = 0 then (if 3 ≤ (m44.1 164 49) then (jX12_qWordHere_73 d m44 K) else (mm_CI mX12_isHere d [.ref 164, .ref 233] m44 (fun z65 m65 => if z65 = 0 then (jX12_qWordHere_73 d m65 K) else (K 4 m65)))) else (K 3 m44))) else (K 2 m31))) else (K 1 m18))) else (K 0 m5))) : mm_CI mX12_qWordHere (d + 1) [.ref 164] M K := by
  show mm_W mX12_qWordHere (d + 1) 0 0 0 [(0, .ref 164)] [] mm_SH M 0 0 (mm_PI K)
  refine mm_aload_n (j := 0) dX12_qWordHere_0 rfl rfl ?_
  refine mm_aload_n (j := 0) dX12_qWordHere_1 rfl rfl ?_
  refine mm_getR (ci := 12) (N := 116) (r := 229) dX12_qWordHere_2 fX12_213 sh_164 rfl (g_164_94 hG) ?_
  refine mm_kVI [.ref 229] dX12_qWordHere_5 kX12_283 rfl sh_164 (by decide) (by decide) h (fun z5 m5 hG h => ?_)
  refine mm_if_eq (tgt := 13) dX12_qWordHere_8 (by decide) (fun hc => ?_) (fun hc => ?_)
  · rw [if_pos hc] at h
    refine mm_aload_n (j := 0) dX12_qWordHere_13 rfl rfl ?_
    refine mm_aload_n (j := 0) dX12_qWordHere_14 rfl rfl ?_
    refine mm_getR (ci := 12) (N := 116) (r := 230) dX12_qWordHere_15 fX12_216 sh_164 rfl (g_164_95 hG) ?_
    refine mm_kVI [.ref 230] dX12_qWordHere_18 kX12_283 rfl sh_164 (by decide) (by decide) h (fun z18 m18 hG h => ?_)
    refine mm_if_eq (tgt := 26) dX12_qWordHere_21 (by decide) (fun hc => ?_) (fun hc => ?_)
    · rw [if_pos hc] at h
      refine mm_aload_n (j := 0) dX12_qWordHere_26 rfl rfl ?_
      refine mm_aload_n (j := 0) dX12_qWordHere_27 rfl rfl ?_
      refine mm_getR (ci := 12) (N := 116) (r := 231) dX12_qWordHere_28 fX12_219 sh_164 rfl (g_164_96 hG) ?_
      refine mm_kVI [.ref 231] dX12_qWordHere_31 kX12_283 rfl sh_164 (by decide) (by decide) h (fun z31 m31 hG h => ?_)
      refine mm_if_eq (tgt := 39) dX12_qWordHere_34 (by decide) (fun hc => ?_) (fun hc => ?_)
      · rw [if_pos hc] at h
        refine mm_aload_n (j := 0) dX12_qWordHere_39 rfl rfl ?_
        refine mm_aload_n (j := 0) dX12_qWordHere_40 rfl rfl ?_
        refine mm_getR (ci := 12) (N := 116) (r := 232) dX12_qWordHere_41 fX12_222 sh_164 rfl (g_164_97 hG) ?_
        refine mm_kVI [.ref 232] dX12_qWordHere_44 kX12_283 rfl sh_164 (by decide) (by decide) h (fun z44 m44 hG h => ?_)
        refine mm_if_eq (tgt := 52) dX12_qWordHere_47 (by decide) (fun hc => ?_) (fun hc => ?_)
        · rw [if_pos hc] at h
          refine mm_aload_n (j := 0) dX12_qWordHere_52 rfl rfl ?_
          refine mm_getI (ci := 12) (N := 116) dX12_qWordHere_53 fX12_318 sh_164 rfl ?_
          refine mm_iconst (x := 3) dX12_qWordHere_56 rfl ?_
          refine mm_icmp_ge (tgt := 73) dX12_qWordHere_57 (by decide) (fun hc => ?_) (fun hc => ?_)
          · rw [if_pos hc] at h
            exact h
          · rw [if_neg hc] at h
            refine mm_aload_n (j := 0) dX12_qWordHere_60 rfl rfl ?_
            refine mm_aload_n (j := 0) dX12_qWordHere_61 rfl rfl ?_
            refine mm_getR (ci := 12) (N := 116) (r := 233) dX12_qWordHere_62 fX12_225 sh_164 rfl (g_164_98 hG) ?_
            refine mm_kVI [.ref 233] dX12_qWordHere_65 kX12_283 rfl sh_164 (by decide) (by decide) h (fun z65 m65 hG h => ?_)
            refine mm_if_eq (tgt := 73) dX12_qWordHere_68 (by decide) (fun hc => ?_) (fun hc => ?_)
            · rw [if_pos hc] at h
              exact h
            · rw [if_neg hc] at h
              refine mm_iconst (x := 4) dX12_qWordHere_71 rfl ?_
              exact mm_iret dX12_qWordHere_72 rfl (Nat.le_refl 0) (Nat.le_refl 0) ⟨_, rfl, rfl, hG, h⟩
        · rw [if_neg hc] at h
          refine mm_iconst (x := 3) dX12_qWordHere_50 rfl ?_
          exact mm_iret dX12_qWordHere_51 rfl (Nat.le_refl 0) (Nat.le_refl 0) ⟨_, rfl, rfl, hG, h⟩
      · rw [if_neg hc] at h
        refine mm_iconst (x := 2) dX12_qWordHere_37 rfl ?_
        exact mm_iret dX12_qWordHere_38 rfl (Nat.le_refl 0) (Nat.le_refl 0) ⟨_, rfl, rfl, hG, h⟩
    · rw [if_neg hc] at h
      refine mm_iconst (x := 1) dX12_qWordHere_24 rfl ?_
      exact mm_iret dX12_qWordHere_25 rfl (Nat.le_refl 0) (Nat.le_refl 0) ⟨_, rfl, rfl, hG, h⟩
  · rw [if_neg hc] at h
    refine mm_iconst (x := 0) dX12_qWordHere_11 rfl ?_
    exact mm_iret dX12_qWordHere_12 rfl (Nat.le_refl 0) (Nat.le_refl 0) ⟨_, rfl, rfl, hG, h⟩
set_option maxRecDepth 100000 in
set_option maxHeartbeats 4000000 in
theorem lX12_qWordHere_73 {d : Nat} {M : mm_M} {K : Int32 → mm_M → Prop} (hG : mm_G M.2.2) (h : mm_CI mX12_isHere d [.ref 164, .ref 234] M (fun z78 m78 => if z78 = 0 then (mm_CI mX12_isHere d [.ref 164, .ref 235] m78 (fun z91 m91 => if z91 = 0 then (mm_CI mX12_isHere d [.ref 164, .ref 236] m91 (fun z105 m105 => if z105 = 0 then (mm_CI mX12_isHere d [.ref 164, .ref 237] m105 (fun z119 m119 => if z119 = 0 then (mm_CI mX12_isHere d [.ref 164, .ref 238] m119 (fun z133 m133 => if z133 = 0 then (K (-1) m133) else (K 9 m133))) else (K 8 m119))) else (K 7 m105))) else (K 6 m91))) else (K 5 m78))) : jX12_qWordHere_73 d  M K  := by
  unfold jX12_qWordHere_73
  refine mm_aload_n (j := 0) dX12_qWordHere_73 rfl rfl ?_
  refine mm_aload_n (j := 0) dX12_qWordHere_74 rfl rfl ?_
  refine mm_getR (ci := 12) (N := 116) (r := 234) dX12_qWordHere_75 fX12_228 sh_164 rfl (g_164_99 hG) ?_
  refine mm_kVI [.ref 234] dX12_qWordHere_78 kX12_283 rfl sh_164 (by decide) (by decide) h (fun z78 m78 hG h => ?_)
  refine mm_if_eq (tgt := 86) dX12_qWordHere_81 (by decide) (fun hc => ?_) (fun hc => ?_)
  · rw [if_pos hc] at h
    refine mm_aload_n (j := 0) dX12_qWordHere_86 rfl rfl ?_
    refine mm_aload_n (j := 0) dX12_qWordHere_87 rfl rfl ?_
    refine mm_getR (ci := 12) (N := 116) (r := 235) dX12_qWordHere_88 fX12_231 sh_164 rfl (g_164_100 hG) ?_
    refine mm_kVI [.ref 235] dX12_qWordHere_91 kX12_283 rfl sh_164 (by decide) (by decide) h (fun z91 m91 hG h => ?_)
    refine mm_if_eq (tgt := 100) dX12_qWordHere_94 (by decide) (fun hc => ?_) (fun hc => ?_)
    · rw [if_pos hc] at h
      refine mm_aload_n (j := 0) dX12_qWordHere_100 rfl rfl ?_
      refine mm_aload_n (j := 0) dX12_qWordHere_101 rfl rfl ?_
      refine mm_getR (ci := 12) (N := 116) (r := 236) dX12_qWordHere_102 fX12_234 sh_164 rfl (g_164_101 hG) ?_
      refine mm_kVI [.ref 236] dX12_qWordHere_105 kX12_283 rfl sh_164 (by decide) (by decide) h (fun z105 m105 hG h => ?_)
      refine mm_if_eq (tgt := 114) dX12_qWordHere_108 (by decide) (fun hc => ?_) (fun hc => ?_)
      · rw [if_pos hc] at h
        refine mm_aload_n (j := 0) dX12_qWordHere_114 rfl rfl ?_
        refine mm_aload_n (j := 0) dX12_qWordHere_115 rfl rfl ?_
        refine mm_getR (ci := 12) (N := 116) (r := 237) dX12_qWordHere_116 fX12_237 sh_164 rfl (g_164_102 hG) ?_
        refine mm_kVI [.ref 237] dX12_qWordHere_119 kX12_283 rfl sh_164 (by decide) (by decide) h (fun z119 m119 hG h => ?_)
        refine mm_if_eq (tgt := 128) dX12_qWordHere_122 (by decide) (fun hc => ?_) (fun hc => ?_)
        · rw [if_pos hc] at h
          refine mm_aload_n (j := 0) dX12_qWordHere_128 rfl rfl ?_
          refine mm_aload_n (j := 0) dX12_qWordHere_129 rfl rfl ?_
          refine mm_getR (ci := 12) (N := 116) (r := 238) dX12_qWordHere_130 fX12_240 sh_164 rfl (g_164_103 hG) ?_
          refine mm_kVI [.ref 238] dX12_qWordHere_133 kX12_283 rfl sh_164 (by decide) (by decide) h (fun z133 m133 hG h => ?_)
          refine mm_if_eq (tgt := 142) dX12_qWordHere_136 (by decide) (fun hc => ?_) (fun hc => ?_)
          · rw [if_pos hc] at h
            refine mm_iconst (x := (-1)) dX12_qWordHere_142 rfl ?_
            exact mm_iret dX12_qWordHere_143 rfl (Nat.le_refl 0) (Nat.le_refl 0) ⟨_, rfl, rfl, hG, h⟩
          · rw [if_neg hc] at h
            refine mm_bipush (x := 9) dX12_qWordHere_139 rfl ?_
            exact mm_iret dX12_qWordHere_141 rfl (Nat.le_refl 0) (Nat.le_refl 0) ⟨_, rfl, rfl, hG, h⟩
        · rw [if_neg hc] at h
          refine mm_bipush (x := 8) dX12_qWordHere_125 rfl ?_
          exact mm_iret dX12_qWordHere_127 rfl (Nat.le_refl 0) (Nat.le_refl 0) ⟨_, rfl, rfl, hG, h⟩
      · rw [if_neg hc] at h
        refine mm_bipush (x := 7) dX12_qWordHere_111 rfl ?_
        exact mm_iret dX12_qWordHere_113 rfl (Nat.le_refl 0) (Nat.le_refl 0) ⟨_, rfl, rfl, hG, h⟩
    · rw [if_neg hc] at h
      refine mm_bipush (x := 6) dX12_qWordHere_97 rfl ?_
      exact mm_iret dX12_qWordHere_99 rfl (Nat.le_refl 0) (Nat.le_refl 0) ⟨_, rfl, rfl, hG, h⟩
  · rw [if_neg hc] at h
    refine mm_iconst (x := 5) dX12_qWordHere_84 rfl ?_
    exact mm_iret dX12_qWordHere_85 rfl (Nat.le_refl 0) (Nat.le_refl 0) ⟨_, rfl, rfl, hG, h⟩
set_option maxRecDepth 100000 in
set_option maxHeartbeats 4000000 in
theorem rX12_qWordOf {d : Nat} {x1 : Int32} {x2 : Int32} {M : mm_M} {K : Int32 → mm_M → Prop} (hG : mm_G M.2.2) (h : mm_CI mX12_qWordHere d [.ref 164] M (fun z1 m1 => if z1 < x1 then (K (-1) m1) else (if x2 ≤ z1 then (K (-1) m1) else (mm_CI mX12_isAllowed d [.ref 164, .int z1] m1 (fun z17 m17 => if z17 = 0 then (K (-1) m17) else (K z1 m17)))))) : mm_CI mX12_qWordOf (d + 1) [.ref 164, .int x1, .int x2] M K := by
  show mm_W mX12_qWordOf (d + 1) 0 0 0 [(0, .ref 164), (1, .int x1), (2, .int x2)] [] mm_SH M 0 0 (mm_PI K)
  refine mm_aload_n (j := 0) dX12_qWordOf_0 rfl rfl ?_
  refine mm_kVI [] dX12_qWordOf_1 kX12_651 rfl sh_164 (by decide) (by decide) h (fun z1 m1 hG h => ?_)
  refine mm_istore_n (lv' := [(3, .int z1), (0, .ref 164), (1, .int x1), (2, .int x2)]) dX12_qWordOf_4 rfl (by decide) rfl ?_
  refine mm_iload_n (j := 0) dX12_qWordOf_5 rfl rfl ?_
  refine mm_iload_n (j := 2) dX12_qWordOf_6 rfl rfl ?_
  refine mm_icmp_lt (tgt := 27) dX12_qWordOf_7 (by decide) (fun hc => ?_) (fun hc => ?_)
  · rw [if_pos hc] at h
    refine mm_iconst (x := (-1)) dX12_qWordOf_27 rfl ?_
    exact mm_iret dX12_qWordOf_28 rfl (Nat.le_refl 0) (Nat.le_refl 0) ⟨_, rfl, rfl, hG, h⟩
  · rw [if_neg hc] at h
    refine mm_iload_n (j := 0) dX12_qWordOf_10 rfl rfl ?_
    refine mm_iload_n (j := 3) dX12_qWordOf_11 rfl rfl ?_
    refine mm_icmp_ge (tgt := 27) dX12_qWordOf_12 (by decide) (fun hc => ?_) (fun hc => ?_)
    · rw [if_pos hc] at h
      refine mm_iconst (x := (-1)) dX12_qWordOf_27 rfl ?_
      exact mm_iret dX12_qWordOf_28 rfl (Nat.le_refl 0) (Nat.le_refl 0) ⟨_, rfl, rfl, hG, h⟩
    · rw [if_neg hc] at h
      refine mm_aload_n (j := 1) dX12_qWordOf_15 rfl rfl ?_
      refine mm_iload_n (j := 0) dX12_qWordOf_16 rfl rfl ?_
      refine mm_kVI [.int z1] dX12_qWordOf_17 kX12_654 rfl sh_164 (by decide) (by decide) h (fun z17 m17 hG h => ?_)
      refine mm_if_eq (tgt := 27) dX12_qWordOf_20 (by decide) (fun hc => ?_) (fun hc => ?_)
      · rw [if_pos hc] at h
        refine mm_iconst (x := (-1)) dX12_qWordOf_27 rfl ?_
        exact mm_iret dX12_qWordOf_28 rfl (Nat.le_refl 0) (Nat.le_refl 0) ⟨_, rfl, rfl, hG, h⟩
      · rw [if_neg hc] at h
        refine mm_iload_n (j := 0) dX12_qWordOf_23 rfl rfl ?_
        refine mm_goto (tgt := 28) dX12_qWordOf_24 (by decide) ?_
        exact mm_iret dX12_qWordOf_28 rfl (Nat.le_refl 0) (Nat.le_refl 0) ⟨_, rfl, rfl, hG, h⟩
set_option maxRecDepth 100000 in
set_option maxHeartbeats 4000000 in
theorem rX12_qAsksWord {d : Nat} {x1 : Int32} {M : mm_M} {K : mm_M → Prop} (hG : mm_G M.2.2) (h : if x1 = 0 then (mm_CV mX12_asks d [.ref 164, .ref 229] M (fun m57 => K m57)) else (if x1 = 1 then (mm_CV mX12_asks d [.ref 164, .ref 230] M (fun m68 => K m68)) else (if x1 = 2 then (mm_CV mX12_asks d [.ref 164, .ref 231] M (fun m79 => K m79)) else (if x1 = 3 then (mm_CV mX12_asks d [.ref 164, .ref 232] M (fun m90 => K m90)) else (if x1 = 4 then (mm_CV mX12_asks d [.ref 164, .ref 233] M (fun m101 => K m101)) else (if x1 = 5 then (mm_CV mX12_asks d [.ref 164, .ref 234] M (fun m112 => K m112)) else (if x1 = 6 then (mm_CV mX12_asks d [.ref 164, .ref 235] M (fun m123 => K m123)) else (if x1 = 7 then (mm_CV mX12_asks d [.ref 164, .ref 236] M (fun m134 => K m134)) else (if x1 = 8 then (mm_CV mX12_asks d [.ref 164, .ref 237] M (fun m145 => K m145)) else (mm_CV mX12_asks d [.ref 164, .ref 238] M (fun m156 => K m156))))))))))) : mm_CV mX12_qAsksWord (d + 1) [.ref 164, .int x1] M K := by
  show mm_W mX12_qAsksWord (d + 1) 0 0 0 [(0, .ref 164), (1, .int x1)] [] mm_SH M 0 0 (mm_PV K)
  refine mm_iload_n (j := 1) dX12_qAsksWord_0 rfl rfl ?_
  by_cases hs1_0 : x1 = 0
  · rw [if_pos hs1_0] at h
    refine mm_tableIn (off := 51) (tgt := 52) dX12_qAsksWord_1 (by rw [hs1_0]; decide) (by rw [hs1_0]; decide) (by rw [hs1_0]; rfl) (by decide) ?_
    refine mm_aload_n (j := 0) dX12_qAsksWord_52 rfl rfl ?_
    refine mm_aload_n (j := 0) dX12_qAsksWord_53 rfl rfl ?_
    refine mm_getR (ci := 12) (N := 116) (r := 229) dX12_qAsksWord_54 fX12_213 sh_164 rfl (g_164_94 hG) ?_
    refine mm_kVV [.ref 229] dX12_qAsksWord_57 kX12_325 rfl sh_164 (by decide) (by decide) h (fun m57 hG h => ?_)
    refine mm_goto (tgt := 159) dX12_qAsksWord_60 (by decide) ?_
    exact mm_vret dX12_qAsksWord_159 rfl (Nat.le_refl 0) (Nat.le_refl 0) ⟨rfl, rfl, hG, h⟩
  · rw [if_neg hs1_0] at h
    by_cases hs1_1 : x1 = 1
    · rw [if_pos hs1_1] at h
      refine mm_tableIn (off := 62) (tgt := 63) dX12_qAsksWord_1 (by rw [hs1_1]; decide) (by rw [hs1_1]; decide) (by rw [hs1_1]; rfl) (by decide) ?_
      refine mm_aload_n (j := 0) dX12_qAsksWord_63 rfl rfl ?_
      refine mm_aload_n (j := 0) dX12_qAsksWord_64 rfl rfl ?_
      refine mm_getR (ci := 12) (N := 116) (r := 230) dX12_qAsksWord_65 fX12_216 sh_164 rfl (g_164_95 hG) ?_
      refine mm_kVV [.ref 230] dX12_qAsksWord_68 kX12_325 rfl sh_164 (by decide) (by decide) h (fun m68 hG h => ?_)
      refine mm_goto (tgt := 159) dX12_qAsksWord_71 (by decide) ?_
      exact mm_vret dX12_qAsksWord_159 rfl (Nat.le_refl 0) (Nat.le_refl 0) ⟨rfl, rfl, hG, h⟩
    · rw [if_neg hs1_1] at h
      by_cases hs1_2 : x1 = 2
      · rw [if_pos hs1_2] at h
        refine mm_tableIn (off := 73) (tgt := 74) dX12_qAsksWord_1 (by rw [hs1_2]; decide) (by rw [hs1_2]; decide) (by rw [hs1_2]; rfl) (by decide) ?_
        refine mm_aload_n (j := 0) dX12_qAsksWord_74 rfl rfl ?_
        refine mm_aload_n (j := 0) dX12_qAsksWord_75 rfl rfl ?_
        refine mm_getR (ci := 12) (N := 116) (r := 231) dX12_qAsksWord_76 fX12_219 sh_164 rfl (g_164_96 hG) ?_
        refine mm_kVV [.ref 231] dX12_qAsksWord_79 kX12_325 rfl sh_164 (by decide) (by decide) h (fun m79 hG h => ?_)
        refine mm_goto (tgt := 159) dX12_qAsksWord_82 (by decide) ?_
        exact mm_vret dX12_qAsksWord_159 rfl (Nat.le_refl 0) (Nat.le_refl 0) ⟨rfl, rfl, hG, h⟩
      · rw [if_neg hs1_2] at h
        by_cases hs1_3 : x1 = 3
        · rw [if_pos hs1_3] at h
          refine mm_tableIn (off := 84) (tgt := 85) dX12_qAsksWord_1 (by rw [hs1_3]; decide) (by rw [hs1_3]; decide) (by rw [hs1_3]; rfl) (by decide) ?_
          refine mm_aload_n (j := 0) dX12_qAsksWord_85 rfl rfl ?_
          refine mm_aload_n (j := 0) dX12_qAsksWord_86 rfl rfl ?_
          refine mm_getR (ci := 12) (N := 116) (r := 232) dX12_qAsksWord_87 fX12_222 sh_164 rfl (g_164_97 hG) ?_
          refine mm_kVV [.ref 232] dX12_qAsksWord_90 kX12_325 rfl sh_164 (by decide) (by decide) h (fun m90 hG h => ?_)
          refine mm_goto (tgt := 159) dX12_qAsksWord_93 (by decide) ?_
          exact mm_vret dX12_qAsksWord_159 rfl (Nat.le_refl 0) (Nat.le_refl 0) ⟨rfl, rfl, hG, h⟩
        · rw [if_neg hs1_3] at h
          by_cases hs1_4 : x1 = 4
          · rw [if_pos hs1_4] at h
            refine mm_tableIn (off := 95) (tgt := 96) dX12_qAsksWord_1 (by rw [hs1_4]; decide) (by rw [hs1_4]; decide) (by rw [hs1_4]; rfl) (by decide) ?_
            refine mm_aload_n (j := 0) dX12_qAsksWord_96 rfl rfl ?_
            refine mm_aload_n (j := 0) dX12_qAsksWord_97 rfl rfl ?_
            refine mm_getR (ci := 12) (N := 116) (r := 233) dX12_qAsksWord_98 fX12_225 sh_164 rfl (g_164_98 hG) ?_
            refine mm_kVV [.ref 233] dX12_qAsksWord_101 kX12_325 rfl sh_164 (by decide) (by decide) h (fun m101 hG h => ?_)
            refine mm_goto (tgt := 159) dX12_qAsksWord_104 (by decide) ?_
            exact mm_vret dX12_qAsksWord_159 rfl (Nat.le_refl 0) (Nat.le_refl 0) ⟨rfl, rfl, hG, h⟩
          · rw [if_neg hs1_4] at h
            by_cases hs1_5 : x1 = 5
            · rw [if_pos hs1_5] at h
              refine mm_tableIn (off := 106) (tgt := 107) dX12_qAsksWord_1 (by rw [hs1_5]; decide) (by rw [hs1_5]; decide) (by rw [hs1_5]; rfl) (by decide) ?_
              refine mm_aload_n (j := 0) dX12_qAsksWord_107 rfl rfl ?_
              refine mm_aload_n (j := 0) dX12_qAsksWord_108 rfl rfl ?_
              refine mm_getR (ci := 12) (N := 116) (r := 234) dX12_qAsksWord_109 fX12_228 sh_164 rfl (g_164_99 hG) ?_
              refine mm_kVV [.ref 234] dX12_qAsksWord_112 kX12_325 rfl sh_164 (by decide) (by decide) h (fun m112 hG h => ?_)
              refine mm_goto (tgt := 159) dX12_qAsksWord_115 (by decide) ?_
              exact mm_vret dX12_qAsksWord_159 rfl (Nat.le_refl 0) (Nat.le_refl 0) ⟨rfl, rfl, hG, h⟩
            · rw [if_neg hs1_5] at h
              by_cases hs1_6 : x1 = 6
              · rw [if_pos hs1_6] at h
                refine mm_tableIn (off := 117) (tgt := 118) dX12_qAsksWord_1 (by rw [hs1_6]; decide) (by rw [hs1_6]; decide) (by rw [hs1_6]; rfl) (by decide) ?_
                refine mm_aload_n (j := 0) dX12_qAsksWord_118 rfl rfl ?_
                refine mm_aload_n (j := 0) dX12_qAsksWord_119 rfl rfl ?_
                refine mm_getR (ci := 12) (N := 116) (r := 235) dX12_qAsksWord_120 fX12_231 sh_164 rfl (g_164_100 hG) ?_
                refine mm_kVV [.ref 235] dX12_qAsksWord_123 kX12_325 rfl sh_164 (by decide) (by decide) h (fun m123 hG h => ?_)
                refine mm_goto (tgt := 159) dX12_qAsksWord_126 (by decide) ?_
                exact mm_vret dX12_qAsksWord_159 rfl (Nat.le_refl 0) (Nat.le_refl 0) ⟨rfl, rfl, hG, h⟩
              · rw [if_neg hs1_6] at h
                by_cases hs1_7 : x1 = 7
                · rw [if_pos hs1_7] at h
                  refine mm_tableIn (off := 128) (tgt := 129) dX12_qAsksWord_1 (by rw [hs1_7]; decide) (by rw [hs1_7]; decide) (by rw [hs1_7]; rfl) (by decide) ?_
                  refine mm_aload_n (j := 0) dX12_qAsksWord_129 rfl rfl ?_
                  refine mm_aload_n (j := 0) dX12_qAsksWord_130 rfl rfl ?_
                  refine mm_getR (ci := 12) (N := 116) (r := 236) dX12_qAsksWord_131 fX12_234 sh_164 rfl (g_164_101 hG) ?_
                  refine mm_kVV [.ref 236] dX12_qAsksWord_134 kX12_325 rfl sh_164 (by decide) (by decide) h (fun m134 hG h => ?_)
                  refine mm_goto (tgt := 159) dX12_qAsksWord_137 (by decide) ?_
                  exact mm_vret dX12_qAsksWord_159 rfl (Nat.le_refl 0) (Nat.le_refl 0) ⟨rfl, rfl, hG, h⟩
                · rw [if_neg hs1_7] at h
                  by_cases hs1_8 : x1 = 8
                  · rw [if_pos hs1_8] at h
                    refine mm_tableIn (off := 139) (tgt := 140) dX12_qAsksWord_1 (by rw [hs1_8]; decide) (by rw [hs1_8]; decide) (by rw [hs1_8]; rfl) (by decide) ?_
                    refine mm_aload_n (j := 0) dX12_qAsksWord_140 rfl rfl ?_
                    refine mm_aload_n (j := 0) dX12_qAsksWord_141 rfl rfl ?_
                    refine mm_getR (ci := 12) (N := 116) (r := 237) dX12_qAsksWord_142 fX12_237 sh_164 rfl (g_164_102 hG) ?_
                    refine mm_kVV [.ref 237] dX12_qAsksWord_145 kX12_325 rfl sh_164 (by decide) (by decide) h (fun m145 hG h => ?_)
                    refine mm_goto (tgt := 159) dX12_qAsksWord_148 (by decide) ?_
                    exact mm_vret dX12_qAsksWord_159 rfl (Nat.le_refl 0) (Nat.le_refl 0) ⟨rfl, rfl, hG, h⟩
                  · rw [if_neg hs1_8] at h
                    have ht1_0 := lv_neT hs1_0 (show (0 : Int32).toInt = 0 from rfl)
                    have ht1_1 := lv_neT hs1_1 (show (1 : Int32).toInt = 1 from rfl)
                    have ht1_2 := lv_neT hs1_2 (show (2 : Int32).toInt = 2 from rfl)
                    have ht1_3 := lv_neT hs1_3 (show (3 : Int32).toInt = 3 from rfl)
                    have ht1_4 := lv_neT hs1_4 (show (4 : Int32).toInt = 4 from rfl)
                    have ht1_5 := lv_neT hs1_5 (show (5 : Int32).toInt = 5 from rfl)
                    have ht1_6 := lv_neT hs1_6 (show (6 : Int32).toInt = 6 from rfl)
                    have ht1_7 := lv_neT hs1_7 (show (7 : Int32).toInt = 7 from rfl)
                    have ht1_8 := lv_neT hs1_8 (show (8 : Int32).toInt = 8 from rfl)
                    refine mm_tableOut (tgt := 151) dX12_qAsksWord_1 (by omega) (by decide) ?_
                    refine mm_aload_n (j := 0) dX12_qAsksWord_151 rfl rfl ?_
                    refine mm_aload_n (j := 0) dX12_qAsksWord_152 rfl rfl ?_
                    refine mm_getR (ci := 12) (N := 116) (r := 238) dX12_qAsksWord_153 fX12_240 sh_164 rfl (g_164_103 hG) ?_
                    refine mm_kVV [.ref 238] dX12_qAsksWord_156 kX12_325 rfl sh_164 (by decide) (by decide) h (fun m156 hG h => ?_)
                    exact mm_vret dX12_qAsksWord_159 rfl (Nat.le_refl 0) (Nat.le_refl 0) ⟨rfl, rfl, hG, h⟩
def jX12_qEndsPart_0 (d : Nat) (M : mm_M) (K : mm_M → Prop) : Prop := mm_W mX12_qEndsPart (d + 1) 0 0 0 [(0, .ref 164)] [] mm_SH M 0 0 (mm_PV K)
set_option maxRecDepth 100000 in
set_option maxHeartbeats 4000000 in
theorem rX12_qEndsPart {d : Nat} {M : mm_M} {K : mm_M → Prop} (hG : mm_G M.2.2) (h : if (M.1 164 5) = 0 then (if (M.1 164 107) ≤ (M.1 164 109) then (K M) else (vp_in ((M.1 164 107) - 1) 1700 ∧ if (M.1 240 ((M.1 164 107) - 1).toNatClampNeg) < 60 then (K M) else (mm_CV mX12_qDrops d [.ref 164] (mm_uI M 164 108 ((M.1 164 108) - 1)) (fun m45 => jX12_qEndsPart_0 d m45 K)))) else (K M)) : mm_CV mX12_qEndsPart (d + 1) [.ref 164] M K := by
  show mm_W mX12_qEndsPart (d + 1) 0 0 0 [(0, .ref 164)] [] mm_SH M 0 0 (mm_PV K)
  refine mm_aload_n (j := 0) dX12_qEndsPart_0 rfl rfl ?_
  refine mm_getI (ci := 12) (N := 116) dX12_qEndsPart_1 fX12_260 sh_164 rfl ?_
  refine mm_if_ne (tgt := 51) dX12_qEndsPart_4 (by decide) (fun hc => ?_) (fun hc => ?_)
  · rw [if_neg hc] at h
    exact mm_vret dX12_qEndsPart_51 rfl (Nat.le_refl 0) (Nat.le_refl 0) ⟨rfl, rfl, hG, h⟩
  · rw [if_pos hc] at h
    refine mm_aload_n (j := 0) dX12_qEndsPart_7 rfl rfl ?_
    refine mm_getI (ci := 12) (N := 116) dX12_qEndsPart_8 fX12_357 sh_164 rfl ?_
    refine mm_aload_n (j := 0) dX12_qEndsPart_11 rfl rfl ?_
    refine mm_getI (ci := 12) (N := 116) dX12_qEndsPart_12 fX12_363 sh_164 rfl ?_
    refine mm_icmp_le (tgt := 51) dX12_qEndsPart_15 (by decide) (fun hc => ?_) (fun hc => ?_)
    · rw [if_pos hc] at h
      exact mm_vret dX12_qEndsPart_51 rfl (Nat.le_refl 0) (Nat.le_refl 0) ⟨rfl, rfl, hG, h⟩
    · rw [if_neg hc] at h
      refine mm_aload_n (j := 0) dX12_qEndsPart_18 rfl rfl ?_
      refine mm_getR (ci := 12) (N := 116) (r := 240) dX12_qEndsPart_19 fX12_246 sh_164 rfl (g_164_106 hG) ?_
      refine mm_aload_n (j := 0) dX12_qEndsPart_22 rfl rfl ?_
      refine mm_getI (ci := 12) (N := 116) dX12_qEndsPart_23 fX12_357 sh_164 rfl ?_
      refine mm_iconst (x := 1) dX12_qEndsPart_26 rfl ?_
      refine mm_isub dX12_qEndsPart_27 ?_
      obtain ⟨hi28, h⟩ := h
      refine mm_iaload (N := 1700) dX12_qEndsPart_28 sh_240 hi28 ?_
      refine mm_bipush (x := 60) dX12_qEndsPart_29 rfl ?_
      refine mm_icmp_lt (tgt := 51) dX12_qEndsPart_31 (by decide) (fun hc => ?_) (fun hc => ?_)
      · rw [if_pos hc] at h
        exact mm_vret dX12_qEndsPart_51 rfl (Nat.le_refl 0) (Nat.le_refl 0) ⟨rfl, rfl, hG, h⟩
      · rw [if_neg hc] at h
        refine mm_aload_n (j := 0) dX12_qEndsPart_34 rfl rfl ?_
        refine mm_dup dX12_qEndsPart_35 rfl ?_
        refine mm_getI (ci := 12) (N := 116) dX12_qEndsPart_36 fX12_360 sh_164 rfl ?_
        refine mm_iconst (x := 1) dX12_qEndsPart_39 rfl ?_
        refine mm_isub dX12_qEndsPart_40 ?_
        refine mm_putI (ci := 12) (N := 116) dX12_qEndsPart_41 fX12_360 sh_164 (by decide +kernel) rfl rfl rfl ?_
        refine mm_aload_n (j := 0) dX12_qEndsPart_44 rfl rfl ?_
        refine mm_kVV [] dX12_qEndsPart_45 kX12_648 rfl sh_164 (by decide) (by decide) h (fun m45 hG h => ?_)
        refine mm_goto (tgt := 0) dX12_qEndsPart_48 (by decide) ?_
        exact h
set_option maxRecDepth 100000 in
set_option maxHeartbeats 4000000 in
theorem lX12_qEndsPart_0 {d : Nat} {M : mm_M} {K : mm_M → Prop} (hG : mm_G M.2.2) (h : if (M.1 164 5) = 0 then (if (M.1 164 107) ≤ (M.1 164 109) then (K M) else (vp_in ((M.1 164 107) - 1) 1700 ∧ if (M.1 240 ((M.1 164 107) - 1).toNatClampNeg) < 60 then (K M) else (mm_CV mX12_qDrops d [.ref 164] (mm_uI M 164 108 ((M.1 164 108) - 1)) (fun m45 => jX12_qEndsPart_0 d m45 K)))) else (K M)) : jX12_qEndsPart_0 d  M K  := by
  unfold jX12_qEndsPart_0
  refine mm_aload_n (j := 0) dX12_qEndsPart_0 rfl rfl ?_
  refine mm_getI (ci := 12) (N := 116) dX12_qEndsPart_1 fX12_260 sh_164 rfl ?_
  refine mm_if_ne (tgt := 51) dX12_qEndsPart_4 (by decide) (fun hc => ?_) (fun hc => ?_)
  · rw [if_neg hc] at h
    exact mm_vret dX12_qEndsPart_51 rfl (Nat.le_refl 0) (Nat.le_refl 0) ⟨rfl, rfl, hG, h⟩
  · rw [if_pos hc] at h
    refine mm_aload_n (j := 0) dX12_qEndsPart_7 rfl rfl ?_
    refine mm_getI (ci := 12) (N := 116) dX12_qEndsPart_8 fX12_357 sh_164 rfl ?_
    refine mm_aload_n (j := 0) dX12_qEndsPart_11 rfl rfl ?_
    refine mm_getI (ci := 12) (N := 116) dX12_qEndsPart_12 fX12_363 sh_164 rfl ?_
    refine mm_icmp_le (tgt := 51) dX12_qEndsPart_15 (by decide) (fun hc => ?_) (fun hc => ?_)
    · rw [if_pos hc] at h
      exact mm_vret dX12_qEndsPart_51 rfl (Nat.le_refl 0) (Nat.le_refl 0) ⟨rfl, rfl, hG, h⟩
    · rw [if_neg hc] at h
      refine mm_aload_n (j := 0) dX12_qEndsPart_18 rfl rfl ?_
      refine mm_getR (ci := 12) (N := 116) (r := 240) dX12_qEndsPart_19 fX12_246 sh_164 rfl (g_164_106 hG) ?_
      refine mm_aload_n (j := 0) dX12_qEndsPart_22 rfl rfl ?_
      refine mm_getI (ci := 12) (N := 116) dX12_qEndsPart_23 fX12_357 sh_164 rfl ?_
      refine mm_iconst (x := 1) dX12_qEndsPart_26 rfl ?_
      refine mm_isub dX12_qEndsPart_27 ?_
      obtain ⟨hi28, h⟩ := h
      refine mm_iaload (N := 1700) dX12_qEndsPart_28 sh_240 hi28 ?_
      refine mm_bipush (x := 60) dX12_qEndsPart_29 rfl ?_
      refine mm_icmp_lt (tgt := 51) dX12_qEndsPart_31 (by decide) (fun hc => ?_) (fun hc => ?_)
      · rw [if_pos hc] at h
        exact mm_vret dX12_qEndsPart_51 rfl (Nat.le_refl 0) (Nat.le_refl 0) ⟨rfl, rfl, hG, h⟩
      · rw [if_neg hc] at h
        refine mm_aload_n (j := 0) dX12_qEndsPart_34 rfl rfl ?_
        refine mm_dup dX12_qEndsPart_35 rfl ?_
        refine mm_getI (ci := 12) (N := 116) dX12_qEndsPart_36 fX12_360 sh_164 rfl ?_
        refine mm_iconst (x := 1) dX12_qEndsPart_39 rfl ?_
        refine mm_isub dX12_qEndsPart_40 ?_
        refine mm_putI (ci := 12) (N := 116) dX12_qEndsPart_41 fX12_360 sh_164 (by decide +kernel) rfl rfl rfl ?_
        refine mm_aload_n (j := 0) dX12_qEndsPart_44 rfl rfl ?_
        refine mm_kVV [] dX12_qEndsPart_45 kX12_648 rfl sh_164 (by decide) (by decide) h (fun m45 hG h => ?_)
        refine mm_goto (tgt := 0) dX12_qEndsPart_48 (by decide) ?_
        exact h
def jX12_qPartTold_2 (d : Nat) (M : mm_M) (K : mm_M → Prop) (y1 : Int32) : Prop := mm_W mX12_qPartTold (d + 1) 0 0 2 [(0, .ref 164), (1, .int y1)] [] mm_SH M 0 0 (mm_PV K)
def jX12_qPartTold_186 (d : Nat) (M : mm_M) (K : mm_M → Prop) : Prop := mm_W mX12_qPartTold (d + 1) 0 0 186 [(0, .ref 164)] [] mm_SH M 0 0 (mm_PV K)
def jX12_qPartTold_78 (d : Nat) (M : mm_M) (K : mm_M → Prop) (y1 : Int32) : Prop := mm_W mX12_qPartTold (d + 1) 0 0 78 [(0, .ref 164), (1, .int y1)] [] mm_SH M 0 0 (mm_PV K)
def jX12_qPartTold_212 (d : Nat) (M : mm_M) (K : mm_M → Prop) (y2 : Int32) : Prop := mm_W mX12_qPartTold (d + 1) 0 0 212 [(0, .ref 164), (2, .int y2)] [] mm_SH M 0 0 (mm_PV K)
def jX12_qPartTold_118 (d : Nat) (M : mm_M) (K : mm_M → Prop) (y1 : Int32) (y4 : Int32) (u0 : Int32) : Prop := mm_W mX12_qPartTold (d + 1) 0 0 118 [(0, .ref 164), (1, .int y1), (4, .int y4)] [.int u0] mm_SH M 0 0 (mm_PV K)
set_option maxRecDepth 100000 in
set_option maxHeartbeats 4000000 in
theorem rX12_qPartTold {d : Nat} {M : mm_M} {K : mm_M → Prop} (hG : mm_G M.2.2) (h : jX12_qPartTold_2 d M K 1) : mm_CV mX12_qPartTold (d + 1) [.ref 164] M K := by
  show mm_W mX12_qPartTold (d + 1) 0 0 0 [(0, .ref 164)] [] mm_SH M 0 0 (mm_PV K)
  refine mm_iconst (x := 1) dX12_qPartTold_0 rfl ?_
  refine mm_istore_n (lv' := [(1, .int 1), (0, .ref 164)]) dX12_qPartTold_1 rfl (by decide) rfl ?_
  exact mm_sub [1, 0] rfl h
set_option maxRecDepth 100000 in
set_option maxHeartbeats 4000000 in
theorem lX12_qPartTold_2 {d : Nat} {M : mm_M} {K : mm_M → Prop} {y1 : Int32} (hG : mm_G M.2.2) (h : if y1 = 0 then (jX12_qPartTold_186 d M K) else (if (M.1 164 5) = 0 then (mm_CI mX12_look d [.ref 164] M (fun z14 m14 => mm_CI mX12_qWordOf d [.ref 164, .int 8, .int 10] m14 (fun z23 m23 => if z14 = 40 then (mm_CV mX12_qOpens d [.ref 164, .int 20, .int (m23.1 164 2)] m23 (fun m40 => jX12_qPartTold_2 d (mm_uI m40 164 2 ((m40.1 164 2) + 1)) K y1)) else (mm_CI mX12_isHere d [.ref 164, .ref 227] m23 (fun z61 m61 => if z61 = 0 then (mm_CI mX12_isHere d [.ref 164, .ref 228] m61 (fun z72 m72 => if z72 = 0 then (if z23 = (-1) then (jX12_qPartTold_2 d m72 K 0) else (mm_CV mX12_qOpens d [.ref 164, .int ((60 + z23) - 8), .int (m72.1 164 2)] m72 (fun m170 => mm_CV mX12_qAsksWord d [.ref 164, .int z23] m170 (fun m175 => jX12_qPartTold_2 d m175 K y1)))) else (jX12_qPartTold_78 d m72 K y1))) else (jX12_qPartTold_78 d m61 K y1)))))) else (jX12_qPartTold_186 d M K))) : jX12_qPartTold_2 d  M K y1 := by
  unfold jX12_qPartTold_2
  refine mm_iload_n (j := 1) dX12_qPartTold_2 rfl rfl ?_
  refine mm_if_eq (tgt := 186) dX12_qPartTold_3 (by decide) (fun hc => ?_) (fun hc => ?_)
  · rw [if_pos hc] at h
    exact mm_sub [0] rfl h
  · rw [if_neg hc] at h
    refine mm_aload_n (j := 0) dX12_qPartTold_6 rfl rfl ?_
    refine mm_getI (ci := 12) (N := 116) dX12_qPartTold_7 fX12_260 sh_164 rfl ?_
    refine mm_if_ne (tgt := 186) dX12_qPartTold_10 (by decide) (fun hc => ?_) (fun hc => ?_)
    · rw [if_neg hc] at h
      exact mm_sub [0] rfl h
    · rw [if_pos hc] at h
      refine mm_aload_n (j := 0) dX12_qPartTold_13 rfl rfl ?_
      refine mm_kVI [] dX12_qPartTold_14 kX12_272 rfl sh_164 (by decide) (by decide) h (fun z14 m14 hG h => ?_)
      refine mm_istore_n (lv' := [(2, .int z14), (0, .ref 164), (1, .int y1)]) dX12_qPartTold_17 rfl (by decide) rfl ?_
      refine mm_aload_n (j := 1) dX12_qPartTold_18 rfl rfl ?_
      refine mm_bipush (x := 8) dX12_qPartTold_19 rfl ?_
      refine mm_bipush (x := 10) dX12_qPartTold_21 rfl ?_
      refine mm_kVI [.int 8, .int 10] dX12_qPartTold_23 kX12_657 rfl sh_164 (by decide) (by decide) h (fun z23 m23 hG h => ?_)
      refine mm_istore_n (lv' := [(3, .int z23), (2, .int z14), (0, .ref 164), (1, .int y1)]) dX12_qPartTold_26 rfl (by decide) rfl ?_
      refine mm_iload_n (j := 1) dX12_qPartTold_27 rfl rfl ?_
      refine mm_bipush (x := 40) dX12_qPartTold_28 rfl ?_
      refine mm_icmp_ne (tgt := 56) dX12_qPartTold_30 (by decide) (fun hc => ?_) (fun hc => ?_)
      · rw [if_neg hc] at h
        refine mm_aload_n (j := 2) dX12_qPartTold_56 rfl rfl ?_
        refine mm_aload_n (j := 2) dX12_qPartTold_57 rfl rfl ?_
        refine mm_getR (ci := 12) (N := 116) (r := 227) dX12_qPartTold_58 fX12_207 sh_164 rfl (g_164_92 hG) ?_
        refine mm_kVI [.ref 227] dX12_qPartTold_61 kX12_283 rfl sh_164 (by decide) (by decide) h (fun z61 m61 hG h => ?_)
        refine mm_if_ne (tgt := 78) dX12_qPartTold_64 (by decide) (fun hc => ?_) (fun hc => ?_)
        · rw [if_neg hc] at h
          exact mm_sub [2, 3] rfl h
        · rw [if_pos hc] at h
          refine mm_aload_n (j := 2) dX12_qPartTold_67 rfl rfl ?_
          refine mm_aload_n (j := 2) dX12_qPartTold_68 rfl rfl ?_
          refine mm_getR (ci := 12) (N := 116) (r := 228) dX12_qPartTold_69 fX12_210 sh_164 rfl (g_164_93 hG) ?_
          refine mm_kVI [.ref 228] dX12_qPartTold_72 kX12_283 rfl sh_164 (by decide) (by decide) h (fun z72 m72 hG h => ?_)
          refine mm_if_eq (tgt := 153) dX12_qPartTold_75 (by decide) (fun hc => ?_) (fun hc => ?_)
          · rw [if_pos hc] at h
            refine mm_iload_n (j := 0) dX12_qPartTold_153 rfl rfl ?_
            refine mm_iconst (x := (-1)) dX12_qPartTold_154 rfl ?_
            refine mm_icmp_eq (tgt := 181) dX12_qPartTold_155 (by decide) (fun hc => ?_) (fun hc => ?_)
            · rw [if_pos hc] at h
              refine mm_iconst (x := 0) dX12_qPartTold_181 rfl ?_
              refine mm_istore_n (lv' := [(1, .int 0), (3, .int z23), (2, .int z14), (0, .ref 164)]) dX12_qPartTold_182 rfl (by decide) rfl ?_
              refine mm_goto (tgt := 2) dX12_qPartTold_183 (by decide) ?_
              exact mm_sub [3, 0] rfl h
            · rw [if_neg hc] at h
              refine mm_aload_n (j := 2) dX12_qPartTold_158 rfl rfl ?_
              refine mm_bipush (x := 60) dX12_qPartTold_159 rfl ?_
              refine mm_iload_n (j := 0) dX12_qPartTold_161 rfl rfl ?_
              refine mm_iadd dX12_qPartTold_162 ?_
              refine mm_bipush (x := 8) dX12_qPartTold_163 rfl ?_
              refine mm_isub dX12_qPartTold_165 ?_
              refine mm_aload_n (j := 2) dX12_qPartTold_166 rfl rfl ?_
              refine mm_getI (ci := 12) (N := 116) dX12_qPartTold_167 fX12_266 sh_164 rfl ?_
              refine mm_kVV [.int ((60 + z23) - 8), .int (m72.1 164 2)] dX12_qPartTold_170 kX12_660 rfl sh_164 (by decide) (by decide) h (fun m170 hG h => ?_)
              refine mm_aload_n (j := 2) dX12_qPartTold_173 rfl rfl ?_
              refine mm_iload_n (j := 0) dX12_qPartTold_174 rfl rfl ?_
              refine mm_kVV [.int z23] dX12_qPartTold_175 kX12_663 rfl sh_164 (by decide) (by decide) h (fun m175 hG h => ?_)
              refine mm_goto (tgt := 183) dX12_qPartTold_178 (by decide) ?_
              refine mm_goto (tgt := 2) dX12_qPartTold_183 (by decide) ?_
              exact mm_sub [2, 3] rfl h
          · rw [if_neg hc] at h
            exact mm_sub [2, 3] rfl h
      · rw [if_pos hc] at h
        refine mm_aload_n (j := 2) dX12_qPartTold_33 rfl rfl ?_
        refine mm_bipush (x := 20) dX12_qPartTold_34 rfl ?_
        refine mm_aload_n (j := 2) dX12_qPartTold_36 rfl rfl ?_
        refine mm_getI (ci := 12) (N := 116) dX12_qPartTold_37 fX12_266 sh_164 rfl ?_
        refine mm_kVV [.int 20, .int (m23.1 164 2)] dX12_qPartTold_40 kX12_660 rfl sh_164 (by decide) (by decide) h (fun m40 hG h => ?_)
        refine mm_aload_n (j := 2) dX12_qPartTold_43 rfl rfl ?_
        refine mm_dup dX12_qPartTold_44 rfl ?_
        refine mm_getI (ci := 12) (N := 116) dX12_qPartTold_45 fX12_266 sh_164 rfl ?_
        refine mm_iconst (x := 1) dX12_qPartTold_48 rfl ?_
        refine mm_iadd dX12_qPartTold_49 ?_
        refine mm_putI (ci := 12) (N := 116) dX12_qPartTold_50 fX12_266 sh_164 (by decide +kernel) rfl rfl rfl ?_
        refine mm_goto (tgt := 183) dX12_qPartTold_53 (by decide) ?_
        refine mm_goto (tgt := 2) dX12_qPartTold_183 (by decide) ?_
        exact mm_sub [2, 3] rfl h
set_option maxRecDepth 100000 in
set_option maxHeartbeats 4000000 in
theorem lX12_qPartTold_186 {d : Nat} {M : mm_M} {K : mm_M → Prop} (hG : mm_G M.2.2) (h : if (M.1 164 5) = 0 then (mm_CI mX12_qWordOf d [.ref 164, .int 0, .int 8] M (fun z198 m198 => if z198 = (-1) then (jX12_qPartTold_212 d m198 K z198) else (mm_CV mX12_qAsksWord d [.ref 164, .int z198] m198 (fun m209 => jX12_qPartTold_212 d m209 K z198)))) else (K M)) : jX12_qPartTold_186 d  M K  := by
  unfold jX12_qPartTold_186
  refine mm_aload_n (j := 0) dX12_qPartTold_186 rfl rfl ?_
  refine mm_getI (ci := 12) (N := 116) dX12_qPartTold_187 fX12_260 sh_164 rfl ?_
  refine mm_if_eq (tgt := 194) dX12_qPartTold_190 (by decide) (fun hc => ?_) (fun hc => ?_)
  · rw [if_pos hc] at h
    refine mm_aload_n (j := 0) dX12_qPartTold_194 rfl rfl ?_
    refine mm_iconst (x := 0) dX12_qPartTold_195 rfl ?_
    refine mm_bipush (x := 8) dX12_qPartTold_196 rfl ?_
    refine mm_kVI [.int 0, .int 8] dX12_qPartTold_198 kX12_657 rfl sh_164 (by decide) (by decide) h (fun z198 m198 hG h => ?_)
    refine mm_istore_n (lv' := [(2, .int z198), (0, .ref 164)]) dX12_qPartTold_201 rfl (by decide) rfl ?_
    refine mm_iload_n (j := 0) dX12_qPartTold_202 rfl rfl ?_
    refine mm_iconst (x := (-1)) dX12_qPartTold_203 rfl ?_
    refine mm_icmp_eq (tgt := 212) dX12_qPartTold_204 (by decide) (fun hc => ?_) (fun hc => ?_)
    · rw [if_pos hc] at h
      exact mm_sub [1, 0] rfl h
    · rw [if_neg hc] at h
      refine mm_aload_n (j := 1) dX12_qPartTold_207 rfl rfl ?_
      refine mm_iload_n (j := 0) dX12_qPartTold_208 rfl rfl ?_
      refine mm_kVV [.int z198] dX12_qPartTold_209 kX12_663 rfl sh_164 (by decide) (by decide) h (fun m209 hG h => ?_)
      exact mm_sub [1, 0] rfl h
  · rw [if_neg hc] at h
    exact mm_vret dX12_qPartTold_193 rfl (Nat.le_refl 0) (Nat.le_refl 0) ⟨rfl, rfl, hG, h⟩
set_option maxRecDepth 100000 in
set_option maxHeartbeats 4000000 in
theorem lX12_qPartTold_78 {d : Nat} {M : mm_M} {K : mm_M → Prop} {y1 : Int32} (hG : mm_G M.2.2) (h : mm_CI mX12_takes d [.ref 164, .ref 227] M (fun z83 m83 => if z83 = 0 then (mm_CV mX12_asks d [.ref 164, .ref 228] m83 (fun m98 => mm_CI mX12_look d [.ref 164] m98 (fun z102 m102 => if z102 = 40 then (jX12_qPartTold_118 d m102 K y1 z83 (m102.1 164 2)) else (jX12_qPartTold_118 d m102 K y1 z83 (-1))))) else (mm_CI mX12_look d [.ref 164] m83 (fun z102 m102 => if z102 = 40 then (jX12_qPartTold_118 d m102 K y1 z83 (m102.1 164 2)) else (jX12_qPartTold_118 d m102 K y1 z83 (-1)))))) : jX12_qPartTold_78 d  M K y1 := by
  unfold jX12_qPartTold_78
  refine mm_aload_n (j := 0) dX12_qPartTold_78 rfl rfl ?_
  refine mm_aload_n (j := 0) dX12_qPartTold_79 rfl rfl ?_
  refine mm_getR (ci := 12) (N := 116) (r := 227) dX12_qPartTold_80 fX12_207 sh_164 rfl (g_164_92 hG) ?_
  refine mm_kVI [.ref 227] dX12_qPartTold_83 kX12_287 rfl sh_164 (by decide) (by decide) h (fun z83 m83 hG h => ?_)
  refine mm_istore (lv' := [(4, .int z83), (0, .ref 164), (1, .int y1)]) dX12_qPartTold_86 (by decide) rfl ?_
  refine mm_iload (j := 0) dX12_qPartTold_88 rfl ?_
  refine mm_if_ne (tgt := 101) dX12_qPartTold_90 (by decide) (fun hc => ?_) (fun hc => ?_)
  · rw [if_neg hc] at h
    refine mm_aload_n (j := 1) dX12_qPartTold_101 rfl rfl ?_
    refine mm_kVI [] dX12_qPartTold_102 kX12_272 rfl sh_164 (by decide) (by decide) h (fun z102 m102 hG h => ?_)
    refine mm_bipush (x := 40) dX12_qPartTold_105 rfl ?_
    refine mm_icmp_ne (tgt := 117) dX12_qPartTold_107 (by decide) (fun hc => ?_) (fun hc => ?_)
    · rw [if_neg hc] at h
      refine mm_iconst (x := (-1)) dX12_qPartTold_117 rfl ?_
      exact mm_sub [1, 2, 0] rfl h
    · rw [if_pos hc] at h
      refine mm_aload_n (j := 1) dX12_qPartTold_110 rfl rfl ?_
      refine mm_getI (ci := 12) (N := 116) dX12_qPartTold_111 fX12_266 sh_164 rfl ?_
      refine mm_goto (tgt := 118) dX12_qPartTold_114 (by decide) ?_
      exact mm_sub [1, 2, 0] rfl h
  · rw [if_pos hc] at h
    refine mm_aload_n (j := 1) dX12_qPartTold_93 rfl rfl ?_
    refine mm_aload_n (j := 1) dX12_qPartTold_94 rfl rfl ?_
    refine mm_getR (ci := 12) (N := 116) (r := 228) dX12_qPartTold_95 fX12_210 sh_164 rfl (g_164_93 hG) ?_
    refine mm_kVV [.ref 228] dX12_qPartTold_98 kX12_325 rfl sh_164 (by decide) (by decide) h (fun m98 hG h => ?_)
    refine mm_aload_n (j := 1) dX12_qPartTold_101 rfl rfl ?_
    refine mm_kVI [] dX12_qPartTold_102 kX12_272 rfl sh_164 (by decide) (by decide) h (fun z102 m102 hG h => ?_)
    refine mm_bipush (x := 40) dX12_qPartTold_105 rfl ?_
    refine mm_icmp_ne (tgt := 117) dX12_qPartTold_107 (by decide) (fun hc => ?_) (fun hc => ?_)
    · rw [if_neg hc] at h
      refine mm_iconst (x := (-1)) dX12_qPartTold_117 rfl ?_
      exact mm_sub [1, 2, 0] rfl h
    · rw [if_pos hc] at h
      refine mm_aload_n (j := 1) dX12_qPartTold_110 rfl rfl ?_
      refine mm_getI (ci := 12) (N := 116) dX12_qPartTold_111 fX12_266 sh_164 rfl ?_
      refine mm_goto (tgt := 118) dX12_qPartTold_114 (by decide) ?_
      exact mm_sub [1, 2, 0] rfl h
set_option maxRecDepth 100000 in
set_option maxHeartbeats 4000000 in
theorem lX12_qPartTold_212 {d : Nat} {M : mm_M} {K : mm_M → Prop} {y2 : Int32} (hG : mm_G M.2.2) (h : if y2 = (-1) then (mm_CI mX12_number d [.ref 164, .int 0, .int 9999] M (fun z233 m233 => mm_CV mX12_qCode d [.ref 164, .int (1000 + z233)] m233 (fun m237 => mm_CV mX12_qEndsPart d [.ref 164] m237 (fun m241 => K m241)))) else (mm_CV mX12_qCode d [.ref 164, .int (40 + y2)] M (fun m237 => mm_CV mX12_qEndsPart d [.ref 164] m237 (fun m241 => K m241)))) : jX12_qPartTold_212 d  M K y2 := by
  unfold jX12_qPartTold_212
  refine mm_aload_n (j := 0) dX12_qPartTold_212 rfl rfl ?_
  refine mm_iload_n (j := 1) dX12_qPartTold_213 rfl rfl ?_
  refine mm_iconst (x := (-1)) dX12_qPartTold_214 rfl ?_
  refine mm_icmp_eq (tgt := 225) dX12_qPartTold_215 (by decide) (fun hc => ?_) (fun hc => ?_)
  · rw [if_pos hc] at h
    refine mm_sipush (x := 1000) dX12_qPartTold_225 rfl ?_
    refine mm_aload_n (j := 0) dX12_qPartTold_228 rfl rfl ?_
    refine mm_iconst (x := 0) dX12_qPartTold_229 rfl ?_
    refine mm_sipush (x := 9999) dX12_qPartTold_230 rfl ?_
    refine mm_kVI [.int 0, .int 9999] dX12_qPartTold_233 kX12_329 rfl sh_164 (by decide) (by decide) h (fun z233 m233 hG h => ?_)
    refine mm_iadd dX12_qPartTold_236 ?_
    refine mm_kVV [.int (1000 + z233)] dX12_qPartTold_237 kX12_642 rfl sh_164 (by decide) (by decide) h (fun m237 hG h => ?_)
    refine mm_aload_n (j := 0) dX12_qPartTold_240 rfl rfl ?_
    refine mm_kVV [] dX12_qPartTold_241 kX12_666 rfl sh_164 (by decide) (by decide) h (fun m241 hG h => ?_)
    exact mm_vret dX12_qPartTold_244 rfl (Nat.le_refl 0) (Nat.le_refl 0) ⟨rfl, rfl, hG, h⟩
  · rw [if_neg hc] at h
    refine mm_bipush (x := 40) dX12_qPartTold_218 rfl ?_
    refine mm_iload_n (j := 1) dX12_qPartTold_220 rfl rfl ?_
    refine mm_iadd dX12_qPartTold_221 ?_
    refine mm_goto (tgt := 237) dX12_qPartTold_222 (by decide) ?_
    refine mm_kVV [.int (40 + y2)] dX12_qPartTold_237 kX12_642 rfl sh_164 (by decide) (by decide) h (fun m237 hG h => ?_)
    refine mm_aload_n (j := 0) dX12_qPartTold_240 rfl rfl ?_
    refine mm_kVV [] dX12_qPartTold_241 kX12_666 rfl sh_164 (by decide) (by decide) h (fun m241 hG h => ?_)
    exact mm_vret dX12_qPartTold_244 rfl (Nat.le_refl 0) (Nat.le_refl 0) ⟨rfl, rfl, hG, h⟩
set_option maxRecDepth 100000 in
set_option maxHeartbeats 4000000 in
theorem lX12_qPartTold_118 {d : Nat} {M : mm_M} {K : mm_M → Prop} {y1 : Int32} {y4 : Int32} {u0 : Int32} (hG : mm_G M.2.2) (h : if u0 = (-1) then (mm_CV mX12_asksSign d [.ref 164, .int 40] M (fun m147 => jX12_qPartTold_2 d m147 K y1)) else (if y4 = 0 then (mm_CV mX12_qOpens d [.ref 164, .int 22, .int u0] M (fun m141 => mm_CV mX12_asksSign d [.ref 164, .int 40] m141 (fun m147 => jX12_qPartTold_2 d m147 K y1))) else (mm_CV mX12_qOpens d [.ref 164, .int 21, .int u0] M (fun m141 => mm_CV mX12_asksSign d [.ref 164, .int 40] m141 (fun m147 => jX12_qPartTold_2 d m147 K y1))))) : jX12_qPartTold_118 d  M K y1 y4 u0 := by
  unfold jX12_qPartTold_118
  refine mm_istore (lv' := [(5, .int u0), (0, .ref 164), (1, .int y1), (4, .int y4)]) dX12_qPartTold_118 (by decide) rfl ?_
  refine mm_iload (j := 0) dX12_qPartTold_120 rfl ?_
  refine mm_iconst (x := (-1)) dX12_qPartTold_122 rfl ?_
  refine mm_icmp_eq (tgt := 144) dX12_qPartTold_123 (by decide) (fun hc => ?_) (fun hc => ?_)
  · rw [if_pos hc] at h
    refine mm_aload_n (j := 1) dX12_qPartTold_144 rfl rfl ?_
    refine mm_bipush (x := 40) dX12_qPartTold_145 rfl ?_
    refine mm_kVV [.int 40] dX12_qPartTold_147 kX12_333 rfl sh_164 (by decide) (by decide) h (fun m147 hG h => ?_)
    refine mm_goto (tgt := 183) dX12_qPartTold_150 (by decide) ?_
    refine mm_goto (tgt := 2) dX12_qPartTold_183 (by decide) ?_
    exact mm_sub [1, 2] rfl h
  · rw [if_neg hc] at h
    refine mm_aload_n (j := 1) dX12_qPartTold_126 rfl rfl ?_
    refine mm_iload (j := 3) dX12_qPartTold_127 rfl ?_
    refine mm_if_eq (tgt := 137) dX12_qPartTold_129 (by decide) (fun hc => ?_) (fun hc => ?_)
    · rw [if_pos hc] at h
      refine mm_bipush (x := 22) dX12_qPartTold_137 rfl ?_
      refine mm_iload (j := 0) dX12_qPartTold_139 rfl ?_
      refine mm_kVV [.int 22, .int u0] dX12_qPartTold_141 kX12_660 rfl sh_164 (by decide) (by decide) h (fun m141 hG h => ?_)
      refine mm_aload_n (j := 1) dX12_qPartTold_144 rfl rfl ?_
      refine mm_bipush (x := 40) dX12_qPartTold_145 rfl ?_
      refine mm_kVV [.int 40] dX12_qPartTold_147 kX12_333 rfl sh_164 (by decide) (by decide) h (fun m147 hG h => ?_)
      refine mm_goto (tgt := 183) dX12_qPartTold_150 (by decide) ?_
      refine mm_goto (tgt := 2) dX12_qPartTold_183 (by decide) ?_
      exact mm_sub [1, 2] rfl h
    · rw [if_neg hc] at h
      refine mm_bipush (x := 21) dX12_qPartTold_132 rfl ?_
      refine mm_goto (tgt := 139) dX12_qPartTold_134 (by decide) ?_
      refine mm_iload (j := 0) dX12_qPartTold_139 rfl ?_
      refine mm_kVV [.int 21, .int u0] dX12_qPartTold_141 kX12_660 rfl sh_164 (by decide) (by decide) h (fun m141 hG h => ?_)
      refine mm_aload_n (j := 1) dX12_qPartTold_144 rfl rfl ?_
      refine mm_bipush (x := 40) dX12_qPartTold_145 rfl ?_
      refine mm_kVV [.int 40] dX12_qPartTold_147 kX12_333 rfl sh_164 (by decide) (by decide) h (fun m147 hG h => ?_)
      refine mm_goto (tgt := 183) dX12_qPartTold_150 (by decide) ?_
      refine mm_goto (tgt := 2) dX12_qPartTold_183 (by decide) ?_
      exact mm_sub [1, 2] rfl h
def jX12_qGoesOn_122 (d : Nat) (M : mm_M) (K : Int32 → mm_M → Prop) : Prop := mm_W mX12_qGoesOn (d + 1) 0 0 122 [(0, .ref 164)] [] mm_SH M 0 0 (mm_PI K)
def jX12_qGoesOn_43 (d : Nat) (M : mm_M) (K : Int32 → mm_M → Prop) : Prop := mm_W mX12_qGoesOn (d + 1) 0 0 43 [(0, .ref 164)] [] mm_SH M 0 0 (mm_PI K)
def jX12_qGoesOn_140 (d : Nat) (M : mm_M) (K : Int32 → mm_M → Prop) : Prop := mm_W mX12_qGoesOn (d + 1) 0 0 140 [(0, .ref 164)] [] mm_SH M 0 0 (mm_PI K)
def jX12_qGoesOn_225 (d : Nat) (M : mm_M) (K : Int32 → mm_M → Prop) : Prop := mm_W mX12_qGoesOn (d + 1) 0 0 225 [(0, .ref 164)] [] mm_SH M 0 0 (mm_PI K)
def jX12_qGoesOn_326 (d : Nat) (M : mm_M) (K : Int32 → mm_M → Prop) : Prop := mm_W mX12_qGoesOn (d + 1) 0 0 326 [(0, .ref 164)] [] mm_SH M 0 0 (mm_PI K)
def jX12_qGoesOn_0 (d : Nat) (M : mm_M) (K : Int32 → mm_M → Prop) : Prop := mm_W mX12_qGoesOn (d + 1) 0 0 0 [(0, .ref 164)] [] mm_SH M 0 0 (mm_PI K)
def jX12_qGoesOn_162 (d : Nat) (M : mm_M) (K : Int32 → mm_M → Prop) (y1 : Int32) : Prop := mm_W mX12_qGoesOn (d + 1) 0 0 162 [(0, .ref 164), (1, .int y1)] [] mm_SH M 0 0 (mm_PI K)
def jX12_qGoesOn_247 (d : Nat) (M : mm_M) (K : Int32 → mm_M → Prop) (y1 : Int32) : Prop := mm_W mX12_qGoesOn (d + 1) 0 0 247 [(0, .ref 164), (1, .int y1)] [] mm_SH M 0 0 (mm_PI K)
set_option maxRecDepth 100000 in
set_option maxHeartbeats 4000000 in
theorem rX12_qGoesOn {d : Nat} {M : mm_M} {K : Int32 → mm_M → Prop} (hG : mm_G M.2.2) (h : if (M.1 164 5) = 0 then (mm_CI mX12_look d [.ref 164] M (fun z8 m8 => if z8 = 41 then (mm_CI mX12_qBracket d [.ref 164] m8 (fun z17 m17 => if z17 = 20 then (jX12_qGoesOn_43 d m17 K) else (mm_CI mX12_qBracket d [.ref 164] m17 (fun z26 m26 => if z26 = 23 then (jX12_qGoesOn_43 d m26 K) else (mm_CI mX12_qBracket d [.ref 164] m26 (fun z35 m35 => if z35 = 24 then (jX12_qGoesOn_43 d m35 K) else (jX12_qGoesOn_122 d m35 K))))))) else (jX12_qGoesOn_122 d m8 K))) else (jX12_qGoesOn_122 d M K)) : mm_CI mX12_qGoesOn (d + 1) [.ref 164] M K := by
  show mm_W mX12_qGoesOn (d + 1) 0 0 0 [(0, .ref 164)] [] mm_SH M 0 0 (mm_PI K)
  refine mm_aload_n (j := 0) dX12_qGoesOn_0 rfl rfl ?_
  refine mm_getI (ci := 12) (N := 116) dX12_qGoesOn_1 fX12_260 sh_164 rfl ?_
  refine mm_if_ne (tgt := 122) dX12_qGoesOn_4 (by decide) (fun hc => ?_) (fun hc => ?_)
  · rw [if_neg hc] at h
    exact h
  · rw [if_pos hc] at h
    refine mm_aload_n (j := 0) dX12_qGoesOn_7 rfl rfl ?_
    refine mm_kVI [] dX12_qGoesOn_8 kX12_272 rfl sh_164 (by decide) (by decide) h (fun z8 m8 hG h => ?_)
    refine mm_bipush (x := 41) dX12_qGoesOn_11 rfl ?_
    refine mm_icmp_ne (tgt := 122) dX12_qGoesOn_13 (by decide) (fun hc => ?_) (fun hc => ?_)
    · rw [if_neg hc] at h
      exact h
    · rw [if_pos hc] at h
      refine mm_aload_n (j := 0) dX12_qGoesOn_16 rfl rfl ?_
      refine mm_kVI [] dX12_qGoesOn_17 kX12_669 rfl sh_164 (by decide) (by decide) h (fun z17 m17 hG h => ?_)
      refine mm_bipush (x := 20) dX12_qGoesOn_20 rfl ?_
      refine mm_icmp_eq (tgt := 43) dX12_qGoesOn_22 (by decide) (fun hc => ?_) (fun hc => ?_)
      · rw [if_pos hc] at h
        exact h
      · rw [if_neg hc] at h
        refine mm_aload_n (j := 0) dX12_qGoesOn_25 rfl rfl ?_
        refine mm_kVI [] dX12_qGoesOn_26 kX12_669 rfl sh_164 (by decide) (by decide) h (fun z26 m26 hG h => ?_)
        refine mm_bipush (x := 23) dX12_qGoesOn_29 rfl ?_
        refine mm_icmp_eq (tgt := 43) dX12_qGoesOn_31 (by decide) (fun hc => ?_) (fun hc => ?_)
        · rw [if_pos hc] at h
          exact h
        · rw [if_neg hc] at h
          refine mm_aload_n (j := 0) dX12_qGoesOn_34 rfl rfl ?_
          refine mm_kVI [] dX12_qGoesOn_35 kX12_669 rfl sh_164 (by decide) (by decide) h (fun z35 m35 hG h => ?_)
          refine mm_bipush (x := 24) dX12_qGoesOn_38 rfl ?_
          refine mm_icmp_ne (tgt := 122) dX12_qGoesOn_40 (by decide) (fun hc => ?_) (fun hc => ?_)
          · rw [if_neg hc] at h
            exact h
          · rw [if_pos hc] at h
            exact h
set_option maxRecDepth 100000 in
set_option maxHeartbeats 4000000 in
theorem lX12_qGoesOn_122 {d : Nat} {M : mm_M} {K : Int32 → mm_M → Prop} (hG : mm_G M.2.2) (h : mm_CI mX12_takesSign d [.ref 164, .int 42] M (fun z125 m125 => if z125 = 0 then (mm_CI mX12_takesSign d [.ref 164, .int 47] m125 (fun z134 m134 => if z134 = 0 then (mm_CI mX12_takesSign d [.ref 164, .int 43] m134 (fun z210 m210 => if z210 = 0 then (mm_CI mX12_takesSign d [.ref 164, .int 45] m210 (fun z219 m219 => if z219 = 0 then (mm_CI mX12_qBracket d [.ref 164] m219 (fun z309 m309 => if z309 = 21 then (jX12_qGoesOn_326 d m309 K) else (mm_CI mX12_qBracket d [.ref 164] m309 (fun z318 m318 => if z318 = 22 then (jX12_qGoesOn_326 d m318 K) else (mm_CI mX12_qBracket d [.ref 164] m318 (fun z363 m363 => if z363 = (-1) then (K 0 m363) else (if (m363.1 164 5) = 0 then (mm_CV mX12_fail d [.ref 164, .int 1, .int (m363.1 164 2)] m363 (fun m383 => K 0 m383)) else (K 0 m363)))))))) else (jX12_qGoesOn_225 d m219 K))) else (jX12_qGoesOn_225 d m210 K))) else (jX12_qGoesOn_140 d m134 K))) else (jX12_qGoesOn_140 d m125 K))) : jX12_qGoesOn_122 d  M K  := by
  unfold jX12_qGoesOn_122
  refine mm_aload_n (j := 0) dX12_qGoesOn_122 rfl rfl ?_
  refine mm_bipush (x := 42) dX12_qGoesOn_123 rfl ?_
  refine mm_kVI [.int 42] dX12_qGoesOn_125 kX12_294 rfl sh_164 (by decide) (by decide) h (fun z125 m125 hG h => ?_)
  refine mm_if_ne (tgt := 140) dX12_qGoesOn_128 (by decide) (fun hc => ?_) (fun hc => ?_)
  · rw [if_neg hc] at h
    exact h
  · rw [if_pos hc] at h
    refine mm_aload_n (j := 0) dX12_qGoesOn_131 rfl rfl ?_
    refine mm_bipush (x := 47) dX12_qGoesOn_132 rfl ?_
    refine mm_kVI [.int 47] dX12_qGoesOn_134 kX12_294 rfl sh_164 (by decide) (by decide) h (fun z134 m134 hG h => ?_)
    refine mm_if_eq (tgt := 207) dX12_qGoesOn_137 (by decide) (fun hc => ?_) (fun hc => ?_)
    · rw [if_pos hc] at h
      refine mm_aload_n (j := 0) dX12_qGoesOn_207 rfl rfl ?_
      refine mm_bipush (x := 43) dX12_qGoesOn_208 rfl ?_
      refine mm_kVI [.int 43] dX12_qGoesOn_210 kX12_294 rfl sh_164 (by decide) (by decide) h (fun z210 m210 hG h => ?_)
      refine mm_if_ne (tgt := 225) dX12_qGoesOn_213 (by decide) (fun hc => ?_) (fun hc => ?_)
      · rw [if_neg hc] at h
        exact h
      · rw [if_pos hc] at h
        refine mm_aload_n (j := 0) dX12_qGoesOn_216 rfl rfl ?_
        refine mm_bipush (x := 45) dX12_qGoesOn_217 rfl ?_
        refine mm_kVI [.int 45] dX12_qGoesOn_219 kX12_294 rfl sh_164 (by decide) (by decide) h (fun z219 m219 hG h => ?_)
        refine mm_if_eq (tgt := 308) dX12_qGoesOn_222 (by decide) (fun hc => ?_) (fun hc => ?_)
        · rw [if_pos hc] at h
          refine mm_aload_n (j := 0) dX12_qGoesOn_308 rfl rfl ?_
          refine mm_kVI [] dX12_qGoesOn_309 kX12_669 rfl sh_164 (by decide) (by decide) h (fun z309 m309 hG h => ?_)
          refine mm_bipush (x := 21) dX12_qGoesOn_312 rfl ?_
          refine mm_icmp_eq (tgt := 326) dX12_qGoesOn_314 (by decide) (fun hc => ?_) (fun hc => ?_)
          · rw [if_pos hc] at h
            exact h
          · rw [if_neg hc] at h
            refine mm_aload_n (j := 0) dX12_qGoesOn_317 rfl rfl ?_
            refine mm_kVI [] dX12_qGoesOn_318 kX12_669 rfl sh_164 (by decide) (by decide) h (fun z318 m318 hG h => ?_)
            refine mm_bipush (x := 22) dX12_qGoesOn_321 rfl ?_
            refine mm_icmp_ne (tgt := 362) dX12_qGoesOn_323 (by decide) (fun hc => ?_) (fun hc => ?_)
            · rw [if_neg hc] at h
              refine mm_aload_n (j := 0) dX12_qGoesOn_362 rfl rfl ?_
              refine mm_kVI [] dX12_qGoesOn_363 kX12_669 rfl sh_164 (by decide) (by decide) h (fun z363 m363 hG h => ?_)
              refine mm_iconst (x := (-1)) dX12_qGoesOn_366 rfl ?_
              refine mm_icmp_eq (tgt := 386) dX12_qGoesOn_367 (by decide) (fun hc => ?_) (fun hc => ?_)
              · rw [if_pos hc] at h
                refine mm_iconst (x := 0) dX12_qGoesOn_386 rfl ?_
                exact mm_zret dX12_qGoesOn_387 rfl rfl (Nat.le_refl 0) (Nat.le_refl 0) ⟨_, rfl, rfl, hG, h⟩
              · rw [if_neg hc] at h
                refine mm_aload_n (j := 0) dX12_qGoesOn_370 rfl rfl ?_
                refine mm_getI (ci := 12) (N := 116) dX12_qGoesOn_371 fX12_260 sh_164 rfl ?_
                refine mm_if_ne (tgt := 386) dX12_qGoesOn_374 (by decide) (fun hc => ?_) (fun hc => ?_)
                · rw [if_neg hc] at h
                  refine mm_iconst (x := 0) dX12_qGoesOn_386 rfl ?_
                  exact mm_zret dX12_qGoesOn_387 rfl rfl (Nat.le_refl 0) (Nat.le_refl 0) ⟨_, rfl, rfl, hG, h⟩
                · rw [if_pos hc] at h
                  refine mm_aload_n (j := 0) dX12_qGoesOn_377 rfl rfl ?_
                  refine mm_iconst (x := 1) dX12_qGoesOn_378 rfl ?_
                  refine mm_aload_n (j := 0) dX12_qGoesOn_379 rfl rfl ?_
                  refine mm_getI (ci := 12) (N := 116) dX12_qGoesOn_380 fX12_266 sh_164 rfl ?_
                  refine mm_kVV [.int 1, .int (m363.1 164 2)] dX12_qGoesOn_383 kX12_290 rfl sh_164 (by decide) (by decide) h (fun m383 hG h => ?_)
                  refine mm_iconst (x := 0) dX12_qGoesOn_386 rfl ?_
                  exact mm_zret dX12_qGoesOn_387 rfl rfl (Nat.le_refl 0) (Nat.le_refl 0) ⟨_, rfl, rfl, hG, h⟩
            · rw [if_pos hc] at h
              exact h
        · rw [if_neg hc] at h
          exact h
    · rw [if_neg hc] at h
      exact h
set_option maxRecDepth 100000 in
set_option maxHeartbeats 4000000 in
theorem lX12_qGoesOn_43 {d : Nat} {M : mm_M} {K : Int32 → mm_M → Prop} (hG : mm_G M.2.2) (h : mm_CV mX12_qDropsToBracket d [.ref 164] (mm_uI M 164 2 ((M.1 164 2) + 1)) (fun m54 => vp_in ((mm_uI (mm_uI m54 164 107 ((m54.1 164 107) - 1)) 164 108 (((mm_uI m54 164 107 ((m54.1 164 107) - 1)).1 164 108) - 1)).1 164 107) 1700 ∧ if ((mm_uI (mm_uI m54 164 107 ((m54.1 164 107) - 1)) 164 108 (((mm_uI m54 164 107 ((m54.1 164 107) - 1)).1 164 108) - 1)).1 240 ((mm_uI (mm_uI m54 164 107 ((m54.1 164 107) - 1)) 164 108 (((mm_uI m54 164 107 ((m54.1 164 107) - 1)).1 164 108) - 1)).1 164 107).toNatClampNeg) = 20 then (mm_CV mX12_qEndsPart d [.ref 164] (mm_uI (mm_uI m54 164 107 ((m54.1 164 107) - 1)) 164 108 (((mm_uI m54 164 107 ((m54.1 164 107) - 1)).1 164 108) - 1)) (fun m116 => jX12_qGoesOn_0 d m116 K)) else (vp_in ((mm_uI (mm_uI m54 164 107 ((m54.1 164 107) - 1)) 164 108 (((mm_uI m54 164 107 ((m54.1 164 107) - 1)).1 164 108) - 1)).1 164 107) 1700 ∧ if ((mm_uI (mm_uI m54 164 107 ((m54.1 164 107) - 1)) 164 108 (((mm_uI m54 164 107 ((m54.1 164 107) - 1)).1 164 108) - 1)).1 240 ((mm_uI (mm_uI m54 164 107 ((m54.1 164 107) - 1)) 164 108 (((mm_uI m54 164 107 ((m54.1 164 107) - 1)).1 164 108) - 1)).1 164 107).toNatClampNeg) = 23 then (mm_CV mX12_qCode d [.ref 164, .int 5] (mm_uI (mm_uI m54 164 107 ((m54.1 164 107) - 1)) 164 108 (((mm_uI m54 164 107 ((m54.1 164 107) - 1)).1 164 108) - 1)) (fun m112 => mm_CV mX12_qEndsPart d [.ref 164] m112 (fun m116 => jX12_qGoesOn_0 d m116 K))) else (mm_CV mX12_qCode d [.ref 164, .int 6] (mm_uI (mm_uI m54 164 107 ((m54.1 164 107) - 1)) 164 108 (((mm_uI m54 164 107 ((m54.1 164 107) - 1)).1 164 108) - 1)) (fun m112 => mm_CV mX12_qEndsPart d [.ref 164] m112 (fun m116 => jX12_qGoesOn_0 d m116 K)))))) : jX12_qGoesOn_43 d  M K  := by
  unfold jX12_qGoesOn_43
  refine mm_aload_n (j := 0) dX12_qGoesOn_43 rfl rfl ?_
  refine mm_dup dX12_qGoesOn_44 rfl ?_
  refine mm_getI (ci := 12) (N := 116) dX12_qGoesOn_45 fX12_266 sh_164 rfl ?_
  refine mm_iconst (x := 1) dX12_qGoesOn_48 rfl ?_
  refine mm_iadd dX12_qGoesOn_49 ?_
  refine mm_putI (ci := 12) (N := 116) dX12_qGoesOn_50 fX12_266 sh_164 (by decide +kernel) rfl rfl rfl ?_
  refine mm_aload_n (j := 0) dX12_qGoesOn_53 rfl rfl ?_
  refine mm_kVV [] dX12_qGoesOn_54 kX12_672 rfl sh_164 (by decide) (by decide) h (fun m54 hG h => ?_)
  refine mm_aload_n (j := 0) dX12_qGoesOn_57 rfl rfl ?_
  refine mm_dup dX12_qGoesOn_58 rfl ?_
  refine mm_getI (ci := 12) (N := 116) dX12_qGoesOn_59 fX12_357 sh_164 rfl ?_
  refine mm_iconst (x := 1) dX12_qGoesOn_62 rfl ?_
  refine mm_isub dX12_qGoesOn_63 ?_
  refine mm_putI (ci := 12) (N := 116) dX12_qGoesOn_64 fX12_357 sh_164 (by decide +kernel) rfl rfl rfl ?_
  refine mm_aload_n (j := 0) dX12_qGoesOn_67 rfl rfl ?_
  refine mm_dup dX12_qGoesOn_68 rfl ?_
  refine mm_getI (ci := 12) (N := 116) dX12_qGoesOn_69 fX12_360 sh_164 rfl ?_
  refine mm_iconst (x := 1) dX12_qGoesOn_72 rfl ?_
  refine mm_isub dX12_qGoesOn_73 ?_
  refine mm_putI (ci := 12) (N := 116) dX12_qGoesOn_74 fX12_360 sh_164 (by decide +kernel) rfl rfl rfl ?_
  refine mm_aload_n (j := 0) dX12_qGoesOn_77 rfl rfl ?_
  refine mm_getR (ci := 12) (N := 116) (r := 240) dX12_qGoesOn_78 fX12_246 sh_164 rfl (g_164_106 hG) ?_
  refine mm_aload_n (j := 0) dX12_qGoesOn_81 rfl rfl ?_
  refine mm_getI (ci := 12) (N := 116) dX12_qGoesOn_82 fX12_357 sh_164 rfl ?_
  obtain ⟨hi85, h⟩ := h
  refine mm_iaload (N := 1700) dX12_qGoesOn_85 sh_240 hi85 ?_
  refine mm_bipush (x := 20) dX12_qGoesOn_86 rfl ?_
  refine mm_icmp_eq (tgt := 115) dX12_qGoesOn_88 (by decide) (fun hc => ?_) (fun hc => ?_)
  · rw [if_pos hc] at h
    refine mm_aload_n (j := 0) dX12_qGoesOn_115 rfl rfl ?_
    refine mm_kVV [] dX12_qGoesOn_116 kX12_666 rfl sh_164 (by decide) (by decide) h (fun m116 hG h => ?_)
    refine mm_goto (tgt := 0) dX12_qGoesOn_119 (by decide) ?_
    exact h
  · rw [if_neg hc] at h
    refine mm_aload_n (j := 0) dX12_qGoesOn_91 rfl rfl ?_
    refine mm_aload_n (j := 0) dX12_qGoesOn_92 rfl rfl ?_
    refine mm_getR (ci := 12) (N := 116) (r := 240) dX12_qGoesOn_93 fX12_246 sh_164 rfl (g_164_106 hG) ?_
    refine mm_aload_n (j := 0) dX12_qGoesOn_96 rfl rfl ?_
    refine mm_getI (ci := 12) (N := 116) dX12_qGoesOn_97 fX12_357 sh_164 rfl ?_
    obtain ⟨hi100, h⟩ := h
    refine mm_iaload (N := 1700) dX12_qGoesOn_100 sh_240 hi100 ?_
    refine mm_bipush (x := 23) dX12_qGoesOn_101 rfl ?_
    refine mm_icmp_ne (tgt := 110) dX12_qGoesOn_103 (by decide) (fun hc => ?_) (fun hc => ?_)
    · rw [if_neg hc] at h
      refine mm_bipush (x := 6) dX12_qGoesOn_110 rfl ?_
      refine mm_kVV [.int 6] dX12_qGoesOn_112 kX12_642 rfl sh_164 (by decide) (by decide) h (fun m112 hG h => ?_)
      refine mm_aload_n (j := 0) dX12_qGoesOn_115 rfl rfl ?_
      refine mm_kVV [] dX12_qGoesOn_116 kX12_666 rfl sh_164 (by decide) (by decide) h (fun m116 hG h => ?_)
      refine mm_goto (tgt := 0) dX12_qGoesOn_119 (by decide) ?_
      exact h
    · rw [if_pos hc] at h
      refine mm_iconst (x := 5) dX12_qGoesOn_106 rfl ?_
      refine mm_goto (tgt := 112) dX12_qGoesOn_107 (by decide) ?_
      refine mm_kVV [.int 5] dX12_qGoesOn_112 kX12_642 rfl sh_164 (by decide) (by decide) h (fun m112 hG h => ?_)
      refine mm_aload_n (j := 0) dX12_qGoesOn_115 rfl rfl ?_
      refine mm_kVV [] dX12_qGoesOn_116 kX12_666 rfl sh_164 (by decide) (by decide) h (fun m116 hG h => ?_)
      refine mm_goto (tgt := 0) dX12_qGoesOn_119 (by decide) ?_
      exact h
set_option maxRecDepth 100000 in
set_option maxHeartbeats 4000000 in
theorem lX12_qGoesOn_140 {d : Nat} {M : mm_M} {K : Int32 → mm_M → Prop} (hG : mm_G M.2.2) (h : vp_in ((M.1 164 2) - 1) 1600 ∧ if (M.1 165 ((M.1 164 2) - 1).toNatClampNeg) = 42 then (jX12_qGoesOn_162 d M K 3) else (jX12_qGoesOn_162 d M K 4)) : jX12_qGoesOn_140 d  M K  := by
  unfold jX12_qGoesOn_140
  refine mm_aload_n (j := 0) dX12_qGoesOn_140 rfl rfl ?_
  refine mm_getR (ci := 12) (N := 116) (r := 165) dX12_qGoesOn_141 fX12_7 sh_164 rfl (g_164_0 hG) ?_
  refine mm_aload_n (j := 0) dX12_qGoesOn_144 rfl rfl ?_
  refine mm_getI (ci := 12) (N := 116) dX12_qGoesOn_145 fX12_266 sh_164 rfl ?_
  refine mm_iconst (x := 1) dX12_qGoesOn_148 rfl ?_
  refine mm_isub dX12_qGoesOn_149 ?_
  obtain ⟨hi150, h⟩ := h
  refine mm_iaload (N := 1600) dX12_qGoesOn_150 sh_165 hi150 ?_
  refine mm_bipush (x := 42) dX12_qGoesOn_151 rfl ?_
  refine mm_icmp_ne (tgt := 160) dX12_qGoesOn_153 (by decide) (fun hc => ?_) (fun hc => ?_)
  · rw [if_neg hc] at h
    refine mm_iconst (x := 4) dX12_qGoesOn_160 rfl ?_
    refine mm_istore_n (lv' := [(1, .int 4), (0, .ref 164)]) dX12_qGoesOn_161 rfl (by decide) rfl ?_
    exact mm_sub [1, 0] rfl h
  · rw [if_pos hc] at h
    refine mm_iconst (x := 3) dX12_qGoesOn_156 rfl ?_
    refine mm_goto (tgt := 161) dX12_qGoesOn_157 (by decide) ?_
    refine mm_istore_n (lv' := [(1, .int 3), (0, .ref 164)]) dX12_qGoesOn_161 rfl (by decide) rfl ?_
    exact mm_sub [1, 0] rfl h
set_option maxRecDepth 100000 in
set_option maxHeartbeats 4000000 in
theorem lX12_qGoesOn_225 {d : Nat} {M : mm_M} {K : Int32 → mm_M → Prop} (hG : mm_G M.2.2) (h : vp_in ((M.1 164 2) - 1) 1600 ∧ if (M.1 165 ((M.1 164 2) - 1).toNatClampNeg) = 43 then (jX12_qGoesOn_247 d M K 1) else (jX12_qGoesOn_247 d M K 2)) : jX12_qGoesOn_225 d  M K  := by
  unfold jX12_qGoesOn_225
  refine mm_aload_n (j := 0) dX12_qGoesOn_225 rfl rfl ?_
  refine mm_getR (ci := 12) (N := 116) (r := 165) dX12_qGoesOn_226 fX12_7 sh_164 rfl (g_164_0 hG) ?_
  refine mm_aload_n (j := 0) dX12_qGoesOn_229 rfl rfl ?_
  refine mm_getI (ci := 12) (N := 116) dX12_qGoesOn_230 fX12_266 sh_164 rfl ?_
  refine mm_iconst (x := 1) dX12_qGoesOn_233 rfl ?_
  refine mm_isub dX12_qGoesOn_234 ?_
  obtain ⟨hi235, h⟩ := h
  refine mm_iaload (N := 1600) dX12_qGoesOn_235 sh_165 hi235 ?_
  refine mm_bipush (x := 43) dX12_qGoesOn_236 rfl ?_
  refine mm_icmp_ne (tgt := 245) dX12_qGoesOn_238 (by decide) (fun hc => ?_) (fun hc => ?_)
  · rw [if_neg hc] at h
    refine mm_iconst (x := 2) dX12_qGoesOn_245 rfl ?_
    refine mm_istore_n (lv' := [(1, .int 2), (0, .ref 164)]) dX12_qGoesOn_246 rfl (by decide) rfl ?_
    exact mm_sub [1, 0] rfl h
  · rw [if_pos hc] at h
    refine mm_iconst (x := 1) dX12_qGoesOn_241 rfl ?_
    refine mm_goto (tgt := 246) dX12_qGoesOn_242 (by decide) ?_
    refine mm_istore_n (lv' := [(1, .int 1), (0, .ref 164)]) dX12_qGoesOn_246 rfl (by decide) rfl ?_
    exact mm_sub [1, 0] rfl h
set_option maxRecDepth 100000 in
set_option maxHeartbeats 4000000 in
theorem lX12_qGoesOn_326 {d : Nat} {M : mm_M} {K : Int32 → mm_M → Prop} (hG : mm_G M.2.2) (h : mm_CV mX12_asksSign d [.ref 164, .int 44] M (fun m329 => if (m329.1 164 5) = 0 then (mm_CV mX12_qDropsToBracket d [.ref 164] m329 (fun m342 => vp_in ((m342.1 164 107) - 1) 1700 ∧ vp_in ((m342.1 164 107) - 1) 1700 ∧ K 1 (mm_uI m342 240 ((m342.1 164 107) - 1).toNatClampNeg ((m342.1 240 ((m342.1 164 107) - 1).toNatClampNeg) + 2)))) else (K 0 m329))) : jX12_qGoesOn_326 d  M K  := by
  unfold jX12_qGoesOn_326
  refine mm_aload_n (j := 0) dX12_qGoesOn_326 rfl rfl ?_
  refine mm_bipush (x := 44) dX12_qGoesOn_327 rfl ?_
  refine mm_kVV [.int 44] dX12_qGoesOn_329 kX12_333 rfl sh_164 (by decide) (by decide) h (fun m329 hG h => ?_)
  refine mm_aload_n (j := 0) dX12_qGoesOn_332 rfl rfl ?_
  refine mm_getI (ci := 12) (N := 116) dX12_qGoesOn_333 fX12_260 sh_164 rfl ?_
  refine mm_if_eq (tgt := 341) dX12_qGoesOn_336 (by decide) (fun hc => ?_) (fun hc => ?_)
  · rw [if_pos hc] at h
    refine mm_aload_n (j := 0) dX12_qGoesOn_341 rfl rfl ?_
    refine mm_kVV [] dX12_qGoesOn_342 kX12_672 rfl sh_164 (by decide) (by decide) h (fun m342 hG h => ?_)
    refine mm_aload_n (j := 0) dX12_qGoesOn_345 rfl rfl ?_
    refine mm_getR (ci := 12) (N := 116) (r := 240) dX12_qGoesOn_346 fX12_246 sh_164 rfl (g_164_106 hG) ?_
    refine mm_aload_n (j := 0) dX12_qGoesOn_349 rfl rfl ?_
    refine mm_getI (ci := 12) (N := 116) dX12_qGoesOn_350 fX12_357 sh_164 rfl ?_
    refine mm_iconst (x := 1) dX12_qGoesOn_353 rfl ?_
    refine mm_isub dX12_qGoesOn_354 ?_
    refine mm_dup2 dX12_qGoesOn_355 rfl rfl ?_
    obtain ⟨hi356, h⟩ := h
    refine mm_iaload (N := 1700) dX12_qGoesOn_356 sh_240 hi356 ?_
    refine mm_iconst (x := 2) dX12_qGoesOn_357 rfl ?_
    refine mm_iadd dX12_qGoesOn_358 ?_
    obtain ⟨hi359, h⟩ := h
    refine mm_iastore (N := 1700) dX12_qGoesOn_359 sh_240 hi359 ?_
    refine mm_iconst (x := 1) dX12_qGoesOn_360 rfl ?_
    exact mm_zret dX12_qGoesOn_361 rfl rfl (Nat.le_refl 0) (Nat.le_refl 0) ⟨_, rfl, rfl, hG, h⟩
  · rw [if_neg hc] at h
    refine mm_iconst (x := 0) dX12_qGoesOn_339 rfl ?_
    exact mm_zret dX12_qGoesOn_340 rfl rfl (Nat.le_refl 0) (Nat.le_refl 0) ⟨_, rfl, rfl, hG, h⟩
set_option maxRecDepth 100000 in
set_option maxHeartbeats 4000000 in
theorem lX12_qGoesOn_0 {d : Nat} {M : mm_M} {K : Int32 → mm_M → Prop} (hG : mm_G M.2.2) (h : if (M.1 164 5) = 0 then (mm_CI mX12_look d [.ref 164] M (fun z8 m8 => if z8 = 41 then (mm_CI mX12_qBracket d [.ref 164] m8 (fun z17 m17 => if z17 = 20 then (jX12_qGoesOn_43 d m17 K) else (mm_CI mX12_qBracket d [.ref 164] m17 (fun z26 m26 => if z26 = 23 then (jX12_qGoesOn_43 d m26 K) else (mm_CI mX12_qBracket d [.ref 164] m26 (fun z35 m35 => if z35 = 24 then (jX12_qGoesOn_43 d m35 K) else (jX12_qGoesOn_122 d m35 K))))))) else (jX12_qGoesOn_122 d m8 K))) else (jX12_qGoesOn_122 d M K)) : jX12_qGoesOn_0 d  M K  := by
  unfold jX12_qGoesOn_0
  refine mm_aload_n (j := 0) dX12_qGoesOn_0 rfl rfl ?_
  refine mm_getI (ci := 12) (N := 116) dX12_qGoesOn_1 fX12_260 sh_164 rfl ?_
  refine mm_if_ne (tgt := 122) dX12_qGoesOn_4 (by decide) (fun hc => ?_) (fun hc => ?_)
  · rw [if_neg hc] at h
    exact h
  · rw [if_pos hc] at h
    refine mm_aload_n (j := 0) dX12_qGoesOn_7 rfl rfl ?_
    refine mm_kVI [] dX12_qGoesOn_8 kX12_272 rfl sh_164 (by decide) (by decide) h (fun z8 m8 hG h => ?_)
    refine mm_bipush (x := 41) dX12_qGoesOn_11 rfl ?_
    refine mm_icmp_ne (tgt := 122) dX12_qGoesOn_13 (by decide) (fun hc => ?_) (fun hc => ?_)
    · rw [if_neg hc] at h
      exact h
    · rw [if_pos hc] at h
      refine mm_aload_n (j := 0) dX12_qGoesOn_16 rfl rfl ?_
      refine mm_kVI [] dX12_qGoesOn_17 kX12_669 rfl sh_164 (by decide) (by decide) h (fun z17 m17 hG h => ?_)
      refine mm_bipush (x := 20) dX12_qGoesOn_20 rfl ?_
      refine mm_icmp_eq (tgt := 43) dX12_qGoesOn_22 (by decide) (fun hc => ?_) (fun hc => ?_)
      · rw [if_pos hc] at h
        exact h
      · rw [if_neg hc] at h
        refine mm_aload_n (j := 0) dX12_qGoesOn_25 rfl rfl ?_
        refine mm_kVI [] dX12_qGoesOn_26 kX12_669 rfl sh_164 (by decide) (by decide) h (fun z26 m26 hG h => ?_)
        refine mm_bipush (x := 23) dX12_qGoesOn_29 rfl ?_
        refine mm_icmp_eq (tgt := 43) dX12_qGoesOn_31 (by decide) (fun hc => ?_) (fun hc => ?_)
        · rw [if_pos hc] at h
          exact h
        · rw [if_neg hc] at h
          refine mm_aload_n (j := 0) dX12_qGoesOn_34 rfl rfl ?_
          refine mm_kVI [] dX12_qGoesOn_35 kX12_669 rfl sh_164 (by decide) (by decide) h (fun z35 m35 hG h => ?_)
          refine mm_bipush (x := 24) dX12_qGoesOn_38 rfl ?_
          refine mm_icmp_ne (tgt := 122) dX12_qGoesOn_40 (by decide) (fun hc => ?_) (fun hc => ?_)
          · rw [if_neg hc] at h
            exact h
          · rw [if_pos hc] at h
            exact h
set_option maxRecDepth 100000 in
set_option maxHeartbeats 4000000 in
theorem lX12_qGoesOn_162 {d : Nat} {M : mm_M} {K : Int32 → mm_M → Prop} {y1 : Int32} (hG : mm_G M.2.2) (h : mm_CI mX12_qIsOn d [.ref 164, .int 3] M (fun z164 m164 => if z164 = 0 then (mm_CI mX12_qIsOn d [.ref 164, .int 4] m164 (fun z172 m172 => if z172 = 0 then (vp_in (m172.1 164 107) 1700 ∧ K 1 (mm_uI (mm_uI m172 240 (m172.1 164 107).toNatClampNeg y1) 164 107 (((mm_uI m172 240 (m172.1 164 107).toNatClampNeg y1).1 164 107) + 1))) else (mm_CV mX12_qDrops d [.ref 164] m172 (fun m179 => jX12_qGoesOn_162 d m179 K y1)))) else (mm_CV mX12_qDrops d [.ref 164] m164 (fun m179 => jX12_qGoesOn_162 d m179 K y1)))) : jX12_qGoesOn_162 d  M K y1 := by
  unfold jX12_qGoesOn_162
  refine mm_aload_n (j := 0) dX12_qGoesOn_162 rfl rfl ?_
  refine mm_iconst (x := 3) dX12_qGoesOn_163 rfl ?_
  refine mm_kVI [.int 3] dX12_qGoesOn_164 kX12_675 rfl sh_164 (by decide) (by decide) h (fun z164 m164 hG h => ?_)
  refine mm_if_ne (tgt := 178) dX12_qGoesOn_167 (by decide) (fun hc => ?_) (fun hc => ?_)
  · rw [if_neg hc] at h
    refine mm_aload_n (j := 0) dX12_qGoesOn_178 rfl rfl ?_
    refine mm_kVV [] dX12_qGoesOn_179 kX12_648 rfl sh_164 (by decide) (by decide) h (fun m179 hG h => ?_)
    refine mm_goto (tgt := 162) dX12_qGoesOn_182 (by decide) ?_
    exact h
  · rw [if_pos hc] at h
    refine mm_aload_n (j := 0) dX12_qGoesOn_170 rfl rfl ?_
    refine mm_iconst (x := 4) dX12_qGoesOn_171 rfl ?_
    refine mm_kVI [.int 4] dX12_qGoesOn_172 kX12_675 rfl sh_164 (by decide) (by decide) h (fun z172 m172 hG h => ?_)
    refine mm_if_eq (tgt := 185) dX12_qGoesOn_175 (by decide) (fun hc => ?_) (fun hc => ?_)
    · rw [if_pos hc] at h
      refine mm_aload_n (j := 0) dX12_qGoesOn_185 rfl rfl ?_
      refine mm_getR (ci := 12) (N := 116) (r := 240) dX12_qGoesOn_186 fX12_246 sh_164 rfl (g_164_106 hG) ?_
      refine mm_aload_n (j := 0) dX12_qGoesOn_189 rfl rfl ?_
      refine mm_getI (ci := 12) (N := 116) dX12_qGoesOn_190 fX12_357 sh_164 rfl ?_
      refine mm_iload_n (j := 1) dX12_qGoesOn_193 rfl rfl ?_
      obtain ⟨hi194, h⟩ := h
      refine mm_iastore (N := 1700) dX12_qGoesOn_194 sh_240 hi194 ?_
      refine mm_aload_n (j := 0) dX12_qGoesOn_195 rfl rfl ?_
      refine mm_dup dX12_qGoesOn_196 rfl ?_
      refine mm_getI (ci := 12) (N := 116) dX12_qGoesOn_197 fX12_357 sh_164 rfl ?_
      refine mm_iconst (x := 1) dX12_qGoesOn_200 rfl ?_
      refine mm_iadd dX12_qGoesOn_201 ?_
      refine mm_putI (ci := 12) (N := 116) dX12_qGoesOn_202 fX12_357 sh_164 (by decide +kernel) rfl rfl rfl ?_
      refine mm_iconst (x := 1) dX12_qGoesOn_205 rfl ?_
      exact mm_zret dX12_qGoesOn_206 rfl rfl (Nat.le_refl 0) (Nat.le_refl 0) ⟨_, rfl, rfl, hG, h⟩
    · rw [if_neg hc] at h
      refine mm_aload_n (j := 0) dX12_qGoesOn_178 rfl rfl ?_
      refine mm_kVV [] dX12_qGoesOn_179 kX12_648 rfl sh_164 (by decide) (by decide) h (fun m179 hG h => ?_)
      refine mm_goto (tgt := 162) dX12_qGoesOn_182 (by decide) ?_
      exact h
set_option maxRecDepth 100000 in
set_option maxHeartbeats 4000000 in
theorem lX12_qGoesOn_247 {d : Nat} {M : mm_M} {K : Int32 → mm_M → Prop} {y1 : Int32} (hG : mm_G M.2.2) (h : mm_CI mX12_qIsOn d [.ref 164, .int 3] M (fun z249 m249 => if z249 = 0 then (mm_CI mX12_qIsOn d [.ref 164, .int 4] m249 (fun z257 m257 => if z257 = 0 then (mm_CI mX12_qIsOn d [.ref 164, .int 1] m257 (fun z265 m265 => if z265 = 0 then (mm_CI mX12_qIsOn d [.ref 164, .int 2] m265 (fun z273 m273 => if z273 = 0 then (vp_in (m273.1 164 107) 1700 ∧ K 1 (mm_uI (mm_uI m273 240 (m273.1 164 107).toNatClampNeg y1) 164 107 (((mm_uI m273 240 (m273.1 164 107).toNatClampNeg y1).1 164 107) + 1))) else (mm_CV mX12_qDrops d [.ref 164] m273 (fun m280 => jX12_qGoesOn_247 d m280 K y1)))) else (mm_CV mX12_qDrops d [.ref 164] m265 (fun m280 => jX12_qGoesOn_247 d m280 K y1)))) else (mm_CV mX12_qDrops d [.ref 164] m257 (fun m280 => jX12_qGoesOn_247 d m280 K y1)))) else (mm_CV mX12_qDrops d [.ref 164] m249 (fun m280 => jX12_qGoesOn_247 d m280 K y1)))) : jX12_qGoesOn_247 d  M K y1 := by
  unfold jX12_qGoesOn_247
  refine mm_aload_n (j := 0) dX12_qGoesOn_247 rfl rfl ?_
  refine mm_iconst (x := 3) dX12_qGoesOn_248 rfl ?_
  refine mm_kVI [.int 3] dX12_qGoesOn_249 kX12_675 rfl sh_164 (by decide) (by decide) h (fun z249 m249 hG h => ?_)
  refine mm_if_ne (tgt := 279) dX12_qGoesOn_252 (by decide) (fun hc => ?_) (fun hc => ?_)
  · rw [if_neg hc] at h
    refine mm_aload_n (j := 0) dX12_qGoesOn_279 rfl rfl ?_
    refine mm_kVV [] dX12_qGoesOn_280 kX12_648 rfl sh_164 (by decide) (by decide) h (fun m280 hG h => ?_)
    refine mm_goto (tgt := 247) dX12_qGoesOn_283 (by decide) ?_
    exact h
  · rw [if_pos hc] at h
    refine mm_aload_n (j := 0) dX12_qGoesOn_255 rfl rfl ?_
    refine mm_iconst (x := 4) dX12_qGoesOn_256 rfl ?_
    refine mm_kVI [.int 4] dX12_qGoesOn_257 kX12_675 rfl sh_164 (by decide) (by decide) h (fun z257 m257 hG h => ?_)
    refine mm_if_ne (tgt := 279) dX12_qGoesOn_260 (by decide) (fun hc => ?_) (fun hc => ?_)
    · rw [if_neg hc] at h
      refine mm_aload_n (j := 0) dX12_qGoesOn_279 rfl rfl ?_
      refine mm_kVV [] dX12_qGoesOn_280 kX12_648 rfl sh_164 (by decide) (by decide) h (fun m280 hG h => ?_)
      refine mm_goto (tgt := 247) dX12_qGoesOn_283 (by decide) ?_
      exact h
    · rw [if_pos hc] at h
      refine mm_aload_n (j := 0) dX12_qGoesOn_263 rfl rfl ?_
      refine mm_iconst (x := 1) dX12_qGoesOn_264 rfl ?_
      refine mm_kVI [.int 1] dX12_qGoesOn_265 kX12_675 rfl sh_164 (by decide) (by decide) h (fun z265 m265 hG h => ?_)
      refine mm_if_ne (tgt := 279) dX12_qGoesOn_268 (by decide) (fun hc => ?_) (fun hc => ?_)
      · rw [if_neg hc] at h
        refine mm_aload_n (j := 0) dX12_qGoesOn_279 rfl rfl ?_
        refine mm_kVV [] dX12_qGoesOn_280 kX12_648 rfl sh_164 (by decide) (by decide) h (fun m280 hG h => ?_)
        refine mm_goto (tgt := 247) dX12_qGoesOn_283 (by decide) ?_
        exact h
      · rw [if_pos hc] at h
        refine mm_aload_n (j := 0) dX12_qGoesOn_271 rfl rfl ?_
        refine mm_iconst (x := 2) dX12_qGoesOn_272 rfl ?_
        refine mm_kVI [.int 2] dX12_qGoesOn_273 kX12_675 rfl sh_164 (by decide) (by decide) h (fun z273 m273 hG h => ?_)
        refine mm_if_eq (tgt := 286) dX12_qGoesOn_276 (by decide) (fun hc => ?_) (fun hc => ?_)
        · rw [if_pos hc] at h
          refine mm_aload_n (j := 0) dX12_qGoesOn_286 rfl rfl ?_
          refine mm_getR (ci := 12) (N := 116) (r := 240) dX12_qGoesOn_287 fX12_246 sh_164 rfl (g_164_106 hG) ?_
          refine mm_aload_n (j := 0) dX12_qGoesOn_290 rfl rfl ?_
          refine mm_getI (ci := 12) (N := 116) dX12_qGoesOn_291 fX12_357 sh_164 rfl ?_
          refine mm_iload_n (j := 1) dX12_qGoesOn_294 rfl rfl ?_
          obtain ⟨hi295, h⟩ := h
          refine mm_iastore (N := 1700) dX12_qGoesOn_295 sh_240 hi295 ?_
          refine mm_aload_n (j := 0) dX12_qGoesOn_296 rfl rfl ?_
          refine mm_dup dX12_qGoesOn_297 rfl ?_
          refine mm_getI (ci := 12) (N := 116) dX12_qGoesOn_298 fX12_357 sh_164 rfl ?_
          refine mm_iconst (x := 1) dX12_qGoesOn_301 rfl ?_
          refine mm_iadd dX12_qGoesOn_302 ?_
          refine mm_putI (ci := 12) (N := 116) dX12_qGoesOn_303 fX12_357 sh_164 (by decide +kernel) rfl rfl rfl ?_
          refine mm_iconst (x := 1) dX12_qGoesOn_306 rfl ?_
          exact mm_zret dX12_qGoesOn_307 rfl rfl (Nat.le_refl 0) (Nat.le_refl 0) ⟨_, rfl, rfl, hG, h⟩
        · rw [if_neg hc] at h
          refine mm_aload_n (j := 0) dX12_qGoesOn_279 rfl rfl ?_
          refine mm_kVV [] dX12_qGoesOn_280 kX12_648 rfl sh_164 (by decide) (by decide) h (fun m280 hG h => ?_)
          refine mm_goto (tgt := 247) dX12_qGoesOn_283 (by decide) ?_
          exact h
def jX12_qSums_15 (d : Nat) (M : mm_M) (K : mm_M → Prop) (y1 : Int32) (y2 : Int32) : Prop := mm_W mX12_qSums (d + 1) 0 0 15 [(0, .ref 164), (1, .int y1), (2, .int y2)] [] mm_SH M 0 0 (mm_PV K)
def jX12_qSums_53 (d : Nat) (M : mm_M) (K : mm_M → Prop) (y1 : Int32) : Prop := mm_W mX12_qSums (d + 1) 0 0 53 [(0, .ref 164), (1, .int y1)] [] mm_SH M 0 0 (mm_PV K)
set_option maxRecDepth 100000 in
set_option maxHeartbeats 4000000 in
theorem rX12_qSums {d : Nat} {M : mm_M} {K : mm_M → Prop} (hG : mm_G M.2.2) (h : jX12_qSums_15 d (mm_uI M 164 109 (M.1 164 107)) K (M.1 164 109) 1) : mm_CV mX12_qSums (d + 1) [.ref 164] M K := by
  show mm_W mX12_qSums (d + 1) 0 0 0 [(0, .ref 164)] [] mm_SH M 0 0 (mm_PV K)
  refine mm_aload_n (j := 0) dX12_qSums_0 rfl rfl ?_
  refine mm_getI (ci := 12) (N := 116) dX12_qSums_1 fX12_363 sh_164 rfl ?_
  refine mm_istore_n (lv' := [(1, .int (M.1 164 109)), (0, .ref 164)]) dX12_qSums_4 rfl (by decide) rfl ?_
  refine mm_aload_n (j := 1) dX12_qSums_5 rfl rfl ?_
  refine mm_aload_n (j := 1) dX12_qSums_6 rfl rfl ?_
  refine mm_getI (ci := 12) (N := 116) dX12_qSums_7 fX12_357 sh_164 rfl ?_
  refine mm_putI (ci := 12) (N := 116) dX12_qSums_10 fX12_363 sh_164 (by decide +kernel) rfl rfl rfl ?_
  refine mm_iconst (x := 1) dX12_qSums_13 rfl ?_
  refine mm_istore_n (lv' := [(2, .int 1), (1, .int (M.1 164 109)), (0, .ref 164)]) dX12_qSums_14 rfl (by decide) rfl ?_
  exact mm_sub [2, 1, 0] rfl h
set_option maxRecDepth 100000 in
set_option maxHeartbeats 4000000 in
theorem lX12_qSums_15 {d : Nat} {M : mm_M} {K : mm_M → Prop} {y1 : Int32} {y2 : Int32} (hG : mm_G M.2.2) (h : if y2 = 0 then (jX12_qSums_53 d M K y1) else (if (M.1 164 5) = 0 then (mm_CV mX12_qPartTold d [.ref 164] M (fun m27 => if (m27.1 164 5) = 0 then (mm_CI mX12_qGoesOn d [.ref 164] m27 (fun z38 m38 => if z38 = 0 then (jX12_qSums_15 d m38 K y1 0) else (jX12_qSums_15 d m38 K y1 1))) else (jX12_qSums_15 d m27 K y1 0))) else (jX12_qSums_53 d M K y1))) : jX12_qSums_15 d  M K y1 y2 := by
  unfold jX12_qSums_15
  refine mm_iload_n (j := 2) dX12_qSums_15 rfl rfl ?_
  refine mm_if_eq (tgt := 53) dX12_qSums_16 (by decide) (fun hc => ?_) (fun hc => ?_)
  · rw [if_pos hc] at h
    exact mm_sub [0, 1] rfl h
  · rw [if_neg hc] at h
    refine mm_aload_n (j := 0) dX12_qSums_19 rfl rfl ?_
    refine mm_getI (ci := 12) (N := 116) dX12_qSums_20 fX12_260 sh_164 rfl ?_
    refine mm_if_ne (tgt := 53) dX12_qSums_23 (by decide) (fun hc => ?_) (fun hc => ?_)
    · rw [if_neg hc] at h
      exact mm_sub [0, 1] rfl h
    · rw [if_pos hc] at h
      refine mm_aload_n (j := 0) dX12_qSums_26 rfl rfl ?_
      refine mm_kVV [] dX12_qSums_27 kX12_678 rfl sh_164 (by decide) (by decide) h (fun m27 hG h => ?_)
      refine mm_aload_n (j := 0) dX12_qSums_30 rfl rfl ?_
      refine mm_getI (ci := 12) (N := 116) dX12_qSums_31 fX12_260 sh_164 rfl ?_
      refine mm_if_ne (tgt := 48) dX12_qSums_34 (by decide) (fun hc => ?_) (fun hc => ?_)
      · rw [if_neg hc] at h
        refine mm_iconst (x := 0) dX12_qSums_48 rfl ?_
        refine mm_istore_n (lv' := [(2, .int 0), (0, .ref 164), (1, .int y1)]) dX12_qSums_49 rfl (by decide) rfl ?_
        refine mm_goto (tgt := 15) dX12_qSums_50 (by decide) ?_
        exact mm_sub [1, 2, 0] rfl h
      · rw [if_pos hc] at h
        refine mm_aload_n (j := 0) dX12_qSums_37 rfl rfl ?_
        refine mm_kVI [] dX12_qSums_38 kX12_681 rfl sh_164 (by decide) (by decide) h (fun z38 m38 hG h => ?_)
        refine mm_if_eq (tgt := 48) dX12_qSums_41 (by decide) (fun hc => ?_) (fun hc => ?_)
        · rw [if_pos hc] at h
          refine mm_iconst (x := 0) dX12_qSums_48 rfl ?_
          refine mm_istore_n (lv' := [(2, .int 0), (0, .ref 164), (1, .int y1)]) dX12_qSums_49 rfl (by decide) rfl ?_
          refine mm_goto (tgt := 15) dX12_qSums_50 (by decide) ?_
          exact mm_sub [1, 2, 0] rfl h
        · rw [if_neg hc] at h
          refine mm_iconst (x := 1) dX12_qSums_44 rfl ?_
          refine mm_goto (tgt := 49) dX12_qSums_45 (by decide) ?_
          refine mm_istore_n (lv' := [(2, .int 1), (0, .ref 164), (1, .int y1)]) dX12_qSums_49 rfl (by decide) rfl ?_
          refine mm_goto (tgt := 15) dX12_qSums_50 (by decide) ?_
          exact mm_sub [1, 2, 0] rfl h
set_option maxRecDepth 100000 in
set_option maxHeartbeats 4000000 in
theorem lX12_qSums_53 {d : Nat} {M : mm_M} {K : mm_M → Prop} {y1 : Int32} (hG : mm_G M.2.2) (h : if (M.1 164 5) = 0 then (if (M.1 164 107) ≤ (M.1 164 109) then (K (mm_uI M 164 109 y1)) else (mm_CV mX12_qDrops d [.ref 164] M (fun m72 => jX12_qSums_53 d m72 K y1))) else (K (mm_uI M 164 109 y1))) : jX12_qSums_53 d  M K y1 := by
  unfold jX12_qSums_53
  refine mm_aload_n (j := 0) dX12_qSums_53 rfl rfl ?_
  refine mm_getI (ci := 12) (N := 116) dX12_qSums_54 fX12_260 sh_164 rfl ?_
  refine mm_if_ne (tgt := 78) dX12_qSums_57 (by decide) (fun hc => ?_) (fun hc => ?_)
  · rw [if_neg hc] at h
    refine mm_aload_n (j := 0) dX12_qSums_78 rfl rfl ?_
    refine mm_iload_n (j := 1) dX12_qSums_79 rfl rfl ?_
    refine mm_putI (ci := 12) (N := 116) dX12_qSums_80 fX12_363 sh_164 (by decide +kernel) rfl rfl rfl ?_
    exact mm_vret dX12_qSums_83 rfl (Nat.le_refl 0) (Nat.le_refl 0) ⟨rfl, rfl, hG, h⟩
  · rw [if_pos hc] at h
    refine mm_aload_n (j := 0) dX12_qSums_60 rfl rfl ?_
    refine mm_getI (ci := 12) (N := 116) dX12_qSums_61 fX12_357 sh_164 rfl ?_
    refine mm_aload_n (j := 0) dX12_qSums_64 rfl rfl ?_
    refine mm_getI (ci := 12) (N := 116) dX12_qSums_65 fX12_363 sh_164 rfl ?_
    refine mm_icmp_le (tgt := 78) dX12_qSums_68 (by decide) (fun hc => ?_) (fun hc => ?_)
    · rw [if_pos hc] at h
      refine mm_aload_n (j := 0) dX12_qSums_78 rfl rfl ?_
      refine mm_iload_n (j := 1) dX12_qSums_79 rfl rfl ?_
      refine mm_putI (ci := 12) (N := 116) dX12_qSums_80 fX12_363 sh_164 (by decide +kernel) rfl rfl rfl ?_
      exact mm_vret dX12_qSums_83 rfl (Nat.le_refl 0) (Nat.le_refl 0) ⟨rfl, rfl, hG, h⟩
    · rw [if_neg hc] at h
      refine mm_aload_n (j := 0) dX12_qSums_71 rfl rfl ?_
      refine mm_kVV [] dX12_qSums_72 kX12_648 rfl sh_164 (by decide) (by decide) h (fun m72 hG h => ?_)
      refine mm_goto (tgt := 53) dX12_qSums_75 (by decide) ?_
      exact h
def jX12_qFact_63 (d : Nat) (M : mm_M) (K : mm_M → Prop) (y1 : Int32) : Prop := mm_W mX12_qFact (d + 1) 0 0 63 [(0, .ref 164), (1, .int y1)] [] mm_SH M 0 0 (mm_PV K)
set_option maxRecDepth 100000 in
set_option maxHeartbeats 4000000 in
theorem rX12_qFact {d : Nat} {M : mm_M} {K : mm_M → Prop} (hG : mm_G M.2.2) (h : mm_CI mX12_takes d [.ref 164, .ref 226] M (fun z5 m5 => if z5 = 0 then (mm_CV mX12_qSums d [.ref 164] m5 (fun m19 => if (m19.1 164 5) = 0 then (mm_CI mX12_look d [.ref 164] m19 (fun z31 m31 => if z31 = 60 then (jX12_qFact_63 d m31 K z31) else (if z31 = 62 then (jX12_qFact_63 d m31 K z31) else (if z31 = 61 then (jX12_qFact_63 d m31 K z31) else (mm_CV mX12_fail d [.ref 164, .int 1, .int (m31.1 164 2)] m31 (fun m59 => K m59)))))) else (K m19))) else (mm_CV mX12_qCode d [.ref 164, .int 13] m5 (fun m14 => K m14)))) : mm_CV mX12_qFact (d + 1) [.ref 164] M K := by
  show mm_W mX12_qFact (d + 1) 0 0 0 [(0, .ref 164)] [] mm_SH M 0 0 (mm_PV K)
  refine mm_aload_n (j := 0) dX12_qFact_0 rfl rfl ?_
  refine mm_aload_n (j := 0) dX12_qFact_1 rfl rfl ?_
  refine mm_getR (ci := 12) (N := 116) (r := 226) dX12_qFact_2 fX12_204 sh_164 rfl (g_164_91 hG) ?_
  refine mm_kVI [.ref 226] dX12_qFact_5 kX12_287 rfl sh_164 (by decide) (by decide) h (fun z5 m5 hG h => ?_)
  refine mm_if_eq (tgt := 18) dX12_qFact_8 (by decide) (fun hc => ?_) (fun hc => ?_)
  · rw [if_pos hc] at h
    refine mm_aload_n (j := 0) dX12_qFact_18 rfl rfl ?_
    refine mm_kVV [] dX12_qFact_19 kX12_369 rfl sh_164 (by decide) (by decide) h (fun m19 hG h => ?_)
    refine mm_aload_n (j := 0) dX12_qFact_22 rfl rfl ?_
    refine mm_getI (ci := 12) (N := 116) dX12_qFact_23 fX12_260 sh_164 rfl ?_
    refine mm_if_eq (tgt := 30) dX12_qFact_26 (by decide) (fun hc => ?_) (fun hc => ?_)
    · rw [if_pos hc] at h
      refine mm_aload_n (j := 0) dX12_qFact_30 rfl rfl ?_
      refine mm_kVI [] dX12_qFact_31 kX12_272 rfl sh_164 (by decide) (by decide) h (fun z31 m31 hG h => ?_)
      refine mm_istore_n (lv' := [(1, .int z31), (0, .ref 164)]) dX12_qFact_34 rfl (by decide) rfl ?_
      refine mm_iload_n (j := 0) dX12_qFact_35 rfl rfl ?_
      refine mm_bipush (x := 60) dX12_qFact_36 rfl ?_
      refine mm_icmp_eq (tgt := 63) dX12_qFact_38 (by decide) (fun hc => ?_) (fun hc => ?_)
      · rw [if_pos hc] at h
        exact mm_sub [1, 0] rfl h
      · rw [if_neg hc] at h
        refine mm_iload_n (j := 0) dX12_qFact_41 rfl rfl ?_
        refine mm_bipush (x := 62) dX12_qFact_42 rfl ?_
        refine mm_icmp_eq (tgt := 63) dX12_qFact_44 (by decide) (fun hc => ?_) (fun hc => ?_)
        · rw [if_pos hc] at h
          exact mm_sub [1, 0] rfl h
        · rw [if_neg hc] at h
          refine mm_iload_n (j := 0) dX12_qFact_47 rfl rfl ?_
          refine mm_bipush (x := 61) dX12_qFact_48 rfl ?_
          refine mm_icmp_eq (tgt := 63) dX12_qFact_50 (by decide) (fun hc => ?_) (fun hc => ?_)
          · rw [if_pos hc] at h
            exact mm_sub [1, 0] rfl h
          · rw [if_neg hc] at h
            refine mm_aload_n (j := 1) dX12_qFact_53 rfl rfl ?_
            refine mm_iconst (x := 1) dX12_qFact_54 rfl ?_
            refine mm_aload_n (j := 1) dX12_qFact_55 rfl rfl ?_
            refine mm_getI (ci := 12) (N := 116) dX12_qFact_56 fX12_266 sh_164 rfl ?_
            refine mm_kVV [.int 1, .int (m31.1 164 2)] dX12_qFact_59 kX12_290 rfl sh_164 (by decide) (by decide) h (fun m59 hG h => ?_)
            exact mm_vret dX12_qFact_62 rfl (Nat.le_refl 0) (Nat.le_refl 0) ⟨rfl, rfl, hG, h⟩
    · rw [if_neg hc] at h
      exact mm_vret dX12_qFact_29 rfl (Nat.le_refl 0) (Nat.le_refl 0) ⟨rfl, rfl, hG, h⟩
  · rw [if_neg hc] at h
    refine mm_aload_n (j := 0) dX12_qFact_11 rfl rfl ?_
    refine mm_bipush (x := 13) dX12_qFact_12 rfl ?_
    refine mm_kVV [.int 13] dX12_qFact_14 kX12_642 rfl sh_164 (by decide) (by decide) h (fun m14 hG h => ?_)
    exact mm_vret dX12_qFact_17 rfl (Nat.le_refl 0) (Nat.le_refl 0) ⟨rfl, rfl, hG, h⟩
set_option maxRecDepth 100000 in
set_option maxHeartbeats 4000000 in
theorem lX12_qFact_63 {d : Nat} {M : mm_M} {K : mm_M → Prop} {y1 : Int32} (hG : mm_G M.2.2) (h : mm_CV mX12_qSums d [.ref 164] (mm_uI M 164 2 ((M.1 164 2) + 1)) (fun m74 => if y1 = 60 then (mm_CV mX12_qCode d [.ref 164, .int 7] m74 (fun m102 => K m102)) else (if y1 = 62 then (mm_CV mX12_qCode d [.ref 164, .int 8] m74 (fun m102 => K m102)) else (mm_CV mX12_qCode d [.ref 164, .int 9] m74 (fun m102 => K m102))))) : jX12_qFact_63 d  M K y1 := by
  unfold jX12_qFact_63
  refine mm_aload_n (j := 0) dX12_qFact_63 rfl rfl ?_
  refine mm_dup dX12_qFact_64 rfl ?_
  refine mm_getI (ci := 12) (N := 116) dX12_qFact_65 fX12_266 sh_164 rfl ?_
  refine mm_iconst (x := 1) dX12_qFact_68 rfl ?_
  refine mm_iadd dX12_qFact_69 ?_
  refine mm_putI (ci := 12) (N := 116) dX12_qFact_70 fX12_266 sh_164 (by decide +kernel) rfl rfl rfl ?_
  refine mm_aload_n (j := 0) dX12_qFact_73 rfl rfl ?_
  refine mm_kVV [] dX12_qFact_74 kX12_369 rfl sh_164 (by decide) (by decide) h (fun m74 hG h => ?_)
  refine mm_aload_n (j := 0) dX12_qFact_77 rfl rfl ?_
  refine mm_iload_n (j := 1) dX12_qFact_78 rfl rfl ?_
  refine mm_bipush (x := 60) dX12_qFact_79 rfl ?_
  refine mm_icmp_ne (tgt := 89) dX12_qFact_81 (by decide) (fun hc => ?_) (fun hc => ?_)
  · rw [if_neg hc] at h
    refine mm_iload_n (j := 1) dX12_qFact_89 rfl rfl ?_
    refine mm_bipush (x := 62) dX12_qFact_90 rfl ?_
    refine mm_icmp_ne (tgt := 100) dX12_qFact_92 (by decide) (fun hc => ?_) (fun hc => ?_)
    · rw [if_neg hc] at h
      refine mm_bipush (x := 9) dX12_qFact_100 rfl ?_
      refine mm_kVV [.int 9] dX12_qFact_102 kX12_642 rfl sh_164 (by decide) (by decide) h (fun m102 hG h => ?_)
      exact mm_vret dX12_qFact_105 rfl (Nat.le_refl 0) (Nat.le_refl 0) ⟨rfl, rfl, hG, h⟩
    · rw [if_pos hc] at h
      refine mm_bipush (x := 8) dX12_qFact_95 rfl ?_
      refine mm_goto (tgt := 102) dX12_qFact_97 (by decide) ?_
      refine mm_kVV [.int 8] dX12_qFact_102 kX12_642 rfl sh_164 (by decide) (by decide) h (fun m102 hG h => ?_)
      exact mm_vret dX12_qFact_105 rfl (Nat.le_refl 0) (Nat.le_refl 0) ⟨rfl, rfl, hG, h⟩
  · rw [if_pos hc] at h
    refine mm_bipush (x := 7) dX12_qFact_84 rfl ?_
    refine mm_goto (tgt := 102) dX12_qFact_86 (by decide) ?_
    refine mm_kVV [.int 7] dX12_qFact_102 kX12_642 rfl sh_164 (by decide) (by decide) h (fun m102 hG h => ?_)
    exact mm_vret dX12_qFact_105 rfl (Nat.le_refl 0) (Nat.le_refl 0) ⟨rfl, rfl, hG, h⟩
def jX12_qHasSquare_2 (d : Nat) (M : mm_M) (K : Int32 → mm_M → Prop) (y1 : Int32) : Prop := mm_W mX12_qHasSquare d 0 0 2 [(0, .ref 164), (1, .int y1)] [] mm_SH M 0 0 (mm_PI K)
set_option maxRecDepth 100000 in
set_option maxHeartbeats 4000000 in
theorem rX12_qHasSquare {d : Nat} {M : mm_M} {K : Int32 → mm_M → Prop} (hG : mm_G M.2.2) (h : jX12_qHasSquare_2 d M K 0) : mm_CI mX12_qHasSquare d [.ref 164] M K := by
  show mm_W mX12_qHasSquare d 0 0 0 [(0, .ref 164)] [] mm_SH M 0 0 (mm_PI K)
  refine mm_iconst (x := 0) dX12_qHasSquare_0 rfl ?_
  refine mm_istore_n (lv' := [(1, .int 0), (0, .ref 164)]) dX12_qHasSquare_1 rfl (by decide) rfl ?_
  exact mm_sub [1, 0] rfl h
set_option maxRecDepth 100000 in
set_option maxHeartbeats 4000000 in
theorem lX12_qHasSquare_2 {d : Nat} {M : mm_M} {K : Int32 → mm_M → Prop} {y1 : Int32} (hG : mm_G M.2.2) (h : if (M.1 164 107) ≤ y1 then (K 0 M) else (vp_in y1 1700 ∧ if (M.1 240 (y1).toNatClampNeg) = 25 then (K 1 M) else (jX12_qHasSquare_2 d M K (y1 + 1)))) : jX12_qHasSquare_2 d  M K y1 := by
  unfold jX12_qHasSquare_2
  refine mm_iload_n (j := 1) dX12_qHasSquare_2 rfl rfl ?_
  refine mm_aload_n (j := 0) dX12_qHasSquare_3 rfl rfl ?_
  refine mm_getI (ci := 12) (N := 116) dX12_qHasSquare_4 fX12_357 sh_164 rfl ?_
  refine mm_icmp_ge (tgt := 29) dX12_qHasSquare_7 (by decide) (fun hc => ?_) (fun hc => ?_)
  · rw [if_pos hc] at h
    refine mm_iconst (x := 0) dX12_qHasSquare_29 rfl ?_
    exact mm_zret dX12_qHasSquare_30 rfl rfl (Nat.le_refl 0) (Nat.le_refl 0) ⟨_, rfl, rfl, hG, h⟩
  · rw [if_neg hc] at h
    refine mm_aload_n (j := 0) dX12_qHasSquare_10 rfl rfl ?_
    refine mm_getR (ci := 12) (N := 116) (r := 240) dX12_qHasSquare_11 fX12_246 sh_164 rfl (g_164_106 hG) ?_
    refine mm_iload_n (j := 1) dX12_qHasSquare_14 rfl rfl ?_
    obtain ⟨hi15, h⟩ := h
    refine mm_iaload (N := 1700) dX12_qHasSquare_15 sh_240 hi15 ?_
    refine mm_bipush (x := 25) dX12_qHasSquare_16 rfl ?_
    refine mm_icmp_ne (tgt := 23) dX12_qHasSquare_18 (by decide) (fun hc => ?_) (fun hc => ?_)
    · rw [if_neg hc] at h
      refine mm_iinc (j := 1) (v := y1 + 1) (lv' := [(1, .int (y1 + 1)), (0, .ref 164)]) dX12_qHasSquare_23 rfl rfl (by decide) rfl ?_
      refine mm_goto (tgt := 2) dX12_qHasSquare_26 (by decide) ?_
      exact mm_sub [1, 0] rfl h
    · rw [if_pos hc] at h
      refine mm_iconst (x := 1) dX12_qHasSquare_21 rfl ?_
      exact mm_zret dX12_qHasSquare_22 rfl rfl (Nat.le_refl 0) (Nat.le_refl 0) ⟨_, rfl, rfl, hG, h⟩
def jX12_qDropsNots_0 (d : Nat) (M : mm_M) (K : mm_M → Prop) : Prop := mm_W mX12_qDropsNots (d + 1) 0 0 0 [(0, .ref 164)] [] mm_SH M 0 0 (mm_PV K)
set_option maxRecDepth 100000 in
set_option maxHeartbeats 4000000 in
theorem rX12_qDropsNots {d : Nat} {M : mm_M} {K : mm_M → Prop} (hG : mm_G M.2.2) (h : if (M.1 164 5) = 0 then (mm_CI mX12_qIsOn d [.ref 164, .int 12] M (fun z10 m10 => if z10 = 0 then (K m10) else (mm_CV mX12_qDrops d [.ref 164] (mm_uI m10 164 108 ((m10.1 164 108) - 1)) (fun m27 => jX12_qDropsNots_0 d m27 K)))) else (K M)) : mm_CV mX12_qDropsNots (d + 1) [.ref 164] M K := by
  show mm_W mX12_qDropsNots (d + 1) 0 0 0 [(0, .ref 164)] [] mm_SH M 0 0 (mm_PV K)
  refine mm_aload_n (j := 0) dX12_qDropsNots_0 rfl rfl ?_
  refine mm_getI (ci := 12) (N := 116) dX12_qDropsNots_1 fX12_260 sh_164 rfl ?_
  refine mm_if_ne (tgt := 33) dX12_qDropsNots_4 (by decide) (fun hc => ?_) (fun hc => ?_)
  · rw [if_neg hc] at h
    exact mm_vret dX12_qDropsNots_33 rfl (Nat.le_refl 0) (Nat.le_refl 0) ⟨rfl, rfl, hG, h⟩
  · rw [if_pos hc] at h
    refine mm_aload_n (j := 0) dX12_qDropsNots_7 rfl rfl ?_
    refine mm_bipush (x := 12) dX12_qDropsNots_8 rfl ?_
    refine mm_kVI [.int 12] dX12_qDropsNots_10 kX12_675 rfl sh_164 (by decide) (by decide) h (fun z10 m10 hG h => ?_)
    refine mm_if_eq (tgt := 33) dX12_qDropsNots_13 (by decide) (fun hc => ?_) (fun hc => ?_)
    · rw [if_pos hc] at h
      exact mm_vret dX12_qDropsNots_33 rfl (Nat.le_refl 0) (Nat.le_refl 0) ⟨rfl, rfl, hG, h⟩
    · rw [if_neg hc] at h
      refine mm_aload_n (j := 0) dX12_qDropsNots_16 rfl rfl ?_
      refine mm_dup dX12_qDropsNots_17 rfl ?_
      refine mm_getI (ci := 12) (N := 116) dX12_qDropsNots_18 fX12_360 sh_164 rfl ?_
      refine mm_iconst (x := 1) dX12_qDropsNots_21 rfl ?_
      refine mm_isub dX12_qDropsNots_22 ?_
      refine mm_putI (ci := 12) (N := 116) dX12_qDropsNots_23 fX12_360 sh_164 (by decide +kernel) rfl rfl rfl ?_
      refine mm_aload_n (j := 0) dX12_qDropsNots_26 rfl rfl ?_
      refine mm_kVV [] dX12_qDropsNots_27 kX12_648 rfl sh_164 (by decide) (by decide) h (fun m27 hG h => ?_)
      refine mm_goto (tgt := 0) dX12_qDropsNots_30 (by decide) ?_
      exact h
set_option maxRecDepth 100000 in
set_option maxHeartbeats 4000000 in
theorem lX12_qDropsNots_0 {d : Nat} {M : mm_M} {K : mm_M → Prop} (hG : mm_G M.2.2) (h : if (M.1 164 5) = 0 then (mm_CI mX12_qIsOn d [.ref 164, .int 12] M (fun z10 m10 => if z10 = 0 then (K m10) else (mm_CV mX12_qDrops d [.ref 164] (mm_uI m10 164 108 ((m10.1 164 108) - 1)) (fun m27 => jX12_qDropsNots_0 d m27 K)))) else (K M)) : jX12_qDropsNots_0 d  M K  := by
  unfold jX12_qDropsNots_0
  refine mm_aload_n (j := 0) dX12_qDropsNots_0 rfl rfl ?_
  refine mm_getI (ci := 12) (N := 116) dX12_qDropsNots_1 fX12_260 sh_164 rfl ?_
  refine mm_if_ne (tgt := 33) dX12_qDropsNots_4 (by decide) (fun hc => ?_) (fun hc => ?_)
  · rw [if_neg hc] at h
    exact mm_vret dX12_qDropsNots_33 rfl (Nat.le_refl 0) (Nat.le_refl 0) ⟨rfl, rfl, hG, h⟩
  · rw [if_pos hc] at h
    refine mm_aload_n (j := 0) dX12_qDropsNots_7 rfl rfl ?_
    refine mm_bipush (x := 12) dX12_qDropsNots_8 rfl ?_
    refine mm_kVI [.int 12] dX12_qDropsNots_10 kX12_675 rfl sh_164 (by decide) (by decide) h (fun z10 m10 hG h => ?_)
    refine mm_if_eq (tgt := 33) dX12_qDropsNots_13 (by decide) (fun hc => ?_) (fun hc => ?_)
    · rw [if_pos hc] at h
      exact mm_vret dX12_qDropsNots_33 rfl (Nat.le_refl 0) (Nat.le_refl 0) ⟨rfl, rfl, hG, h⟩
    · rw [if_neg hc] at h
      refine mm_aload_n (j := 0) dX12_qDropsNots_16 rfl rfl ?_
      refine mm_dup dX12_qDropsNots_17 rfl ?_
      refine mm_getI (ci := 12) (N := 116) dX12_qDropsNots_18 fX12_360 sh_164 rfl ?_
      refine mm_iconst (x := 1) dX12_qDropsNots_21 rfl ?_
      refine mm_isub dX12_qDropsNots_22 ?_
      refine mm_putI (ci := 12) (N := 116) dX12_qDropsNots_23 fX12_360 sh_164 (by decide +kernel) rfl rfl rfl ?_
      refine mm_aload_n (j := 0) dX12_qDropsNots_26 rfl rfl ?_
      refine mm_kVV [] dX12_qDropsNots_27 kX12_648 rfl sh_164 (by decide) (by decide) h (fun m27 hG h => ?_)
      refine mm_goto (tgt := 0) dX12_qDropsNots_30 (by decide) ?_
      exact h
def jX12_qTest_2 (d : Nat) (M : mm_M) (K : mm_M → Prop) (y1 : Int32) : Prop := mm_W mX12_qTest (d + 1) 0 0 2 [(0, .ref 164), (1, .int y1)] [] mm_SH M 0 0 (mm_PV K)
def jX12_qTest_110 (d : Nat) (M : mm_M) (K : mm_M → Prop) : Prop := mm_W mX12_qTest (d + 1) 0 0 110 [(0, .ref 164)] [] mm_SH M 0 0 (mm_PV K)
set_option maxRecDepth 100000 in
set_option maxHeartbeats 4000000 in
theorem rX12_qTest {d : Nat} {M : mm_M} {K : mm_M → Prop} (hG : mm_G M.2.2) (h : jX12_qTest_2 d M K 1) : mm_CV mX12_qTest (d + 1) [.ref 164] M K := by
  show mm_W mX12_qTest (d + 1) 0 0 0 [(0, .ref 164)] [] mm_SH M 0 0 (mm_PV K)
  refine mm_iconst (x := 1) dX12_qTest_0 rfl ?_
  refine mm_istore_n (lv' := [(1, .int 1), (0, .ref 164)]) dX12_qTest_1 rfl (by decide) rfl ?_
  exact mm_sub [1, 0] rfl h
set_option maxRecDepth 100000 in
set_option maxHeartbeats 4000000 in
theorem lX12_qTest_2 {d : Nat} {M : mm_M} {K : mm_M → Prop} {y1 : Int32} (hG : mm_G M.2.2) (h : if y1 = 0 then (jX12_qTest_110 d M K) else (if (M.1 164 5) = 0 then (mm_CI mX12_look d [.ref 164] M (fun z14 m14 => if z14 = 91 then (mm_CV mX12_qOpens d [.ref 164, .int 25, .int (m14.1 164 2)] m14 (fun m31 => jX12_qTest_2 d (mm_uI m31 164 2 ((m31.1 164 2) + 1)) K y1)) else (mm_CI mX12_isHere d [.ref 164, .ref 223] m14 (fun z52 m52 => if z52 = 0 then (mm_CV mX12_qFact d [.ref 164] m52 (fun m80 => mm_CV mX12_qDropsNots d [.ref 164] m80 (fun m84 => if (m84.1 164 5) = 0 then (mm_CI mX12_qGoesOnTest d [.ref 164] m84 (fun z95 m95 => if z95 = 0 then (jX12_qTest_2 d m95 K 0) else (jX12_qTest_2 d m95 K 1))) else (jX12_qTest_2 d m84 K 0)))) else (mm_CV mX12_qOpens d [.ref 164, .int 12, .int (m52.1 164 2)] m52 (fun m65 => mm_CV mX12_asks d [.ref 164, .ref 223] m65 (fun m73 => jX12_qTest_2 d m73 K y1))))))) else (jX12_qTest_110 d M K))) : jX12_qTest_2 d  M K y1 := by
  unfold jX12_qTest_2
  refine mm_iload_n (j := 1) dX12_qTest_2 rfl rfl ?_
  refine mm_if_eq (tgt := 110) dX12_qTest_3 (by decide) (fun hc => ?_) (fun hc => ?_)
  · rw [if_pos hc] at h
    exact mm_sub [0] rfl h
  · rw [if_neg hc] at h
    refine mm_aload_n (j := 0) dX12_qTest_6 rfl rfl ?_
    refine mm_getI (ci := 12) (N := 116) dX12_qTest_7 fX12_260 sh_164 rfl ?_
    refine mm_if_ne (tgt := 110) dX12_qTest_10 (by decide) (fun hc => ?_) (fun hc => ?_)
    · rw [if_neg hc] at h
      exact mm_sub [0] rfl h
    · rw [if_pos hc] at h
      refine mm_aload_n (j := 0) dX12_qTest_13 rfl rfl ?_
      refine mm_kVI [] dX12_qTest_14 kX12_272 rfl sh_164 (by decide) (by decide) h (fun z14 m14 hG h => ?_)
      refine mm_istore_n (lv' := [(2, .int z14), (0, .ref 164), (1, .int y1)]) dX12_qTest_17 rfl (by decide) rfl ?_
      refine mm_iload_n (j := 0) dX12_qTest_18 rfl rfl ?_
      refine mm_bipush (x := 91) dX12_qTest_19 rfl ?_
      refine mm_icmp_ne (tgt := 47) dX12_qTest_21 (by decide) (fun hc => ?_) (fun hc => ?_)
      · rw [if_neg hc] at h
        refine mm_aload_n (j := 1) dX12_qTest_47 rfl rfl ?_
        refine mm_aload_n (j := 1) dX12_qTest_48 rfl rfl ?_
        refine mm_getR (ci := 12) (N := 116) (r := 223) dX12_qTest_49 fX12_195 sh_164 rfl (g_164_88 hG) ?_
        refine mm_kVI [.ref 223] dX12_qTest_52 kX12_283 rfl sh_164 (by decide) (by decide) h (fun z52 m52 hG h => ?_)
        refine mm_if_eq (tgt := 79) dX12_qTest_55 (by decide) (fun hc => ?_) (fun hc => ?_)
        · rw [if_pos hc] at h
          refine mm_aload_n (j := 1) dX12_qTest_79 rfl rfl ?_
          refine mm_kVV [] dX12_qTest_80 kX12_684 rfl sh_164 (by decide) (by decide) h (fun m80 hG h => ?_)
          refine mm_aload_n (j := 1) dX12_qTest_83 rfl rfl ?_
          refine mm_kVV [] dX12_qTest_84 kX12_687 rfl sh_164 (by decide) (by decide) h (fun m84 hG h => ?_)
          refine mm_aload_n (j := 1) dX12_qTest_87 rfl rfl ?_
          refine mm_getI (ci := 12) (N := 116) dX12_qTest_88 fX12_260 sh_164 rfl ?_
          refine mm_if_ne (tgt := 105) dX12_qTest_91 (by decide) (fun hc => ?_) (fun hc => ?_)
          · rw [if_neg hc] at h
            refine mm_iconst (x := 0) dX12_qTest_105 rfl ?_
            refine mm_istore_n (lv' := [(1, .int 0), (2, .int z14), (0, .ref 164)]) dX12_qTest_106 rfl (by decide) rfl ?_
            refine mm_goto (tgt := 2) dX12_qTest_107 (by decide) ?_
            exact mm_sub [2, 0] rfl h
          · rw [if_pos hc] at h
            refine mm_aload_n (j := 1) dX12_qTest_94 rfl rfl ?_
            refine mm_kVI [] dX12_qTest_95 kX12_690 rfl sh_164 (by decide) (by decide) h (fun z95 m95 hG h => ?_)
            refine mm_if_eq (tgt := 105) dX12_qTest_98 (by decide) (fun hc => ?_) (fun hc => ?_)
            · rw [if_pos hc] at h
              refine mm_iconst (x := 0) dX12_qTest_105 rfl ?_
              refine mm_istore_n (lv' := [(1, .int 0), (2, .int z14), (0, .ref 164)]) dX12_qTest_106 rfl (by decide) rfl ?_
              refine mm_goto (tgt := 2) dX12_qTest_107 (by decide) ?_
              exact mm_sub [2, 0] rfl h
            · rw [if_neg hc] at h
              refine mm_iconst (x := 1) dX12_qTest_101 rfl ?_
              refine mm_goto (tgt := 106) dX12_qTest_102 (by decide) ?_
              refine mm_istore_n (lv' := [(1, .int 1), (2, .int z14), (0, .ref 164)]) dX12_qTest_106 rfl (by decide) rfl ?_
              refine mm_goto (tgt := 2) dX12_qTest_107 (by decide) ?_
              exact mm_sub [2, 0] rfl h
        · rw [if_neg hc] at h
          refine mm_aload_n (j := 1) dX12_qTest_58 rfl rfl ?_
          refine mm_bipush (x := 12) dX12_qTest_59 rfl ?_
          refine mm_aload_n (j := 1) dX12_qTest_61 rfl rfl ?_
          refine mm_getI (ci := 12) (N := 116) dX12_qTest_62 fX12_266 sh_164 rfl ?_
          refine mm_kVV [.int 12, .int (m52.1 164 2)] dX12_qTest_65 kX12_660 rfl sh_164 (by decide) (by decide) h (fun m65 hG h => ?_)
          refine mm_aload_n (j := 1) dX12_qTest_68 rfl rfl ?_
          refine mm_aload_n (j := 1) dX12_qTest_69 rfl rfl ?_
          refine mm_getR (ci := 12) (N := 116) (r := 223) dX12_qTest_70 fX12_195 sh_164 rfl (g_164_88 hG) ?_
          refine mm_kVV [.ref 223] dX12_qTest_73 kX12_325 rfl sh_164 (by decide) (by decide) h (fun m73 hG h => ?_)
          refine mm_goto (tgt := 2) dX12_qTest_76 (by decide) ?_
          exact mm_sub [1, 2] rfl h
      · rw [if_pos hc] at h
        refine mm_aload_n (j := 1) dX12_qTest_24 rfl rfl ?_
        refine mm_bipush (x := 25) dX12_qTest_25 rfl ?_
        refine mm_aload_n (j := 1) dX12_qTest_27 rfl rfl ?_
        refine mm_getI (ci := 12) (N := 116) dX12_qTest_28 fX12_266 sh_164 rfl ?_
        refine mm_kVV [.int 25, .int (m14.1 164 2)] dX12_qTest_31 kX12_660 rfl sh_164 (by decide) (by decide) h (fun m31 hG h => ?_)
        refine mm_aload_n (j := 1) dX12_qTest_34 rfl rfl ?_
        refine mm_dup dX12_qTest_35 rfl ?_
        refine mm_getI (ci := 12) (N := 116) dX12_qTest_36 fX12_266 sh_164 rfl ?_
        refine mm_iconst (x := 1) dX12_qTest_39 rfl ?_
        refine mm_iadd dX12_qTest_40 ?_
        refine mm_putI (ci := 12) (N := 116) dX12_qTest_41 fX12_266 sh_164 (by decide +kernel) rfl rfl rfl ?_
        refine mm_goto (tgt := 2) dX12_qTest_44 (by decide) ?_
        exact mm_sub [1, 2] rfl h
set_option maxRecDepth 100000 in
set_option maxHeartbeats 4000000 in
theorem lX12_qTest_110 {d : Nat} {M : mm_M} {K : mm_M → Prop} (hG : mm_G M.2.2) (h : if (M.1 164 5) = 0 then (if (M.1 164 107) ≤ 0 then (K M) else (mm_CV mX12_qDrops d [.ref 164] M (fun m125 => jX12_qTest_110 d m125 K))) else (K M)) : jX12_qTest_110 d  M K  := by
  unfold jX12_qTest_110
  refine mm_aload_n (j := 0) dX12_qTest_110 rfl rfl ?_
  refine mm_getI (ci := 12) (N := 116) dX12_qTest_111 fX12_260 sh_164 rfl ?_
  refine mm_if_ne (tgt := 131) dX12_qTest_114 (by decide) (fun hc => ?_) (fun hc => ?_)
  · rw [if_neg hc] at h
    exact mm_vret dX12_qTest_131 rfl (Nat.le_refl 0) (Nat.le_refl 0) ⟨rfl, rfl, hG, h⟩
  · rw [if_pos hc] at h
    refine mm_aload_n (j := 0) dX12_qTest_117 rfl rfl ?_
    refine mm_getI (ci := 12) (N := 116) dX12_qTest_118 fX12_357 sh_164 rfl ?_
    refine mm_if_le (tgt := 131) dX12_qTest_121 (by decide) (fun hc => ?_) (fun hc => ?_)
    · rw [if_pos hc] at h
      exact mm_vret dX12_qTest_131 rfl (Nat.le_refl 0) (Nat.le_refl 0) ⟨rfl, rfl, hG, h⟩
    · rw [if_neg hc] at h
      refine mm_aload_n (j := 0) dX12_qTest_124 rfl rfl ?_
      refine mm_kVV [] dX12_qTest_125 kX12_648 rfl sh_164 (by decide) (by decide) h (fun m125 hG h => ?_)
      refine mm_goto (tgt := 110) dX12_qTest_128 (by decide) ?_
      exact h
def jX12_qGoesOnTest_76 (d : Nat) (M : mm_M) (K : Int32 → mm_M → Prop) : Prop := mm_W mX12_qGoesOnTest (d + 1) 0 0 76 [(0, .ref 164)] [] mm_SH M 0 0 (mm_PI K)
def jX12_qGoesOnTest_33 (d : Nat) (M : mm_M) (K : Int32 → mm_M → Prop) : Prop := mm_W mX12_qGoesOnTest (d + 1) 0 0 33 [(0, .ref 164)] [] mm_SH M 0 0 (mm_PI K)
def jX12_qGoesOnTest_137 (d : Nat) (M : mm_M) (K : Int32 → mm_M → Prop) : Prop := mm_W mX12_qGoesOnTest (d + 1) 0 0 137 [(0, .ref 164)] [] mm_SH M 0 0 (mm_PI K)
def jX12_qGoesOnTest_87 (d : Nat) (M : mm_M) (K : Int32 → mm_M → Prop) : Prop := mm_W mX12_qGoesOnTest (d + 1) 0 0 87 [(0, .ref 164)] [] mm_SH M 0 0 (mm_PI K)
def jX12_qGoesOnTest_0 (d : Nat) (M : mm_M) (K : Int32 → mm_M → Prop) : Prop := mm_W mX12_qGoesOnTest (d + 1) 0 0 0 [(0, .ref 164)] [] mm_SH M 0 0 (mm_PI K)
set_option maxRecDepth 100000 in
set_option maxHeartbeats 4000000 in
theorem rX12_qGoesOnTest {d : Nat} {M : mm_M} {K : Int32 → mm_M → Prop} (hG : mm_G M.2.2) (h : if (M.1 164 5) = 0 then (mm_CI mX12_look d [.ref 164] M (fun z8 m8 => if z8 = 93 then (mm_CI mX12_qHasSquare d [.ref 164] m8 (fun z17 m17 => if z17 = 0 then (jX12_qGoesOnTest_76 d m17 K) else (jX12_qGoesOnTest_33 d (mm_uI m17 164 2 ((m17.1 164 2) + 1)) K))) else (jX12_qGoesOnTest_76 d m8 K))) else (jX12_qGoesOnTest_76 d M K)) : mm_CI mX12_qGoesOnTest (d + 1) [.ref 164] M K := by
  show mm_W mX12_qGoesOnTest (d + 1) 0 0 0 [(0, .ref 164)] [] mm_SH M 0 0 (mm_PI K)
  refine mm_aload_n (j := 0) dX12_qGoesOnTest_0 rfl rfl ?_
  refine mm_getI (ci := 12) (N := 116) dX12_qGoesOnTest_1 fX12_260 sh_164 rfl ?_
  refine mm_if_ne (tgt := 76) dX12_qGoesOnTest_4 (by decide) (fun hc => ?_) (fun hc => ?_)
  · rw [if_neg hc] at h
    exact h
  · rw [if_pos hc] at h
    refine mm_aload_n (j := 0) dX12_qGoesOnTest_7 rfl rfl ?_
    refine mm_kVI [] dX12_qGoesOnTest_8 kX12_272 rfl sh_164 (by decide) (by decide) h (fun z8 m8 hG h => ?_)
    refine mm_bipush (x := 93) dX12_qGoesOnTest_11 rfl ?_
    refine mm_icmp_ne (tgt := 76) dX12_qGoesOnTest_13 (by decide) (fun hc => ?_) (fun hc => ?_)
    · rw [if_neg hc] at h
      exact h
    · rw [if_pos hc] at h
      refine mm_aload_n (j := 0) dX12_qGoesOnTest_16 rfl rfl ?_
      refine mm_kVI [] dX12_qGoesOnTest_17 kX12_693 rfl sh_164 (by decide) (by decide) h (fun z17 m17 hG h => ?_)
      refine mm_if_eq (tgt := 76) dX12_qGoesOnTest_20 (by decide) (fun hc => ?_) (fun hc => ?_)
      · rw [if_pos hc] at h
        exact h
      · rw [if_neg hc] at h
        refine mm_aload_n (j := 0) dX12_qGoesOnTest_23 rfl rfl ?_
        refine mm_dup dX12_qGoesOnTest_24 rfl ?_
        refine mm_getI (ci := 12) (N := 116) dX12_qGoesOnTest_25 fX12_266 sh_164 rfl ?_
        refine mm_iconst (x := 1) dX12_qGoesOnTest_28 rfl ?_
        refine mm_iadd dX12_qGoesOnTest_29 ?_
        refine mm_putI (ci := 12) (N := 116) dX12_qGoesOnTest_30 fX12_266 sh_164 (by decide +kernel) rfl rfl rfl ?_
        exact h
set_option maxRecDepth 100000 in
set_option maxHeartbeats 4000000 in
theorem lX12_qGoesOnTest_76 {d : Nat} {M : mm_M} {K : Int32 → mm_M → Prop} (hG : mm_G M.2.2) (h : mm_CI mX12_takes d [.ref 164, .ref 224] M (fun z81 m81 => if z81 = 0 then (mm_CI mX12_takes d [.ref 164, .ref 225] m81 (fun z131 m131 => if z131 = 0 then (if (m131.1 164 5) = 0 then (mm_CI mX12_qHasSquare d [.ref 164] m131 (fun z193 m193 => if z193 = 0 then (K 0 m193) else (mm_CV mX12_fail d [.ref 164, .int 1, .int (m193.1 164 2)] m193 (fun m205 => K 0 m205)))) else (K 0 m131)) else (jX12_qGoesOnTest_137 d m131 K))) else (jX12_qGoesOnTest_87 d m81 K))) : jX12_qGoesOnTest_76 d  M K  := by
  unfold jX12_qGoesOnTest_76
  refine mm_aload_n (j := 0) dX12_qGoesOnTest_76 rfl rfl ?_
  refine mm_aload_n (j := 0) dX12_qGoesOnTest_77 rfl rfl ?_
  refine mm_getR (ci := 12) (N := 116) (r := 224) dX12_qGoesOnTest_78 fX12_198 sh_164 rfl (g_164_89 hG) ?_
  refine mm_kVI [.ref 224] dX12_qGoesOnTest_81 kX12_287 rfl sh_164 (by decide) (by decide) h (fun z81 m81 hG h => ?_)
  refine mm_if_eq (tgt := 126) dX12_qGoesOnTest_84 (by decide) (fun hc => ?_) (fun hc => ?_)
  · rw [if_pos hc] at h
    refine mm_aload_n (j := 0) dX12_qGoesOnTest_126 rfl rfl ?_
    refine mm_aload_n (j := 0) dX12_qGoesOnTest_127 rfl rfl ?_
    refine mm_getR (ci := 12) (N := 116) (r := 225) dX12_qGoesOnTest_128 fX12_201 sh_164 rfl (g_164_90 hG) ?_
    refine mm_kVI [.ref 225] dX12_qGoesOnTest_131 kX12_287 rfl sh_164 (by decide) (by decide) h (fun z131 m131 hG h => ?_)
    refine mm_if_eq (tgt := 185) dX12_qGoesOnTest_134 (by decide) (fun hc => ?_) (fun hc => ?_)
    · rw [if_pos hc] at h
      refine mm_aload_n (j := 0) dX12_qGoesOnTest_185 rfl rfl ?_
      refine mm_getI (ci := 12) (N := 116) dX12_qGoesOnTest_186 fX12_260 sh_164 rfl ?_
      refine mm_if_ne (tgt := 208) dX12_qGoesOnTest_189 (by decide) (fun hc => ?_) (fun hc => ?_)
      · rw [if_neg hc] at h
        refine mm_iconst (x := 0) dX12_qGoesOnTest_208 rfl ?_
        exact mm_zret dX12_qGoesOnTest_209 rfl rfl (Nat.le_refl 0) (Nat.le_refl 0) ⟨_, rfl, rfl, hG, h⟩
      · rw [if_pos hc] at h
        refine mm_aload_n (j := 0) dX12_qGoesOnTest_192 rfl rfl ?_
        refine mm_kVI [] dX12_qGoesOnTest_193 kX12_693 rfl sh_164 (by decide) (by decide) h (fun z193 m193 hG h => ?_)
        refine mm_if_eq (tgt := 208) dX12_qGoesOnTest_196 (by decide) (fun hc => ?_) (fun hc => ?_)
        · rw [if_pos hc] at h
          refine mm_iconst (x := 0) dX12_qGoesOnTest_208 rfl ?_
          exact mm_zret dX12_qGoesOnTest_209 rfl rfl (Nat.le_refl 0) (Nat.le_refl 0) ⟨_, rfl, rfl, hG, h⟩
        · rw [if_neg hc] at h
          refine mm_aload_n (j := 0) dX12_qGoesOnTest_199 rfl rfl ?_
          refine mm_iconst (x := 1) dX12_qGoesOnTest_200 rfl ?_
          refine mm_aload_n (j := 0) dX12_qGoesOnTest_201 rfl rfl ?_
          refine mm_getI (ci := 12) (N := 116) dX12_qGoesOnTest_202 fX12_266 sh_164 rfl ?_
          refine mm_kVV [.int 1, .int (m193.1 164 2)] dX12_qGoesOnTest_205 kX12_290 rfl sh_164 (by decide) (by decide) h (fun m205 hG h => ?_)
          refine mm_iconst (x := 0) dX12_qGoesOnTest_208 rfl ?_
          exact mm_zret dX12_qGoesOnTest_209 rfl rfl (Nat.le_refl 0) (Nat.le_refl 0) ⟨_, rfl, rfl, hG, h⟩
    · rw [if_neg hc] at h
      exact h
  · rw [if_neg hc] at h
    exact h
set_option maxRecDepth 100000 in
set_option maxHeartbeats 4000000 in
theorem lX12_qGoesOnTest_33 {d : Nat} {M : mm_M} {K : Int32 → mm_M → Prop} (hG : mm_G M.2.2) (h : mm_CI mX12_qIsOn d [.ref 164, .int 25] M (fun z36 m36 => if z36 = 0 then (mm_CV mX12_qDrops d [.ref 164] m36 (fun m43 => jX12_qGoesOnTest_33 d m43 K)) else (mm_CV mX12_qDropsNots d [.ref 164] (mm_uI (mm_uI m36 164 107 ((m36.1 164 107) - 1)) 164 108 (((mm_uI m36 164 107 ((m36.1 164 107) - 1)).1 164 108) - 1)) (fun m70 => jX12_qGoesOnTest_0 d m70 K)))) : jX12_qGoesOnTest_33 d  M K  := by
  unfold jX12_qGoesOnTest_33
  refine mm_aload_n (j := 0) dX12_qGoesOnTest_33 rfl rfl ?_
  refine mm_bipush (x := 25) dX12_qGoesOnTest_34 rfl ?_
  refine mm_kVI [.int 25] dX12_qGoesOnTest_36 kX12_675 rfl sh_164 (by decide) (by decide) h (fun z36 m36 hG h => ?_)
  refine mm_if_ne (tgt := 49) dX12_qGoesOnTest_39 (by decide) (fun hc => ?_) (fun hc => ?_)
  · rw [if_neg hc] at h
    refine mm_aload_n (j := 0) dX12_qGoesOnTest_49 rfl rfl ?_
    refine mm_dup dX12_qGoesOnTest_50 rfl ?_
    refine mm_getI (ci := 12) (N := 116) dX12_qGoesOnTest_51 fX12_357 sh_164 rfl ?_
    refine mm_iconst (x := 1) dX12_qGoesOnTest_54 rfl ?_
    refine mm_isub dX12_qGoesOnTest_55 ?_
    refine mm_putI (ci := 12) (N := 116) dX12_qGoesOnTest_56 fX12_357 sh_164 (by decide +kernel) rfl rfl rfl ?_
    refine mm_aload_n (j := 0) dX12_qGoesOnTest_59 rfl rfl ?_
    refine mm_dup dX12_qGoesOnTest_60 rfl ?_
    refine mm_getI (ci := 12) (N := 116) dX12_qGoesOnTest_61 fX12_360 sh_164 rfl ?_
    refine mm_iconst (x := 1) dX12_qGoesOnTest_64 rfl ?_
    refine mm_isub dX12_qGoesOnTest_65 ?_
    refine mm_putI (ci := 12) (N := 116) dX12_qGoesOnTest_66 fX12_360 sh_164 (by decide +kernel) rfl rfl rfl ?_
    refine mm_aload_n (j := 0) dX12_qGoesOnTest_69 rfl rfl ?_
    refine mm_kVV [] dX12_qGoesOnTest_70 kX12_687 rfl sh_164 (by decide) (by decide) h (fun m70 hG h => ?_)
    refine mm_goto (tgt := 0) dX12_qGoesOnTest_73 (by decide) ?_
    exact h
  · rw [if_pos hc] at h
    refine mm_aload_n (j := 0) dX12_qGoesOnTest_42 rfl rfl ?_
    refine mm_kVV [] dX12_qGoesOnTest_43 kX12_648 rfl sh_164 (by decide) (by decide) h (fun m43 hG h => ?_)
    refine mm_goto (tgt := 33) dX12_qGoesOnTest_46 (by decide) ?_
    exact h
set_option maxRecDepth 100000 in
set_option maxHeartbeats 4000000 in
theorem lX12_qGoesOnTest_137 {d : Nat} {M : mm_M} {K : Int32 → mm_M → Prop} (hG : mm_G M.2.2) (h : mm_CI mX12_qIsOn d [.ref 164, .int 10] M (fun z140 m140 => if z140 = 0 then (mm_CI mX12_qIsOn d [.ref 164, .int 11] m140 (fun z149 m149 => if z149 = 0 then (vp_in (m149.1 164 107) 1700 ∧ K 1 (mm_uI (mm_uI m149 240 (m149.1 164 107).toNatClampNeg 11) 164 107 (((mm_uI m149 240 (m149.1 164 107).toNatClampNeg 11).1 164 107) + 1))) else (mm_CV mX12_qDrops d [.ref 164] m149 (fun m156 => jX12_qGoesOnTest_137 d m156 K)))) else (mm_CV mX12_qDrops d [.ref 164] m140 (fun m156 => jX12_qGoesOnTest_137 d m156 K)))) : jX12_qGoesOnTest_137 d  M K  := by
  unfold jX12_qGoesOnTest_137
  refine mm_aload_n (j := 0) dX12_qGoesOnTest_137 rfl rfl ?_
  refine mm_bipush (x := 10) dX12_qGoesOnTest_138 rfl ?_
  refine mm_kVI [.int 10] dX12_qGoesOnTest_140 kX12_675 rfl sh_164 (by decide) (by decide) h (fun z140 m140 hG h => ?_)
  refine mm_if_ne (tgt := 155) dX12_qGoesOnTest_143 (by decide) (fun hc => ?_) (fun hc => ?_)
  · rw [if_neg hc] at h
    refine mm_aload_n (j := 0) dX12_qGoesOnTest_155 rfl rfl ?_
    refine mm_kVV [] dX12_qGoesOnTest_156 kX12_648 rfl sh_164 (by decide) (by decide) h (fun m156 hG h => ?_)
    refine mm_goto (tgt := 137) dX12_qGoesOnTest_159 (by decide) ?_
    exact h
  · rw [if_pos hc] at h
    refine mm_aload_n (j := 0) dX12_qGoesOnTest_146 rfl rfl ?_
    refine mm_bipush (x := 11) dX12_qGoesOnTest_147 rfl ?_
    refine mm_kVI [.int 11] dX12_qGoesOnTest_149 kX12_675 rfl sh_164 (by decide) (by decide) h (fun z149 m149 hG h => ?_)
    refine mm_if_eq (tgt := 162) dX12_qGoesOnTest_152 (by decide) (fun hc => ?_) (fun hc => ?_)
    · rw [if_pos hc] at h
      refine mm_aload_n (j := 0) dX12_qGoesOnTest_162 rfl rfl ?_
      refine mm_getR (ci := 12) (N := 116) (r := 240) dX12_qGoesOnTest_163 fX12_246 sh_164 rfl (g_164_106 hG) ?_
      refine mm_aload_n (j := 0) dX12_qGoesOnTest_166 rfl rfl ?_
      refine mm_getI (ci := 12) (N := 116) dX12_qGoesOnTest_167 fX12_357 sh_164 rfl ?_
      refine mm_bipush (x := 11) dX12_qGoesOnTest_170 rfl ?_
      obtain ⟨hi172, h⟩ := h
      refine mm_iastore (N := 1700) dX12_qGoesOnTest_172 sh_240 hi172 ?_
      refine mm_aload_n (j := 0) dX12_qGoesOnTest_173 rfl rfl ?_
      refine mm_dup dX12_qGoesOnTest_174 rfl ?_
      refine mm_getI (ci := 12) (N := 116) dX12_qGoesOnTest_175 fX12_357 sh_164 rfl ?_
      refine mm_iconst (x := 1) dX12_qGoesOnTest_178 rfl ?_
      refine mm_iadd dX12_qGoesOnTest_179 ?_
      refine mm_putI (ci := 12) (N := 116) dX12_qGoesOnTest_180 fX12_357 sh_164 (by decide +kernel) rfl rfl rfl ?_
      refine mm_iconst (x := 1) dX12_qGoesOnTest_183 rfl ?_
      exact mm_zret dX12_qGoesOnTest_184 rfl rfl (Nat.le_refl 0) (Nat.le_refl 0) ⟨_, rfl, rfl, hG, h⟩
    · rw [if_neg hc] at h
      refine mm_aload_n (j := 0) dX12_qGoesOnTest_155 rfl rfl ?_
      refine mm_kVV [] dX12_qGoesOnTest_156 kX12_648 rfl sh_164 (by decide) (by decide) h (fun m156 hG h => ?_)
      refine mm_goto (tgt := 137) dX12_qGoesOnTest_159 (by decide) ?_
      exact h
set_option maxRecDepth 100000 in
set_option maxHeartbeats 4000000 in
theorem lX12_qGoesOnTest_87 {d : Nat} {M : mm_M} {K : Int32 → mm_M → Prop} (hG : mm_G M.2.2) (h : mm_CI mX12_qIsOn d [.ref 164, .int 10] M (fun z90 m90 => if z90 = 0 then (vp_in (m90.1 164 107) 1700 ∧ K 1 (mm_uI (mm_uI m90 240 (m90.1 164 107).toNatClampNeg 10) 164 107 (((mm_uI m90 240 (m90.1 164 107).toNatClampNeg 10).1 164 107) + 1))) else (mm_CV mX12_qDrops d [.ref 164] m90 (fun m97 => jX12_qGoesOnTest_87 d m97 K)))) : jX12_qGoesOnTest_87 d  M K  := by
  unfold jX12_qGoesOnTest_87
  refine mm_aload_n (j := 0) dX12_qGoesOnTest_87 rfl rfl ?_
  refine mm_bipush (x := 10) dX12_qGoesOnTest_88 rfl ?_
  refine mm_kVI [.int 10] dX12_qGoesOnTest_90 kX12_675 rfl sh_164 (by decide) (by decide) h (fun z90 m90 hG h => ?_)
  refine mm_if_eq (tgt := 103) dX12_qGoesOnTest_93 (by decide) (fun hc => ?_) (fun hc => ?_)
  · rw [if_pos hc] at h
    refine mm_aload_n (j := 0) dX12_qGoesOnTest_103 rfl rfl ?_
    refine mm_getR (ci := 12) (N := 116) (r := 240) dX12_qGoesOnTest_104 fX12_246 sh_164 rfl (g_164_106 hG) ?_
    refine mm_aload_n (j := 0) dX12_qGoesOnTest_107 rfl rfl ?_
    refine mm_getI (ci := 12) (N := 116) dX12_qGoesOnTest_108 fX12_357 sh_164 rfl ?_
    refine mm_bipush (x := 10) dX12_qGoesOnTest_111 rfl ?_
    obtain ⟨hi113, h⟩ := h
    refine mm_iastore (N := 1700) dX12_qGoesOnTest_113 sh_240 hi113 ?_
    refine mm_aload_n (j := 0) dX12_qGoesOnTest_114 rfl rfl ?_
    refine mm_dup dX12_qGoesOnTest_115 rfl ?_
    refine mm_getI (ci := 12) (N := 116) dX12_qGoesOnTest_116 fX12_357 sh_164 rfl ?_
    refine mm_iconst (x := 1) dX12_qGoesOnTest_119 rfl ?_
    refine mm_iadd dX12_qGoesOnTest_120 ?_
    refine mm_putI (ci := 12) (N := 116) dX12_qGoesOnTest_121 fX12_357 sh_164 (by decide +kernel) rfl rfl rfl ?_
    refine mm_iconst (x := 1) dX12_qGoesOnTest_124 rfl ?_
    exact mm_zret dX12_qGoesOnTest_125 rfl rfl (Nat.le_refl 0) (Nat.le_refl 0) ⟨_, rfl, rfl, hG, h⟩
  · rw [if_neg hc] at h
    refine mm_aload_n (j := 0) dX12_qGoesOnTest_96 rfl rfl ?_
    refine mm_kVV [] dX12_qGoesOnTest_97 kX12_648 rfl sh_164 (by decide) (by decide) h (fun m97 hG h => ?_)
    refine mm_goto (tgt := 87) dX12_qGoesOnTest_100 (by decide) ?_
    exact h
set_option maxRecDepth 100000 in
set_option maxHeartbeats 4000000 in
theorem lX12_qGoesOnTest_0 {d : Nat} {M : mm_M} {K : Int32 → mm_M → Prop} (hG : mm_G M.2.2) (h : if (M.1 164 5) = 0 then (mm_CI mX12_look d [.ref 164] M (fun z8 m8 => if z8 = 93 then (mm_CI mX12_qHasSquare d [.ref 164] m8 (fun z17 m17 => if z17 = 0 then (jX12_qGoesOnTest_76 d m17 K) else (jX12_qGoesOnTest_33 d (mm_uI m17 164 2 ((m17.1 164 2) + 1)) K))) else (jX12_qGoesOnTest_76 d m8 K))) else (jX12_qGoesOnTest_76 d M K)) : jX12_qGoesOnTest_0 d  M K  := by
  unfold jX12_qGoesOnTest_0
  refine mm_aload_n (j := 0) dX12_qGoesOnTest_0 rfl rfl ?_
  refine mm_getI (ci := 12) (N := 116) dX12_qGoesOnTest_1 fX12_260 sh_164 rfl ?_
  refine mm_if_ne (tgt := 76) dX12_qGoesOnTest_4 (by decide) (fun hc => ?_) (fun hc => ?_)
  · rw [if_neg hc] at h
    exact h
  · rw [if_pos hc] at h
    refine mm_aload_n (j := 0) dX12_qGoesOnTest_7 rfl rfl ?_
    refine mm_kVI [] dX12_qGoesOnTest_8 kX12_272 rfl sh_164 (by decide) (by decide) h (fun z8 m8 hG h => ?_)
    refine mm_bipush (x := 93) dX12_qGoesOnTest_11 rfl ?_
    refine mm_icmp_ne (tgt := 76) dX12_qGoesOnTest_13 (by decide) (fun hc => ?_) (fun hc => ?_)
    · rw [if_neg hc] at h
      exact h
    · rw [if_pos hc] at h
      refine mm_aload_n (j := 0) dX12_qGoesOnTest_16 rfl rfl ?_
      refine mm_kVI [] dX12_qGoesOnTest_17 kX12_693 rfl sh_164 (by decide) (by decide) h (fun z17 m17 hG h => ?_)
      refine mm_if_eq (tgt := 76) dX12_qGoesOnTest_20 (by decide) (fun hc => ?_) (fun hc => ?_)
      · rw [if_pos hc] at h
        exact h
      · rw [if_neg hc] at h
        refine mm_aload_n (j := 0) dX12_qGoesOnTest_23 rfl rfl ?_
        refine mm_dup dX12_qGoesOnTest_24 rfl ?_
        refine mm_getI (ci := 12) (N := 116) dX12_qGoesOnTest_25 fX12_266 sh_164 rfl ?_
        refine mm_iconst (x := 1) dX12_qGoesOnTest_28 rfl ?_
        refine mm_iadd dX12_qGoesOnTest_29 ?_
        refine mm_putI (ci := 12) (N := 116) dX12_qGoesOnTest_30 fX12_266 sh_164 (by decide +kernel) rfl rfl rfl ?_
        exact h
set_option maxRecDepth 100000 in
set_option maxHeartbeats 4000000 in
theorem rX12_qClip {d : Nat} {x0 : Int64} {M : mm_M} {K : Int64 → mm_M → Prop} (hG : mm_G M.2.2) (h : if x0 ≤ 1000000 then (if (-1000000) ≤ x0 then (K x0 M) else (K (-1000000) M)) else (K 1000000 M)) : mm_CL mX12_qClip d [.long x0] M K := by
  show mm_W mX12_qClip d 0 0 0 [(0, .long x0)] [] mm_SH M 0 0 (mm_PL K)
  refine mm_lload_n (j := 0) dX12_qClip_0 rfl rfl ?_
  refine mm_ldc2 (x := 1000000) dX12_qClip_1 cX12_696 ?_
  refine mm_lcmp dX12_qClip_4 ?_
  refine mm_if_le (tgt := 14) dX12_qClip_5 (by decide) (fun hc => ?_) (fun hc => ?_)
  · rw [if_pos (lgc_le.mp hc)] at h
    refine mm_lload_n (j := 0) dX12_qClip_14 rfl rfl ?_
    refine mm_ldc2 (x := (-1000000)) dX12_qClip_15 cX12_698 ?_
    refine mm_lcmp dX12_qClip_18 ?_
    refine mm_if_ge (tgt := 28) dX12_qClip_19 (by decide) (fun hc => ?_) (fun hc => ?_)
    · rw [if_pos (lgc_ge.mp hc)] at h
      refine mm_lload_n (j := 0) dX12_qClip_28 rfl rfl ?_
      exact mm_lret dX12_qClip_29 rfl (Nat.le_refl 0) (Nat.le_refl 0) ⟨_, rfl, rfl, hG, h⟩
    · rw [if_neg (fun q => hc (lgc_ge.mpr q))] at h
      refine mm_ldc2 (x := (-1000000)) dX12_qClip_22 cX12_698 ?_
      refine mm_goto (tgt := 29) dX12_qClip_25 (by decide) ?_
      exact mm_lret dX12_qClip_29 rfl (Nat.le_refl 0) (Nat.le_refl 0) ⟨_, rfl, rfl, hG, h⟩
  · rw [if_neg (fun q => hc (lgc_le.mpr q))] at h
    refine mm_ldc2 (x := 1000000) dX12_qClip_8 cX12_696 ?_
    refine mm_goto (tgt := 29) dX12_qClip_11 (by decide) ?_
    exact mm_lret dX12_qClip_29 rfl (Nat.le_refl 0) (Nat.le_refl 0) ⟨_, rfl, rfl, hG, h⟩
def jX12_qFloor_32 (d : Nat) (x0 : Int64) (x2 : Int64) (M : mm_M) (K : Int64 → mm_M → Prop) (y2 : Int64) (y4 : Int64) (u0 : Int32) : Prop := mm_W mX12_qFloor d 0 0 32 [(2, .long y2), (4, .long y4)] [.int u0] mm_SH M 0 0 (mm_PL K)
set_option maxRecDepth 100000 in
set_option maxHeartbeats 4000000 in
theorem rX12_qFloor {d : Nat} {x0 : Int64} {x2 : Int64} {M : mm_M} {K : Int64 → mm_M → Prop} (hG : mm_G M.2.2) (h : if x2 = 0 then (K 0 M) else (¬ x2 = 0 ∧ ¬ x2 = 0 ∧ if (x0 - x0 / x2 * x2) = 0 then (K (x0 / x2) M) else (if 0 ≤ x0 then (jX12_qFloor_32 d x0 x2 M K x2 (x0 / x2) 0) else (jX12_qFloor_32 d x0 x2 M K x2 (x0 / x2) 1)))) : mm_CL mX12_qFloor d [.long x0, .long x2] M K := by
  show mm_W mX12_qFloor d 0 0 0 [(0, .long x0), (2, .long x2)] [] mm_SH M 0 0 (mm_PL K)
  refine mm_lload_n (j := 1) dX12_qFloor_0 rfl rfl ?_
  refine mm_lconst (x := 0) dX12_qFloor_1 rfl ?_
  refine mm_lcmp dX12_qFloor_2 ?_
  refine mm_if_ne (tgt := 8) dX12_qFloor_3 (by decide) (fun hc => ?_) (fun hc => ?_)
  · rw [if_neg (fun q => hc (lgc_eq.mpr q))] at h
    refine mm_lload_n (j := 0) dX12_qFloor_8 rfl rfl ?_
    refine mm_lload_n (j := 1) dX12_qFloor_9 rfl rfl ?_
    obtain ⟨hz10, h⟩ := h
    refine mm_ldiv dX12_qFloor_10 hz10 ?_
    refine mm_lstore (lv' := [(4, .long (x0 / x2)), (0, .long x0), (2, .long x2)]) dX12_qFloor_11 (by decide) rfl ?_
    refine mm_lload_n (j := 1) dX12_qFloor_13 rfl rfl ?_
    refine mm_lload_n (j := 2) dX12_qFloor_14 rfl rfl ?_
    obtain ⟨hz15, h⟩ := h
    refine mm_lrem dX12_qFloor_15 hz15 ?_
    refine mm_lconst (x := 0) dX12_qFloor_16 rfl ?_
    refine mm_lcmp dX12_qFloor_17 ?_
    refine mm_if_eq (tgt := 53) dX12_qFloor_18 (by decide) (fun hc => ?_) (fun hc => ?_)
    · rw [if_pos (lgc_eq.mp hc)] at h
      refine mm_lload (j := 0) dX12_qFloor_53 rfl ?_
      exact mm_lret dX12_qFloor_55 rfl (Nat.le_refl 0) (Nat.le_refl 0) ⟨_, rfl, rfl, hG, h⟩
    · rw [if_neg (fun q => hc (lgc_eq.mpr q))] at h
      refine mm_lload_n (j := 1) dX12_qFloor_21 rfl rfl ?_
      refine mm_lconst (x := 0) dX12_qFloor_22 rfl ?_
      refine mm_lcmp dX12_qFloor_23 ?_
      refine mm_if_ge (tgt := 31) dX12_qFloor_24 (by decide) (fun hc => ?_) (fun hc => ?_)
      · rw [if_pos (lgc_ge.mp hc)] at h
        refine mm_iconst (x := 0) dX12_qFloor_31 rfl ?_
        exact mm_sub [2, 0] rfl h
      · rw [if_neg (fun q => hc (lgc_ge.mpr q))] at h
        refine mm_iconst (x := 1) dX12_qFloor_27 rfl ?_
        refine mm_goto (tgt := 32) dX12_qFloor_28 (by decide) ?_
        exact mm_sub [2, 0] rfl h
  · rw [if_pos (lgc_eq.mp hc)] at h
    refine mm_lconst (x := 0) dX12_qFloor_6 rfl ?_
    exact mm_lret dX12_qFloor_7 rfl (Nat.le_refl 0) (Nat.le_refl 0) ⟨_, rfl, rfl, hG, h⟩
set_option maxRecDepth 100000 in
set_option maxHeartbeats 4000000 in
theorem lX12_qFloor_32 {d : Nat} {x0 : Int64} {x2 : Int64} {M : mm_M} {K : Int64 → mm_M → Prop} {y2 : Int64} {y4 : Int64} {u0 : Int32} (hG : mm_G M.2.2) (h : if 0 ≤ y2 then (if u0 = 0 then (K y4 M) else (K (y4 - 1) M)) else (if u0 = 1 then (K y4 M) else (K (y4 - 1) M))) : jX12_qFloor_32 d x0 x2 M K y2 y4 u0 := by
  unfold jX12_qFloor_32
  refine mm_lload_n (j := 0) dX12_qFloor_32 rfl rfl ?_
  refine mm_lconst (x := 0) dX12_qFloor_33 rfl ?_
  refine mm_lcmp dX12_qFloor_34 ?_
  refine mm_if_ge (tgt := 42) dX12_qFloor_35 (by decide) (fun hc => ?_) (fun hc => ?_)
  · rw [if_pos (lgc_ge.mp hc)] at h
    refine mm_iconst (x := 0) dX12_qFloor_42 rfl ?_
    refine mm_icmp_eq (tgt := 53) dX12_qFloor_43 (by decide) (fun hc => ?_) (fun hc => ?_)
    · rw [if_pos hc] at h
      refine mm_lload (j := 1) dX12_qFloor_53 rfl ?_
      exact mm_lret dX12_qFloor_55 rfl (Nat.le_refl 0) (Nat.le_refl 0) ⟨_, rfl, rfl, hG, h⟩
    · rw [if_neg hc] at h
      refine mm_lload (j := 1) dX12_qFloor_46 rfl ?_
      refine mm_lconst (x := 1) dX12_qFloor_48 rfl ?_
      refine mm_lsub dX12_qFloor_49 ?_
      refine mm_goto (tgt := 55) dX12_qFloor_50 (by decide) ?_
      exact mm_lret dX12_qFloor_55 rfl (Nat.le_refl 0) (Nat.le_refl 0) ⟨_, rfl, rfl, hG, h⟩
  · rw [if_neg (fun q => hc (lgc_ge.mpr q))] at h
    refine mm_iconst (x := 1) dX12_qFloor_38 rfl ?_
    refine mm_goto (tgt := 43) dX12_qFloor_39 (by decide) ?_
    refine mm_icmp_eq (tgt := 53) dX12_qFloor_43 (by decide) (fun hc => ?_) (fun hc => ?_)
    · rw [if_pos hc] at h
      refine mm_lload (j := 1) dX12_qFloor_53 rfl ?_
      exact mm_lret dX12_qFloor_55 rfl (Nat.le_refl 0) (Nat.le_refl 0) ⟨_, rfl, rfl, hG, h⟩
    · rw [if_neg hc] at h
      refine mm_lload (j := 1) dX12_qFloor_46 rfl ?_
      refine mm_lconst (x := 1) dX12_qFloor_48 rfl ?_
      refine mm_lsub dX12_qFloor_49 ?_
      refine mm_goto (tgt := 55) dX12_qFloor_50 (by decide) ?_
      exact mm_lret dX12_qFloor_55 rfl (Nat.le_refl 0) (Nat.le_refl 0) ⟨_, rfl, rfl, hG, h⟩
set_option maxRecDepth 100000 in
set_option maxHeartbeats 4000000 in
theorem rX12_qPuts {d : Nat} {x1 : Int64} {M : mm_M} {K : mm_M → Prop} (hG : mm_G M.2.2) (h : vp_in (M.1 164 111) 1700 ∧ K (mm_uI (mm_uL M 241 (M.1 164 111).toNatClampNeg x1) 164 111 (((mm_uL M 241 (M.1 164 111).toNatClampNeg x1).1 164 111) + 1))) : mm_CV mX12_qPuts d [.ref 164, .long x1] M K := by
  show mm_W mX12_qPuts d 0 0 0 [(0, .ref 164), (1, .long x1)] [] mm_SH M 0 0 (mm_PV K)
  refine mm_aload_n (j := 0) dX12_qPuts_0 rfl rfl ?_
  refine mm_getR (ci := 12) (N := 116) (r := 241) dX12_qPuts_1 fX12_249 sh_164 rfl (g_164_110 hG) ?_
  refine mm_aload_n (j := 0) dX12_qPuts_4 rfl rfl ?_
  refine mm_getI (ci := 12) (N := 116) dX12_qPuts_5 fX12_422 sh_164 rfl ?_
  refine mm_lload_n (j := 1) dX12_qPuts_8 rfl rfl ?_
  obtain ⟨hi9, h⟩ := h
  refine mm_lastore (N := 1700) dX12_qPuts_9 sh_241 hi9 ?_
  refine mm_aload_n (j := 0) dX12_qPuts_10 rfl rfl ?_
  refine mm_dup dX12_qPuts_11 rfl ?_
  refine mm_getI (ci := 12) (N := 116) dX12_qPuts_12 fX12_422 sh_164 rfl ?_
  refine mm_iconst (x := 1) dX12_qPuts_15 rfl ?_
  refine mm_iadd dX12_qPuts_16 ?_
  refine mm_putI (ci := 12) (N := 116) dX12_qPuts_17 fX12_422 sh_164 (by decide +kernel) rfl rfl rfl ?_
  exact mm_vret dX12_qPuts_20 rfl (Nat.le_refl 0) (Nat.le_refl 0) ⟨rfl, rfl, hG, h⟩
set_option maxRecDepth 100000 in
set_option maxHeartbeats 4000000 in
theorem rX12_qJoins {d : Nat} {x1 : Int32} {M : mm_M} {K : mm_M → Prop} (hG : mm_G M.2.2) (h : vp_in ((M.1 164 111) - 1) 1700 ∧ vp_in ((M.1 164 111) - 2) 1700 ∧ if x1 = 1 then (mm_CL mX12_qClip d [.long ((M.2.1 241 ((M.1 164 111) - 2).toNatClampNeg) + (M.2.1 241 ((M.1 164 111) - 1).toNatClampNeg))] (mm_uI M 164 111 ((M.1 164 111) - 2)) (fun z97 m97 => mm_CV mX12_qPuts d [.ref 164, .long z97] m97 (fun m100 => K m100))) else (if x1 = 2 then (mm_CL mX12_qClip d [.long ((M.2.1 241 ((M.1 164 111) - 2).toNatClampNeg) - (M.2.1 241 ((M.1 164 111) - 1).toNatClampNeg))] (mm_uI M 164 111 ((M.1 164 111) - 2)) (fun z111 m111 => mm_CV mX12_qPuts d [.ref 164, .long z111] m111 (fun m114 => K m114))) else (if x1 = 3 then (mm_CL mX12_qClip d [.long ((M.2.1 241 ((M.1 164 111) - 2).toNatClampNeg) * (M.2.1 241 ((M.1 164 111) - 1).toNatClampNeg))] (mm_uI M 164 111 ((M.1 164 111) - 2)) (fun z125 m125 => mm_CV mX12_qPuts d [.ref 164, .long z125] m125 (fun m128 => K m128))) else (if x1 = 4 then (mm_CL mX12_qFloor d [.long (M.2.1 241 ((M.1 164 111) - 2).toNatClampNeg), .long (M.2.1 241 ((M.1 164 111) - 1).toNatClampNeg)] (mm_uI M 164 111 ((M.1 164 111) - 2)) (fun z138 m138 => mm_CV mX12_qPuts d [.ref 164, .long z138] m138 (fun m141 => K m141))) else (if x1 = 5 then (if (M.2.1 241 ((M.1 164 111) - 1).toNatClampNeg) ≤ (M.2.1 241 ((M.1 164 111) - 2).toNatClampNeg) then (mm_CV mX12_qPuts d [.ref 164, .long (M.2.1 241 ((M.1 164 111) - 1).toNatClampNeg)] (mm_uI M 164 111 ((M.1 164 111) - 2)) (fun m161 => K m161)) else (mm_CV mX12_qPuts d [.ref 164, .long (M.2.1 241 ((M.1 164 111) - 2).toNatClampNeg)] (mm_uI M 164 111 ((M.1 164 111) - 2)) (fun m161 => K m161))) else (if x1 = 6 then (if (M.2.1 241 ((M.1 164 111) - 2).toNatClampNeg) ≤ (M.2.1 241 ((M.1 164 111) - 1).toNatClampNeg) then (mm_CV mX12_qPuts d [.ref 164, .long (M.2.1 241 ((M.1 164 111) - 1).toNatClampNeg)] (mm_uI M 164 111 ((M.1 164 111) - 2)) (fun m181 => K m181)) else (mm_CV mX12_qPuts d [.ref 164, .long (M.2.1 241 ((M.1 164 111) - 2).toNatClampNeg)] (mm_uI M 164 111 ((M.1 164 111) - 2)) (fun m181 => K m181))) else (if x1 = 7 then (if (M.2.1 241 ((M.1 164 111) - 1).toNatClampNeg) ≤ (M.2.1 241 ((M.1 164 111) - 2).toNatClampNeg) then (mm_CV mX12_qPuts d [.ref 164, .long 0] (mm_uI M 164 111 ((M.1 164 111) - 2)) (fun m200 => K m200)) else (mm_CV mX12_qPuts d [.ref 164, .long 1] (mm_uI M 164 111 ((M.1 164 111) - 2)) (fun m200 => K m200))) else (if x1 = 8 then (if (M.2.1 241 ((M.1 164 111) - 2).toNatClampNeg) ≤ (M.2.1 241 ((M.1 164 111) - 1).toNatClampNeg) then (mm_CV mX12_qPuts d [.ref 164, .long 0] (mm_uI M 164 111 ((M.1 164 111) - 2)) (fun m219 => K m219)) else (mm_CV mX12_qPuts d [.ref 164, .long 1] (mm_uI M 164 111 ((M.1 164 111) - 2)) (fun m219 => K m219))) else (if x1 = 9 then (if (M.2.1 241 ((M.1 164 111) - 2).toNatClampNeg) = (M.2.1 241 ((M.1 164 111) - 1).toNatClampNeg) then (mm_CV mX12_qPuts d [.ref 164, .long 1] (mm_uI M 164 111 ((M.1 164 111) - 2)) (fun m238 => K m238)) else (mm_CV mX12_qPuts d [.ref 164, .long 0] (mm_uI M 164 111 ((M.1 164 111) - 2)) (fun m238 => K m238))) else (if x1 = 10 then (mm_CV mX12_qPuts d [.ref 164, .long ((M.2.1 241 ((M.1 164 111) - 2).toNatClampNeg) * (M.2.1 241 ((M.1 164 111) - 1).toNatClampNeg))] (mm_uI M 164 111 ((M.1 164 111) - 2)) (fun m249 => K m249)) else (if ((M.2.1 241 ((M.1 164 111) - 2).toNatClampNeg) + (M.2.1 241 ((M.1 164 111) - 1).toNatClampNeg)) ≤ 0 then (mm_CV mX12_qPuts d [.ref 164, .long 0] (mm_uI M 164 111 ((M.1 164 111) - 2)) (fun m270 => K m270)) else (mm_CV mX12_qPuts d [.ref 164, .long 1] (mm_uI M 164 111 ((M.1 164 111) - 2)) (fun m270 => K m270))))))))))))) : mm_CV mX12_qJoins (d + 1) [.ref 164, .int x1] M K := by
  show mm_W mX12_qJoins (d + 1) 0 0 0 [(0, .ref 164), (1, .int x1)] [] mm_SH M 0 0 (mm_PV K)
  refine mm_aload_n (j := 0) dX12_qJoins_0 rfl rfl ?_
  refine mm_getR (ci := 12) (N := 116) (r := 241) dX12_qJoins_1 fX12_249 sh_164 rfl (g_164_110 hG) ?_
  refine mm_aload_n (j := 0) dX12_qJoins_4 rfl rfl ?_
  refine mm_getI (ci := 12) (N := 116) dX12_qJoins_5 fX12_422 sh_164 rfl ?_
  refine mm_iconst (x := 1) dX12_qJoins_8 rfl ?_
  refine mm_isub dX12_qJoins_9 ?_
  obtain ⟨hi10, h⟩ := h
  refine mm_laload (N := 1700) dX12_qJoins_10 sh_241 hi10 ?_
  refine mm_lstore_n (lv' := [(2, .long (M.2.1 241 ((M.1 164 111) - 1).toNatClampNeg)), (0, .ref 164), (1, .int x1)]) dX12_qJoins_11 rfl (by decide) rfl ?_
  refine mm_aload_n (j := 1) dX12_qJoins_12 rfl rfl ?_
  refine mm_getR (ci := 12) (N := 116) (r := 241) dX12_qJoins_13 fX12_249 sh_164 rfl (g_164_110 hG) ?_
  refine mm_aload_n (j := 1) dX12_qJoins_16 rfl rfl ?_
  refine mm_getI (ci := 12) (N := 116) dX12_qJoins_17 fX12_422 sh_164 rfl ?_
  refine mm_iconst (x := 2) dX12_qJoins_20 rfl ?_
  refine mm_isub dX12_qJoins_21 ?_
  obtain ⟨hi22, h⟩ := h
  refine mm_laload (N := 1700) dX12_qJoins_22 sh_241 hi22 ?_
  refine mm_lstore (lv' := [(4, .long (M.2.1 241 ((M.1 164 111) - 2).toNatClampNeg)), (2, .long (M.2.1 241 ((M.1 164 111) - 1).toNatClampNeg)), (0, .ref 164), (1, .int x1)]) dX12_qJoins_23 (by decide) rfl ?_
  refine mm_aload_n (j := 2) dX12_qJoins_25 rfl rfl ?_
  refine mm_dup dX12_qJoins_26 rfl ?_
  refine mm_getI (ci := 12) (N := 116) dX12_qJoins_27 fX12_422 sh_164 rfl ?_
  refine mm_iconst (x := 2) dX12_qJoins_30 rfl ?_
  refine mm_isub dX12_qJoins_31 ?_
  refine mm_putI (ci := 12) (N := 116) dX12_qJoins_32 fX12_422 sh_164 (by decide +kernel) rfl rfl rfl ?_
  refine mm_iload_n (j := 3) dX12_qJoins_35 rfl rfl ?_
  by_cases hs36_0 : x1 = 1
  · rw [if_pos hs36_0] at h
    refine mm_tableIn (off := 56) (tgt := 92) dX12_qJoins_36 (by rw [hs36_0]; decide) (by rw [hs36_0]; decide) (by rw [hs36_0]; rfl) (by decide) ?_
    refine mm_aload_n (j := 2) dX12_qJoins_92 rfl rfl ?_
    refine mm_lload (j := 0) dX12_qJoins_93 rfl ?_
    refine mm_lload_n (j := 1) dX12_qJoins_95 rfl rfl ?_
    refine mm_ladd dX12_qJoins_96 ?_
    refine mm_kSL [.long ((M.2.1 241 ((M.1 164 111) - 2).toNatClampNeg) + (M.2.1 241 ((M.1 164 111) - 1).toNatClampNeg))] dX12_qJoins_97 kX12_700 rfl (by decide) (by decide) h (fun z97 m97 hG h => ?_)
    refine mm_kVV [.long z97] dX12_qJoins_100 kX12_425 rfl sh_164 (by decide) (by decide) h (fun m100 hG h => ?_)
    refine mm_goto (tgt := 273) dX12_qJoins_103 (by decide) ?_
    exact mm_vret dX12_qJoins_273 rfl (Nat.le_refl 0) (Nat.le_refl 0) ⟨rfl, rfl, hG, h⟩
  · rw [if_neg hs36_0] at h
    by_cases hs36_1 : x1 = 2
    · rw [if_pos hs36_1] at h
      refine mm_tableIn (off := 70) (tgt := 106) dX12_qJoins_36 (by rw [hs36_1]; decide) (by rw [hs36_1]; decide) (by rw [hs36_1]; rfl) (by decide) ?_
      refine mm_aload_n (j := 2) dX12_qJoins_106 rfl rfl ?_
      refine mm_lload (j := 0) dX12_qJoins_107 rfl ?_
      refine mm_lload_n (j := 1) dX12_qJoins_109 rfl rfl ?_
      refine mm_lsub dX12_qJoins_110 ?_
      refine mm_kSL [.long ((M.2.1 241 ((M.1 164 111) - 2).toNatClampNeg) - (M.2.1 241 ((M.1 164 111) - 1).toNatClampNeg))] dX12_qJoins_111 kX12_700 rfl (by decide) (by decide) h (fun z111 m111 hG h => ?_)
      refine mm_kVV [.long z111] dX12_qJoins_114 kX12_425 rfl sh_164 (by decide) (by decide) h (fun m114 hG h => ?_)
      refine mm_goto (tgt := 273) dX12_qJoins_117 (by decide) ?_
      exact mm_vret dX12_qJoins_273 rfl (Nat.le_refl 0) (Nat.le_refl 0) ⟨rfl, rfl, hG, h⟩
    · rw [if_neg hs36_1] at h
      by_cases hs36_2 : x1 = 3
      · rw [if_pos hs36_2] at h
        refine mm_tableIn (off := 84) (tgt := 120) dX12_qJoins_36 (by rw [hs36_2]; decide) (by rw [hs36_2]; decide) (by rw [hs36_2]; rfl) (by decide) ?_
        refine mm_aload_n (j := 2) dX12_qJoins_120 rfl rfl ?_
        refine mm_lload (j := 0) dX12_qJoins_121 rfl ?_
        refine mm_lload_n (j := 1) dX12_qJoins_123 rfl rfl ?_
        refine mm_lmul dX12_qJoins_124 ?_
        refine mm_kSL [.long ((M.2.1 241 ((M.1 164 111) - 2).toNatClampNeg) * (M.2.1 241 ((M.1 164 111) - 1).toNatClampNeg))] dX12_qJoins_125 kX12_700 rfl (by decide) (by decide) h (fun z125 m125 hG h => ?_)
        refine mm_kVV [.long z125] dX12_qJoins_128 kX12_425 rfl sh_164 (by decide) (by decide) h (fun m128 hG h => ?_)
        refine mm_goto (tgt := 273) dX12_qJoins_131 (by decide) ?_
        exact mm_vret dX12_qJoins_273 rfl (Nat.le_refl 0) (Nat.le_refl 0) ⟨rfl, rfl, hG, h⟩
      · rw [if_neg hs36_2] at h
        by_cases hs36_3 : x1 = 4
        · rw [if_pos hs36_3] at h
          refine mm_tableIn (off := 98) (tgt := 134) dX12_qJoins_36 (by rw [hs36_3]; decide) (by rw [hs36_3]; decide) (by rw [hs36_3]; rfl) (by decide) ?_
          refine mm_aload_n (j := 2) dX12_qJoins_134 rfl rfl ?_
          refine mm_lload (j := 0) dX12_qJoins_135 rfl ?_
          refine mm_lload_n (j := 1) dX12_qJoins_137 rfl rfl ?_
          refine mm_kSL [.long (M.2.1 241 ((M.1 164 111) - 2).toNatClampNeg), .long (M.2.1 241 ((M.1 164 111) - 1).toNatClampNeg)] dX12_qJoins_138 kX12_704 rfl (by decide) (by decide) h (fun z138 m138 hG h => ?_)
          refine mm_kVV [.long z138] dX12_qJoins_141 kX12_425 rfl sh_164 (by decide) (by decide) h (fun m141 hG h => ?_)
          refine mm_goto (tgt := 273) dX12_qJoins_144 (by decide) ?_
          exact mm_vret dX12_qJoins_273 rfl (Nat.le_refl 0) (Nat.le_refl 0) ⟨rfl, rfl, hG, h⟩
        · rw [if_neg hs36_3] at h
          by_cases hs36_4 : x1 = 5
          · rw [if_pos hs36_4] at h
            refine mm_tableIn (off := 111) (tgt := 147) dX12_qJoins_36 (by rw [hs36_4]; decide) (by rw [hs36_4]; decide) (by rw [hs36_4]; rfl) (by decide) ?_
            refine mm_aload_n (j := 2) dX12_qJoins_147 rfl rfl ?_
            refine mm_lload (j := 0) dX12_qJoins_148 rfl ?_
            refine mm_lload_n (j := 1) dX12_qJoins_150 rfl rfl ?_
            refine mm_lcmp dX12_qJoins_151 ?_
            refine mm_if_ge (tgt := 160) dX12_qJoins_152 (by decide) (fun hc => ?_) (fun hc => ?_)
            · rw [if_pos (lgc_ge.mp hc)] at h
              refine mm_lload_n (j := 1) dX12_qJoins_160 rfl rfl ?_
              refine mm_kVV [.long (M.2.1 241 ((M.1 164 111) - 1).toNatClampNeg)] dX12_qJoins_161 kX12_425 rfl sh_164 (by decide) (by decide) h (fun m161 hG h => ?_)
              refine mm_goto (tgt := 273) dX12_qJoins_164 (by decide) ?_
              exact mm_vret dX12_qJoins_273 rfl (Nat.le_refl 0) (Nat.le_refl 0) ⟨rfl, rfl, hG, h⟩
            · rw [if_neg (fun q => hc (lgc_ge.mpr q))] at h
              refine mm_lload (j := 0) dX12_qJoins_155 rfl ?_
              refine mm_goto (tgt := 161) dX12_qJoins_157 (by decide) ?_
              refine mm_kVV [.long (M.2.1 241 ((M.1 164 111) - 2).toNatClampNeg)] dX12_qJoins_161 kX12_425 rfl sh_164 (by decide) (by decide) h (fun m161 hG h => ?_)
              refine mm_goto (tgt := 273) dX12_qJoins_164 (by decide) ?_
              exact mm_vret dX12_qJoins_273 rfl (Nat.le_refl 0) (Nat.le_refl 0) ⟨rfl, rfl, hG, h⟩
          · rw [if_neg hs36_4] at h
            by_cases hs36_5 : x1 = 6
            · rw [if_pos hs36_5] at h
              refine mm_tableIn (off := 131) (tgt := 167) dX12_qJoins_36 (by rw [hs36_5]; decide) (by rw [hs36_5]; decide) (by rw [hs36_5]; rfl) (by decide) ?_
              refine mm_aload_n (j := 2) dX12_qJoins_167 rfl rfl ?_
              refine mm_lload (j := 0) dX12_qJoins_168 rfl ?_
              refine mm_lload_n (j := 1) dX12_qJoins_170 rfl rfl ?_
              refine mm_lcmp dX12_qJoins_171 ?_
              refine mm_if_le (tgt := 180) dX12_qJoins_172 (by decide) (fun hc => ?_) (fun hc => ?_)
              · rw [if_pos (lgc_le.mp hc)] at h
                refine mm_lload_n (j := 1) dX12_qJoins_180 rfl rfl ?_
                refine mm_kVV [.long (M.2.1 241 ((M.1 164 111) - 1).toNatClampNeg)] dX12_qJoins_181 kX12_425 rfl sh_164 (by decide) (by decide) h (fun m181 hG h => ?_)
                refine mm_goto (tgt := 273) dX12_qJoins_184 (by decide) ?_
                exact mm_vret dX12_qJoins_273 rfl (Nat.le_refl 0) (Nat.le_refl 0) ⟨rfl, rfl, hG, h⟩
              · rw [if_neg (fun q => hc (lgc_le.mpr q))] at h
                refine mm_lload (j := 0) dX12_qJoins_175 rfl ?_
                refine mm_goto (tgt := 181) dX12_qJoins_177 (by decide) ?_
                refine mm_kVV [.long (M.2.1 241 ((M.1 164 111) - 2).toNatClampNeg)] dX12_qJoins_181 kX12_425 rfl sh_164 (by decide) (by decide) h (fun m181 hG h => ?_)
                refine mm_goto (tgt := 273) dX12_qJoins_184 (by decide) ?_
                exact mm_vret dX12_qJoins_273 rfl (Nat.le_refl 0) (Nat.le_refl 0) ⟨rfl, rfl, hG, h⟩
            · rw [if_neg hs36_5] at h
              by_cases hs36_6 : x1 = 7
              · rw [if_pos hs36_6] at h
                refine mm_tableIn (off := 151) (tgt := 187) dX12_qJoins_36 (by rw [hs36_6]; decide) (by rw [hs36_6]; decide) (by rw [hs36_6]; rfl) (by decide) ?_
                refine mm_aload_n (j := 2) dX12_qJoins_187 rfl rfl ?_
                refine mm_lload (j := 0) dX12_qJoins_188 rfl ?_
                refine mm_lload_n (j := 1) dX12_qJoins_190 rfl rfl ?_
                refine mm_lcmp dX12_qJoins_191 ?_
                refine mm_if_ge (tgt := 199) dX12_qJoins_192 (by decide) (fun hc => ?_) (fun hc => ?_)
                · rw [if_pos (lgc_ge.mp hc)] at h
                  refine mm_lconst (x := 0) dX12_qJoins_199 rfl ?_
                  refine mm_kVV [.long 0] dX12_qJoins_200 kX12_425 rfl sh_164 (by decide) (by decide) h (fun m200 hG h => ?_)
                  refine mm_goto (tgt := 273) dX12_qJoins_203 (by decide) ?_
                  exact mm_vret dX12_qJoins_273 rfl (Nat.le_refl 0) (Nat.le_refl 0) ⟨rfl, rfl, hG, h⟩
                · rw [if_neg (fun q => hc (lgc_ge.mpr q))] at h
                  refine mm_lconst (x := 1) dX12_qJoins_195 rfl ?_
                  refine mm_goto (tgt := 200) dX12_qJoins_196 (by decide) ?_
                  refine mm_kVV [.long 1] dX12_qJoins_200 kX12_425 rfl sh_164 (by decide) (by decide) h (fun m200 hG h => ?_)
                  refine mm_goto (tgt := 273) dX12_qJoins_203 (by decide) ?_
                  exact mm_vret dX12_qJoins_273 rfl (Nat.le_refl 0) (Nat.le_refl 0) ⟨rfl, rfl, hG, h⟩
              · rw [if_neg hs36_6] at h
                by_cases hs36_7 : x1 = 8
                · rw [if_pos hs36_7] at h
                  refine mm_tableIn (off := 170) (tgt := 206) dX12_qJoins_36 (by rw [hs36_7]; decide) (by rw [hs36_7]; decide) (by rw [hs36_7]; rfl) (by decide) ?_
                  refine mm_aload_n (j := 2) dX12_qJoins_206 rfl rfl ?_
                  refine mm_lload (j := 0) dX12_qJoins_207 rfl ?_
                  refine mm_lload_n (j := 1) dX12_qJoins_209 rfl rfl ?_
                  refine mm_lcmp dX12_qJoins_210 ?_
                  refine mm_if_le (tgt := 218) dX12_qJoins_211 (by decide) (fun hc => ?_) (fun hc => ?_)
                  · rw [if_pos (lgc_le.mp hc)] at h
                    refine mm_lconst (x := 0) dX12_qJoins_218 rfl ?_
                    refine mm_kVV [.long 0] dX12_qJoins_219 kX12_425 rfl sh_164 (by decide) (by decide) h (fun m219 hG h => ?_)
                    refine mm_goto (tgt := 273) dX12_qJoins_222 (by decide) ?_
                    exact mm_vret dX12_qJoins_273 rfl (Nat.le_refl 0) (Nat.le_refl 0) ⟨rfl, rfl, hG, h⟩
                  · rw [if_neg (fun q => hc (lgc_le.mpr q))] at h
                    refine mm_lconst (x := 1) dX12_qJoins_214 rfl ?_
                    refine mm_goto (tgt := 219) dX12_qJoins_215 (by decide) ?_
                    refine mm_kVV [.long 1] dX12_qJoins_219 kX12_425 rfl sh_164 (by decide) (by decide) h (fun m219 hG h => ?_)
                    refine mm_goto (tgt := 273) dX12_qJoins_222 (by decide) ?_
                    exact mm_vret dX12_qJoins_273 rfl (Nat.le_refl 0) (Nat.le_refl 0) ⟨rfl, rfl, hG, h⟩
                · rw [if_neg hs36_7] at h
                  by_cases hs36_8 : x1 = 9
                  · rw [if_pos hs36_8] at h
                    refine mm_tableIn (off := 189) (tgt := 225) dX12_qJoins_36 (by rw [hs36_8]; decide) (by rw [hs36_8]; decide) (by rw [hs36_8]; rfl) (by decide) ?_
                    refine mm_aload_n (j := 2) dX12_qJoins_225 rfl rfl ?_
                    refine mm_lload (j := 0) dX12_qJoins_226 rfl ?_
                    refine mm_lload_n (j := 1) dX12_qJoins_228 rfl rfl ?_
                    refine mm_lcmp dX12_qJoins_229 ?_
                    refine mm_if_ne (tgt := 237) dX12_qJoins_230 (by decide) (fun hc => ?_) (fun hc => ?_)
                    · rw [if_neg (fun q => hc (lgc_eq.mpr q))] at h
                      refine mm_lconst (x := 0) dX12_qJoins_237 rfl ?_
                      refine mm_kVV [.long 0] dX12_qJoins_238 kX12_425 rfl sh_164 (by decide) (by decide) h (fun m238 hG h => ?_)
                      refine mm_goto (tgt := 273) dX12_qJoins_241 (by decide) ?_
                      exact mm_vret dX12_qJoins_273 rfl (Nat.le_refl 0) (Nat.le_refl 0) ⟨rfl, rfl, hG, h⟩
                    · rw [if_pos (lgc_eq.mp hc)] at h
                      refine mm_lconst (x := 1) dX12_qJoins_233 rfl ?_
                      refine mm_goto (tgt := 238) dX12_qJoins_234 (by decide) ?_
                      refine mm_kVV [.long 1] dX12_qJoins_238 kX12_425 rfl sh_164 (by decide) (by decide) h (fun m238 hG h => ?_)
                      refine mm_goto (tgt := 273) dX12_qJoins_241 (by decide) ?_
                      exact mm_vret dX12_qJoins_273 rfl (Nat.le_refl 0) (Nat.le_refl 0) ⟨rfl, rfl, hG, h⟩
                  · rw [if_neg hs36_8] at h
                    by_cases hs36_9 : x1 = 10
                    · rw [if_pos hs36_9] at h
                      refine mm_tableIn (off := 208) (tgt := 244) dX12_qJoins_36 (by rw [hs36_9]; decide) (by rw [hs36_9]; decide) (by rw [hs36_9]; rfl) (by decide) ?_
                      refine mm_aload_n (j := 2) dX12_qJoins_244 rfl rfl ?_
                      refine mm_lload (j := 0) dX12_qJoins_245 rfl ?_
                      refine mm_lload_n (j := 1) dX12_qJoins_247 rfl rfl ?_
                      refine mm_lmul dX12_qJoins_248 ?_
                      refine mm_kVV [.long ((M.2.1 241 ((M.1 164 111) - 2).toNatClampNeg) * (M.2.1 241 ((M.1 164 111) - 1).toNatClampNeg))] dX12_qJoins_249 kX12_425 rfl sh_164 (by decide) (by decide) h (fun m249 hG h => ?_)
                      refine mm_goto (tgt := 273) dX12_qJoins_252 (by decide) ?_
                      exact mm_vret dX12_qJoins_273 rfl (Nat.le_refl 0) (Nat.le_refl 0) ⟨rfl, rfl, hG, h⟩
                    · rw [if_neg hs36_9] at h
                      have ht36_0 := lv_neT hs36_0 (show (1 : Int32).toInt = 1 from rfl)
                      have ht36_1 := lv_neT hs36_1 (show (2 : Int32).toInt = 2 from rfl)
                      have ht36_2 := lv_neT hs36_2 (show (3 : Int32).toInt = 3 from rfl)
                      have ht36_3 := lv_neT hs36_3 (show (4 : Int32).toInt = 4 from rfl)
                      have ht36_4 := lv_neT hs36_4 (show (5 : Int32).toInt = 5 from rfl)
                      have ht36_5 := lv_neT hs36_5 (show (6 : Int32).toInt = 6 from rfl)
                      have ht36_6 := lv_neT hs36_6 (show (7 : Int32).toInt = 7 from rfl)
                      have ht36_7 := lv_neT hs36_7 (show (8 : Int32).toInt = 8 from rfl)
                      have ht36_8 := lv_neT hs36_8 (show (9 : Int32).toInt = 9 from rfl)
                      have ht36_9 := lv_neT hs36_9 (show (10 : Int32).toInt = 10 from rfl)
                      refine mm_tableOut (tgt := 255) dX12_qJoins_36 (by omega) (by decide) ?_
                      refine mm_aload_n (j := 2) dX12_qJoins_255 rfl rfl ?_
                      refine mm_lload (j := 0) dX12_qJoins_256 rfl ?_
                      refine mm_lload_n (j := 1) dX12_qJoins_258 rfl rfl ?_
                      refine mm_ladd dX12_qJoins_259 ?_
                      refine mm_lconst (x := 0) dX12_qJoins_260 rfl ?_
                      refine mm_lcmp dX12_qJoins_261 ?_
                      refine mm_if_le (tgt := 269) dX12_qJoins_262 (by decide) (fun hc => ?_) (fun hc => ?_)
                      · rw [if_pos (lgc_le.mp hc)] at h
                        refine mm_lconst (x := 0) dX12_qJoins_269 rfl ?_
                        refine mm_kVV [.long 0] dX12_qJoins_270 kX12_425 rfl sh_164 (by decide) (by decide) h (fun m270 hG h => ?_)
                        exact mm_vret dX12_qJoins_273 rfl (Nat.le_refl 0) (Nat.le_refl 0) ⟨rfl, rfl, hG, h⟩
                      · rw [if_neg (fun q => hc (lgc_le.mpr q))] at h
                        refine mm_lconst (x := 1) dX12_qJoins_265 rfl ?_
                        refine mm_goto (tgt := 270) dX12_qJoins_266 (by decide) ?_
                        refine mm_kVV [.long 1] dX12_qJoins_270 kX12_425 rfl sh_164 (by decide) (by decide) h (fun m270 hG h => ?_)
                        exact mm_vret dX12_qJoins_273 rfl (Nat.le_refl 0) (Nat.le_refl 0) ⟨rfl, rfl, hG, h⟩
set_option maxRecDepth 100000 in
set_option maxHeartbeats 4000000 in
theorem rX12_qPartOf {d : Nat} {x1 : Int32} {x2 : Int32} {M : mm_M} {K : Int64 → mm_M → Prop} (hG : mm_G M.2.2) (h : if x1 = 0 then (mm_CI mX12_flourOf d [.ref 164, .int (M.1 164 52)] M (fun z49 m49 => K z49.toInt64 m49)) else (if x1 = 1 then (vp_in (7 + (M.1 164 52)) 14 ∧ K ((M.1 194 (7 + (M.1 164 52)).toNatClampNeg).toInt64) M) else (if x1 = 2 then (mm_CI mX12_hungerOf d [.ref 164, .int (M.1 164 53)] M (fun z73 m73 => K z73.toInt64 m73)) else (if x1 = 3 then (K ((M.1 199 (0).toNatClampNeg).toInt64) M) else (if x1 = 4 then (K (M.2.1 164 54) M) else (if x1 = 5 then (K ((M.1 164 55).toInt64) M) else (if x1 = 6 then (K ((M.1 164 52).toInt64) M) else (mm_CI mX12_enemyMany d [.ref 164, .int (M.1 164 52)] M (fun z108 m108 => K z108.toInt64 m108))))))))) : mm_CL mX12_qPartOf (d + 1) [.ref 164, .int x1, .int x2] M K := by
  show mm_W mX12_qPartOf (d + 1) 0 0 0 [(0, .ref 164), (1, .int x1), (2, .int x2)] [] mm_SH M 0 0 (mm_PL K)
  refine mm_iload_n (j := 1) dX12_qPartOf_0 rfl rfl ?_
  by_cases hs1_0 : x1 = 0
  · rw [if_pos hs1_0] at h
    refine mm_tableIn (off := 43) (tgt := 44) dX12_qPartOf_1 (by rw [hs1_0]; decide) (by rw [hs1_0]; decide) (by rw [hs1_0]; rfl) (by decide) ?_
    refine mm_aload_n (j := 0) dX12_qPartOf_44 rfl rfl ?_
    refine mm_aload_n (j := 0) dX12_qPartOf_45 rfl rfl ?_
    refine mm_getI (ci := 12) (N := 116) dX12_qPartOf_46 fX12_429 sh_164 rfl ?_
    refine mm_kVI [.int (M.1 164 52)] dX12_qPartOf_49 kX12_465 rfl sh_164 (by decide) (by decide) h (fun z49 m49 hG h => ?_)
    refine mm_i2l dX12_qPartOf_52 ?_
    exact mm_lret dX12_qPartOf_53 rfl (Nat.le_refl 0) (Nat.le_refl 0) ⟨_, rfl, rfl, hG, h⟩
  · rw [if_neg hs1_0] at h
    by_cases hs1_1 : x1 = 1
    · rw [if_pos hs1_1] at h
      refine mm_tableIn (off := 53) (tgt := 54) dX12_qPartOf_1 (by rw [hs1_1]; decide) (by rw [hs1_1]; decide) (by rw [hs1_1]; rfl) (by decide) ?_
      refine mm_aload_n (j := 0) dX12_qPartOf_54 rfl rfl ?_
      refine mm_getR (ci := 12) (N := 116) (r := 194) dX12_qPartOf_55 fX12_103 sh_164 rfl (g_164_41 hG) ?_
      refine mm_bipush (x := 7) dX12_qPartOf_58 rfl ?_
      refine mm_aload_n (j := 0) dX12_qPartOf_60 rfl rfl ?_
      refine mm_getI (ci := 12) (N := 116) dX12_qPartOf_61 fX12_429 sh_164 rfl ?_
      refine mm_iadd dX12_qPartOf_64 ?_
      obtain ⟨hi65, h⟩ := h
      refine mm_iaload (N := 14) dX12_qPartOf_65 sh_194 hi65 ?_
      refine mm_i2l dX12_qPartOf_66 ?_
      exact mm_lret dX12_qPartOf_67 rfl (Nat.le_refl 0) (Nat.le_refl 0) ⟨_, rfl, rfl, hG, h⟩
    · rw [if_neg hs1_1] at h
      by_cases hs1_2 : x1 = 2
      · rw [if_pos hs1_2] at h
        refine mm_tableIn (off := 67) (tgt := 68) dX12_qPartOf_1 (by rw [hs1_2]; decide) (by rw [hs1_2]; decide) (by rw [hs1_2]; rfl) (by decide) ?_
        refine mm_aload_n (j := 0) dX12_qPartOf_68 rfl rfl ?_
        refine mm_aload_n (j := 0) dX12_qPartOf_69 rfl rfl ?_
        refine mm_getI (ci := 12) (N := 116) dX12_qPartOf_70 fX12_439 sh_164 rfl ?_
        refine mm_kVI [.int (M.1 164 53)] dX12_qPartOf_73 kX12_459 rfl sh_164 (by decide) (by decide) h (fun z73 m73 hG h => ?_)
        refine mm_i2l dX12_qPartOf_76 ?_
        exact mm_lret dX12_qPartOf_77 rfl (Nat.le_refl 0) (Nat.le_refl 0) ⟨_, rfl, rfl, hG, h⟩
      · rw [if_neg hs1_2] at h
        by_cases hs1_3 : x1 = 3
        · rw [if_pos hs1_3] at h
          refine mm_tableIn (off := 77) (tgt := 78) dX12_qPartOf_1 (by rw [hs1_3]; decide) (by rw [hs1_3]; decide) (by rw [hs1_3]; rfl) (by decide) ?_
          refine mm_aload_n (j := 0) dX12_qPartOf_78 rfl rfl ?_
          refine mm_getR (ci := 12) (N := 116) (r := 199) dX12_qPartOf_79 fX12_118 sh_164 rfl (g_164_50 hG) ?_
          refine mm_iconst (x := 0) dX12_qPartOf_82 rfl ?_
          refine mm_iaload (N := 204) dX12_qPartOf_83 sh_199 (by decide) ?_
          refine mm_i2l dX12_qPartOf_84 ?_
          exact mm_lret dX12_qPartOf_85 rfl (Nat.le_refl 0) (Nat.le_refl 0) ⟨_, rfl, rfl, hG, h⟩
        · rw [if_neg hs1_3] at h
          by_cases hs1_4 : x1 = 4
          · rw [if_pos hs1_4] at h
            refine mm_tableIn (off := 85) (tgt := 86) dX12_qPartOf_1 (by rw [hs1_4]; decide) (by rw [hs1_4]; decide) (by rw [hs1_4]; rfl) (by decide) ?_
            refine mm_aload_n (j := 0) dX12_qPartOf_86 rfl rfl ?_
            refine mm_getL (ci := 12) (N := 116) dX12_qPartOf_87 fX12_442 sh_164 rfl ?_
            exact mm_lret dX12_qPartOf_90 rfl (Nat.le_refl 0) (Nat.le_refl 0) ⟨_, rfl, rfl, hG, h⟩
          · rw [if_neg hs1_4] at h
            by_cases hs1_5 : x1 = 5
            · rw [if_pos hs1_5] at h
              refine mm_tableIn (off := 90) (tgt := 91) dX12_qPartOf_1 (by rw [hs1_5]; decide) (by rw [hs1_5]; decide) (by rw [hs1_5]; rfl) (by decide) ?_
              refine mm_aload_n (j := 0) dX12_qPartOf_91 rfl rfl ?_
              refine mm_getI (ci := 12) (N := 116) dX12_qPartOf_92 fX12_498 sh_164 rfl ?_
              refine mm_i2l dX12_qPartOf_95 ?_
              exact mm_lret dX12_qPartOf_96 rfl (Nat.le_refl 0) (Nat.le_refl 0) ⟨_, rfl, rfl, hG, h⟩
            · rw [if_neg hs1_5] at h
              by_cases hs1_6 : x1 = 6
              · rw [if_pos hs1_6] at h
                refine mm_tableIn (off := 96) (tgt := 97) dX12_qPartOf_1 (by rw [hs1_6]; decide) (by rw [hs1_6]; decide) (by rw [hs1_6]; rfl) (by decide) ?_
                refine mm_aload_n (j := 0) dX12_qPartOf_97 rfl rfl ?_
                refine mm_getI (ci := 12) (N := 116) dX12_qPartOf_98 fX12_429 sh_164 rfl ?_
                refine mm_i2l dX12_qPartOf_101 ?_
                exact mm_lret dX12_qPartOf_102 rfl (Nat.le_refl 0) (Nat.le_refl 0) ⟨_, rfl, rfl, hG, h⟩
              · rw [if_neg hs1_6] at h
                have ht1_0 := lv_neT hs1_0 (show (0 : Int32).toInt = 0 from rfl)
                have ht1_1 := lv_neT hs1_1 (show (1 : Int32).toInt = 1 from rfl)
                have ht1_2 := lv_neT hs1_2 (show (2 : Int32).toInt = 2 from rfl)
                have ht1_3 := lv_neT hs1_3 (show (3 : Int32).toInt = 3 from rfl)
                have ht1_4 := lv_neT hs1_4 (show (4 : Int32).toInt = 4 from rfl)
                have ht1_5 := lv_neT hs1_5 (show (5 : Int32).toInt = 5 from rfl)
                have ht1_6 := lv_neT hs1_6 (show (6 : Int32).toInt = 6 from rfl)
                refine mm_tableOut (tgt := 103) dX12_qPartOf_1 (by omega) (by decide) ?_
                refine mm_aload_n (j := 0) dX12_qPartOf_103 rfl rfl ?_
                refine mm_aload_n (j := 0) dX12_qPartOf_104 rfl rfl ?_
                refine mm_getI (ci := 12) (N := 116) dX12_qPartOf_105 fX12_429 sh_164 rfl ?_
                refine mm_kVI [.int (M.1 164 52)] dX12_qPartOf_108 kX12_538 rfl sh_164 (by decide) (by decide) h (fun z108 m108 hG h => ?_)
                refine mm_i2l dX12_qPartOf_111 ?_
                exact mm_lret dX12_qPartOf_112 rfl (Nat.le_refl 0) (Nat.le_refl 0) ⟨_, rfl, rfl, hG, h⟩
set_option maxRecDepth 100000 in
set_option maxHeartbeats 4000000 in
theorem rX12_qOf {d : Nat} {x1 : Int32} {x2 : Int64} {x4 : Int32} {M : mm_M} {K : Int64 → mm_M → Prop} (hG : mm_G M.2.2) (h : if x1 = 0 then (mm_CI mX12_isHouse d [.ref 164, .long x2] M (fun z22 m22 => if z22 = 0 then (K 0 m22) else (if x2 = x4.toInt64 then (K 0 m22) else (mm_CI mX12_hateOf d [.ref 164, .int x4, .int x2.toInt32] m22 (fun z41 m41 => K z41.toInt64 m41))))) else (mm_CI mX12_isHouse d [.ref 164, .long x2] M (fun z52 m52 => if z52 = 0 then (K (-1) m52) else (vp_in ((7 * x4) + x2.toInt32) 49 ∧ K (m52.2.1 201 ((7 * x4) + x2.toInt32).toNatClampNeg) m52)))) : mm_CL mX12_qOf (d + 1) [.ref 164, .int x1, .long x2, .int x4] M K := by
  show mm_W mX12_qOf (d + 1) 0 0 0 [(0, .ref 164), (1, .int x1), (2, .long x2), (4, .int x4)] [] mm_SH M 0 0 (mm_PL K)
  refine mm_iload_n (j := 1) dX12_qOf_0 rfl rfl ?_
  by_cases hs1_0 : x1 = 0
  · rw [if_pos hs1_0] at h
    refine mm_lookup (off := 19) (tgt := 20) dX12_qOf_1 (by decide) (by rw [hs1_0]; rfl) (by decide) ?_
    refine mm_aload_n (j := 0) dX12_qOf_20 rfl rfl ?_
    refine mm_lload_n (j := 2) dX12_qOf_21 rfl rfl ?_
    refine mm_kVI [.long x2] dX12_qOf_22 kX12_534 rfl sh_164 (by decide) (by decide) h (fun z22 m22 hG h => ?_)
    refine mm_if_eq (tgt := 48) dX12_qOf_25 (by decide) (fun hc => ?_) (fun hc => ?_)
    · rw [if_pos hc] at h
      refine mm_lconst (x := 0) dX12_qOf_48 rfl ?_
      exact mm_lret dX12_qOf_49 rfl (Nat.le_refl 0) (Nat.le_refl 0) ⟨_, rfl, rfl, hG, h⟩
    · rw [if_neg hc] at h
      refine mm_lload_n (j := 2) dX12_qOf_28 rfl rfl ?_
      refine mm_iload (j := 3) dX12_qOf_29 rfl ?_
      refine mm_i2l dX12_qOf_31 ?_
      refine mm_lcmp dX12_qOf_32 ?_
      refine mm_if_eq (tgt := 48) dX12_qOf_33 (by decide) (fun hc => ?_) (fun hc => ?_)
      · rw [if_pos (lgc_eq.mp hc)] at h
        refine mm_lconst (x := 0) dX12_qOf_48 rfl ?_
        exact mm_lret dX12_qOf_49 rfl (Nat.le_refl 0) (Nat.le_refl 0) ⟨_, rfl, rfl, hG, h⟩
      · rw [if_neg (fun q => hc (lgc_eq.mpr q))] at h
        refine mm_aload_n (j := 0) dX12_qOf_36 rfl rfl ?_
        refine mm_iload (j := 3) dX12_qOf_37 rfl ?_
        refine mm_lload_n (j := 2) dX12_qOf_39 rfl rfl ?_
        refine mm_l2i dX12_qOf_40 ?_
        refine mm_kVI [.int x4, .int x2.toInt32] dX12_qOf_41 kX12_415 rfl sh_164 (by decide) (by decide) h (fun z41 m41 hG h => ?_)
        refine mm_i2l dX12_qOf_44 ?_
        refine mm_goto (tgt := 49) dX12_qOf_45 (by decide) ?_
        exact mm_lret dX12_qOf_49 rfl (Nat.le_refl 0) (Nat.le_refl 0) ⟨_, rfl, rfl, hG, h⟩
  · rw [if_neg hs1_0] at h
    refine mm_lookup (off := 49) (tgt := 50) dX12_qOf_1 (by decide) (by rw [lv_osw hs1_0 rfl]; rfl) (by decide) ?_
    refine mm_aload_n (j := 0) dX12_qOf_50 rfl rfl ?_
    refine mm_lload_n (j := 2) dX12_qOf_51 rfl rfl ?_
    refine mm_kVI [.long x2] dX12_qOf_52 kX12_534 rfl sh_164 (by decide) (by decide) h (fun z52 m52 hG h => ?_)
    refine mm_if_eq (tgt := 74) dX12_qOf_55 (by decide) (fun hc => ?_) (fun hc => ?_)
    · rw [if_pos hc] at h
      refine mm_ldc2 (x := (-1)) dX12_qOf_74 cX12_587 ?_
      exact mm_lret dX12_qOf_77 rfl (Nat.le_refl 0) (Nat.le_refl 0) ⟨_, rfl, rfl, hG, h⟩
    · rw [if_neg hc] at h
      refine mm_aload_n (j := 0) dX12_qOf_58 rfl rfl ?_
      refine mm_getR (ci := 12) (N := 116) (r := 201) dX12_qOf_59 fX12_124 sh_164 rfl (g_164_56 hG) ?_
      refine mm_bipush (x := 7) dX12_qOf_62 rfl ?_
      refine mm_iload (j := 3) dX12_qOf_64 rfl ?_
      refine mm_imul dX12_qOf_66 ?_
      refine mm_lload_n (j := 2) dX12_qOf_67 rfl rfl ?_
      refine mm_l2i dX12_qOf_68 ?_
      refine mm_iadd dX12_qOf_69 ?_
      obtain ⟨hi70, h⟩ := h
      refine mm_laload (N := 49) dX12_qOf_70 sh_201 hi70 ?_
      refine mm_goto (tgt := 77) dX12_qOf_71 (by decide) ?_
      exact mm_lret dX12_qOf_77 rfl (Nat.le_refl 0) (Nat.le_refl 0) ⟨_, rfl, rfl, hG, h⟩
def jX12_qTold_7 (d : Nat) (x1 : Int32) (M : mm_M) (K : Int64 → mm_M → Prop) (y1 : Int32) (y2 : Int32) : Prop := mm_W mX12_qTold (d + 1) 0 0 7 [(0, .ref 164), (1, .int y1), (2, .int y2)] [] mm_SH M 0 0 (mm_PL K)
set_option maxRecDepth 100000 in
set_option maxHeartbeats 4000000 in
theorem rX12_qTold {d : Nat} {x1 : Int32} {M : mm_M} {K : Int64 → mm_M → Prop} (hG : mm_G M.2.2) (h : jX12_qTold_7 d x1 (mm_uI M 164 111 0) K x1 0) : mm_CL mX12_qTold (d + 1) [.ref 164, .int x1] M K := by
  show mm_W mX12_qTold (d + 1) 0 0 0 [(0, .ref 164), (1, .int x1)] [] mm_SH M 0 0 (mm_PL K)
  refine mm_aload_n (j := 0) dX12_qTold_0 rfl rfl ?_
  refine mm_iconst (x := 0) dX12_qTold_1 rfl ?_
  refine mm_putI (ci := 12) (N := 116) dX12_qTold_2 fX12_422 sh_164 (by decide +kernel) rfl rfl rfl ?_
  refine mm_iconst (x := 0) dX12_qTold_5 rfl ?_
  refine mm_istore_n (lv' := [(2, .int 0), (0, .ref 164), (1, .int x1)]) dX12_qTold_6 rfl (by decide) rfl ?_
  exact mm_sub [1, 2, 0] rfl h
set_option maxRecDepth 100000 in
set_option maxHeartbeats 4000000 in
theorem lX12_qTold_7 {d : Nat} {x1 : Int32} {M : mm_M} {K : Int64 → mm_M → Prop} {y1 : Int32} {y2 : Int32} (hG : mm_G M.2.2) (h : if (M.1 164 105) ≤ y2 then (K (M.2.1 241 (0).toNatClampNeg) M) else (vp_in y2 1700 ∧ if (M.1 239 (y2).toNatClampNeg) < 1000 then (if (M.1 239 (y2).toNatClampNeg) < 60 then (if (M.1 239 (y2).toNatClampNeg) < 40 then (if (M.1 239 (y2).toNatClampNeg) = 13 then (mm_CV mX12_qPuts d [.ref 164, .long 1] M (fun m118 => jX12_qTold_7 d x1 m118 K y1 (y2 + 1))) else (if (M.1 239 (y2).toNatClampNeg) = 12 then (vp_in ((M.1 164 111) - 1) 1700 ∧ vp_in ((M.1 164 111) - 1) 1700 ∧ jX12_qTold_7 d x1 (mm_uL M 241 ((M.1 164 111) - 1).toNatClampNeg (1 - (M.2.1 241 ((M.1 164 111) - 1).toNatClampNeg))) K y1 (y2 + 1)) else (mm_CV mX12_qJoins d [.ref 164, .int (M.1 239 (y2).toNatClampNeg)] M (fun m159 => jX12_qTold_7 d x1 m159 K y1 (y2 + 1))))) else (mm_CL mX12_qPartOf d [.ref 164, .int ((M.1 239 (y2).toNatClampNeg) - 40), .int y1] M (fun z98 m98 => mm_CL mX12_qClip d [.long z98] m98 (fun z101 m101 => mm_CV mX12_qPuts d [.ref 164, .long z101] m101 (fun m104 => jX12_qTold_7 d x1 m104 K y1 (y2 + 1)))))) else (vp_in ((M.1 164 111) - 1) 1700 ∧ mm_CL mX12_qOf d [.ref 164, .int ((M.1 239 (y2).toNatClampNeg) - 60), .long (M.2.1 241 ((M.1 164 111) - 1).toNatClampNeg), .int y1] M (fun z75 m75 => mm_CL mX12_qClip d [.long z75] m75 (fun z78 m78 => vp_in ((M.1 164 111) - 1) 1700 ∧ jX12_qTold_7 d x1 (mm_uL m78 241 ((M.1 164 111) - 1).toNatClampNeg z78) K y1 (y2 + 1))))) else (mm_CV mX12_qPuts d [.ref 164, .long (((M.1 239 (y2).toNatClampNeg) - 1000).toInt64)] M (fun m36 => jX12_qTold_7 d x1 m36 K y1 (y2 + 1))))) : jX12_qTold_7 d x1 M K y1 y2 := by
  unfold jX12_qTold_7
  refine mm_iload_n (j := 2) dX12_qTold_7 rfl rfl ?_
  refine mm_aload_n (j := 0) dX12_qTold_8 rfl rfl ?_
  refine mm_getI (ci := 12) (N := 116) dX12_qTold_9 fX12_354 sh_164 rfl ?_
  refine mm_icmp_ge (tgt := 168) dX12_qTold_12 (by decide) (fun hc => ?_) (fun hc => ?_)
  · rw [if_pos hc] at h
    refine mm_aload_n (j := 0) dX12_qTold_168 rfl rfl ?_
    refine mm_getR (ci := 12) (N := 116) (r := 241) dX12_qTold_169 fX12_249 sh_164 rfl (g_164_110 hG) ?_
    refine mm_iconst (x := 0) dX12_qTold_172 rfl ?_
    refine mm_laload (N := 1700) dX12_qTold_173 sh_241 (by decide) ?_
    exact mm_lret dX12_qTold_174 rfl (Nat.le_refl 0) (Nat.le_refl 0) ⟨_, rfl, rfl, hG, h⟩
  · rw [if_neg hc] at h
    refine mm_aload_n (j := 0) dX12_qTold_15 rfl rfl ?_
    refine mm_getR (ci := 12) (N := 116) (r := 239) dX12_qTold_16 fX12_243 sh_164 rfl (g_164_104 hG) ?_
    refine mm_iload_n (j := 2) dX12_qTold_19 rfl rfl ?_
    obtain ⟨hi20, h⟩ := h
    refine mm_iaload (N := 1700) dX12_qTold_20 sh_239 hi20 ?_
    refine mm_istore_n (lv' := [(3, .int (M.1 239 (y2).toNatClampNeg)), (0, .ref 164), (1, .int y1), (2, .int y2)]) dX12_qTold_21 rfl (by decide) rfl ?_
    refine mm_iload_n (j := 0) dX12_qTold_22 rfl rfl ?_
    refine mm_sipush (x := 1000) dX12_qTold_23 rfl ?_
    refine mm_icmp_lt (tgt := 42) dX12_qTold_26 (by decide) (fun hc => ?_) (fun hc => ?_)
    · rw [if_pos hc] at h
      refine mm_iload_n (j := 0) dX12_qTold_42 rfl rfl ?_
      refine mm_bipush (x := 60) dX12_qTold_43 rfl ?_
      refine mm_icmp_lt (tgt := 85) dX12_qTold_45 (by decide) (fun hc => ?_) (fun hc => ?_)
      · rw [if_pos hc] at h
        refine mm_iload_n (j := 0) dX12_qTold_85 rfl rfl ?_
        refine mm_bipush (x := 40) dX12_qTold_86 rfl ?_
        refine mm_icmp_lt (tgt := 110) dX12_qTold_88 (by decide) (fun hc => ?_) (fun hc => ?_)
        · rw [if_pos hc] at h
          refine mm_iload_n (j := 0) dX12_qTold_110 rfl rfl ?_
          refine mm_bipush (x := 13) dX12_qTold_111 rfl ?_
          refine mm_icmp_ne (tgt := 124) dX12_qTold_113 (by decide) (fun hc => ?_) (fun hc => ?_)
          · rw [if_neg hc] at h
            refine mm_iload_n (j := 0) dX12_qTold_124 rfl rfl ?_
            refine mm_bipush (x := 12) dX12_qTold_125 rfl ?_
            refine mm_icmp_ne (tgt := 157) dX12_qTold_127 (by decide) (fun hc => ?_) (fun hc => ?_)
            · rw [if_neg hc] at h
              refine mm_aload_n (j := 1) dX12_qTold_157 rfl rfl ?_
              refine mm_iload_n (j := 0) dX12_qTold_158 rfl rfl ?_
              refine mm_kVV [.int (M.1 239 (y2).toNatClampNeg)] dX12_qTold_159 kX12_436 rfl sh_164 (by decide) (by decide) h (fun m159 hG h => ?_)
              refine mm_iinc (j := 3) (v := y2 + 1) (lv' := [(2, .int (y2 + 1)), (3, .int (M.1 239 (y2).toNatClampNeg)), (0, .ref 164), (1, .int y1)]) dX12_qTold_162 rfl rfl (by decide) rfl ?_
              refine mm_goto (tgt := 7) dX12_qTold_165 (by decide) ?_
              exact mm_sub [2, 3, 0] rfl h
            · rw [if_pos hc] at h
              refine mm_aload_n (j := 1) dX12_qTold_130 rfl rfl ?_
              refine mm_getR (ci := 12) (N := 116) (r := 241) dX12_qTold_131 fX12_249 sh_164 rfl (g_164_110 hG) ?_
              refine mm_aload_n (j := 1) dX12_qTold_134 rfl rfl ?_
              refine mm_getI (ci := 12) (N := 116) dX12_qTold_135 fX12_422 sh_164 rfl ?_
              refine mm_iconst (x := 1) dX12_qTold_138 rfl ?_
              refine mm_isub dX12_qTold_139 ?_
              refine mm_lconst (x := 1) dX12_qTold_140 rfl ?_
              refine mm_aload_n (j := 1) dX12_qTold_141 rfl rfl ?_
              refine mm_getR (ci := 12) (N := 116) (r := 241) dX12_qTold_142 fX12_249 sh_164 rfl (g_164_110 hG) ?_
              refine mm_aload_n (j := 1) dX12_qTold_145 rfl rfl ?_
              refine mm_getI (ci := 12) (N := 116) dX12_qTold_146 fX12_422 sh_164 rfl ?_
              refine mm_iconst (x := 1) dX12_qTold_149 rfl ?_
              refine mm_isub dX12_qTold_150 ?_
              obtain ⟨hi151, h⟩ := h
              refine mm_laload (N := 1700) dX12_qTold_151 sh_241 hi151 ?_
              refine mm_lsub dX12_qTold_152 ?_
              obtain ⟨hi153, h⟩ := h
              refine mm_lastore (N := 1700) dX12_qTold_153 sh_241 hi153 ?_
              refine mm_goto (tgt := 162) dX12_qTold_154 (by decide) ?_
              refine mm_iinc (j := 3) (v := y2 + 1) (lv' := [(2, .int (y2 + 1)), (3, .int (M.1 239 (y2).toNatClampNeg)), (0, .ref 164), (1, .int y1)]) dX12_qTold_162 rfl rfl (by decide) rfl ?_
              refine mm_goto (tgt := 7) dX12_qTold_165 (by decide) ?_
              exact mm_sub [2, 3, 0] rfl h
          · rw [if_pos hc] at h
            refine mm_aload_n (j := 1) dX12_qTold_116 rfl rfl ?_
            refine mm_lconst (x := 1) dX12_qTold_117 rfl ?_
            refine mm_kVV [.long 1] dX12_qTold_118 kX12_425 rfl sh_164 (by decide) (by decide) h (fun m118 hG h => ?_)
            refine mm_goto (tgt := 162) dX12_qTold_121 (by decide) ?_
            refine mm_iinc (j := 3) (v := y2 + 1) (lv' := [(2, .int (y2 + 1)), (3, .int (M.1 239 (y2).toNatClampNeg)), (0, .ref 164), (1, .int y1)]) dX12_qTold_162 rfl rfl (by decide) rfl ?_
            refine mm_goto (tgt := 7) dX12_qTold_165 (by decide) ?_
            exact mm_sub [2, 3, 0] rfl h
        · rw [if_neg hc] at h
          refine mm_aload_n (j := 1) dX12_qTold_91 rfl rfl ?_
          refine mm_aload_n (j := 1) dX12_qTold_92 rfl rfl ?_
          refine mm_iload_n (j := 0) dX12_qTold_93 rfl rfl ?_
          refine mm_bipush (x := 40) dX12_qTold_94 rfl ?_
          refine mm_isub dX12_qTold_96 ?_
          refine mm_iload_n (j := 2) dX12_qTold_97 rfl rfl ?_
          refine mm_kVL [.int ((M.1 239 (y2).toNatClampNeg) - 40), .int y1] dX12_qTold_98 kX12_432 rfl sh_164 (by decide) (by decide) h (fun z98 m98 hG h => ?_)
          refine mm_kSL [.long z98] dX12_qTold_101 kX12_700 rfl (by decide) (by decide) h (fun z101 m101 hG h => ?_)
          refine mm_kVV [.long z101] dX12_qTold_104 kX12_425 rfl sh_164 (by decide) (by decide) h (fun m104 hG h => ?_)
          refine mm_goto (tgt := 162) dX12_qTold_107 (by decide) ?_
          refine mm_iinc (j := 3) (v := y2 + 1) (lv' := [(2, .int (y2 + 1)), (3, .int (M.1 239 (y2).toNatClampNeg)), (0, .ref 164), (1, .int y1)]) dX12_qTold_162 rfl rfl (by decide) rfl ?_
          refine mm_goto (tgt := 7) dX12_qTold_165 (by decide) ?_
          exact mm_sub [2, 3, 0] rfl h
      · rw [if_neg hc] at h
        refine mm_aload_n (j := 1) dX12_qTold_48 rfl rfl ?_
        refine mm_getR (ci := 12) (N := 116) (r := 241) dX12_qTold_49 fX12_249 sh_164 rfl (g_164_110 hG) ?_
        refine mm_aload_n (j := 1) dX12_qTold_52 rfl rfl ?_
        refine mm_getI (ci := 12) (N := 116) dX12_qTold_53 fX12_422 sh_164 rfl ?_
        refine mm_iconst (x := 1) dX12_qTold_56 rfl ?_
        refine mm_isub dX12_qTold_57 ?_
        refine mm_aload_n (j := 1) dX12_qTold_58 rfl rfl ?_
        refine mm_iload_n (j := 0) dX12_qTold_59 rfl rfl ?_
        refine mm_bipush (x := 60) dX12_qTold_60 rfl ?_
        refine mm_isub dX12_qTold_62 ?_
        refine mm_aload_n (j := 1) dX12_qTold_63 rfl rfl ?_
        refine mm_getR (ci := 12) (N := 116) (r := 241) dX12_qTold_64 fX12_249 sh_164 rfl (g_164_110 hG) ?_
        refine mm_aload_n (j := 1) dX12_qTold_67 rfl rfl ?_
        refine mm_getI (ci := 12) (N := 116) dX12_qTold_68 fX12_422 sh_164 rfl ?_
        refine mm_iconst (x := 1) dX12_qTold_71 rfl ?_
        refine mm_isub dX12_qTold_72 ?_
        obtain ⟨hi73, h⟩ := h
        refine mm_laload (N := 1700) dX12_qTold_73 sh_241 hi73 ?_
        refine mm_iload_n (j := 2) dX12_qTold_74 rfl rfl ?_
        refine mm_kVL [.int ((M.1 239 (y2).toNatClampNeg) - 60), .long (M.2.1 241 ((M.1 164 111) - 1).toNatClampNeg), .int y1] dX12_qTold_75 kX12_708 rfl sh_164 (by decide) (by decide) h (fun z75 m75 hG h => ?_)
        refine mm_kSL [.long z75] dX12_qTold_78 kX12_700 rfl (by decide) (by decide) h (fun z78 m78 hG h => ?_)
        obtain ⟨hi81, h⟩ := h
        refine mm_lastore (N := 1700) dX12_qTold_81 sh_241 hi81 ?_
        refine mm_goto (tgt := 162) dX12_qTold_82 (by decide) ?_
        refine mm_iinc (j := 3) (v := y2 + 1) (lv' := [(2, .int (y2 + 1)), (3, .int (M.1 239 (y2).toNatClampNeg)), (0, .ref 164), (1, .int y1)]) dX12_qTold_162 rfl rfl (by decide) rfl ?_
        refine mm_goto (tgt := 7) dX12_qTold_165 (by decide) ?_
        exact mm_sub [2, 3, 0] rfl h
    · rw [if_neg hc] at h
      refine mm_aload_n (j := 1) dX12_qTold_29 rfl rfl ?_
      refine mm_iload_n (j := 0) dX12_qTold_30 rfl rfl ?_
      refine mm_sipush (x := 1000) dX12_qTold_31 rfl ?_
      refine mm_isub dX12_qTold_34 ?_
      refine mm_i2l dX12_qTold_35 ?_
      refine mm_kVV [.long (((M.1 239 (y2).toNatClampNeg) - 1000).toInt64)] dX12_qTold_36 kX12_425 rfl sh_164 (by decide) (by decide) h (fun m36 hG h => ?_)
      refine mm_goto (tgt := 162) dX12_qTold_39 (by decide) ?_
      refine mm_iinc (j := 3) (v := y2 + 1) (lv' := [(2, .int (y2 + 1)), (3, .int (M.1 239 (y2).toNatClampNeg)), (0, .ref 164), (1, .int y1)]) dX12_qTold_162 rfl rfl (by decide) rfl ?_
      refine mm_goto (tgt := 7) dX12_qTold_165 (by decide) ?_
      exact mm_sub [2, 3, 0] rfl h
set_option maxRecDepth 100000 in
set_option maxHeartbeats 4000000 in
theorem rX12_qKind {d : Nat} {M : mm_M} {K : Int32 → mm_M → Prop} (hG : mm_G M.2.2) (h : mm_CI mX12_takes d [.ref 164, .ref 217] M (fun z5 m5 => if z5 = 0 then (mm_CI mX12_takes d [.ref 164, .ref 218] m5 (fun z20 m20 => if z20 = 0 then (mm_CI mX12_takes d [.ref 164, .ref 219] m20 (fun z35 m35 => if z35 = 0 then (mm_CI mX12_takes d [.ref 164, .ref 220] m35 (fun z50 m50 => if z50 = 0 then (mm_CI mX12_takes d [.ref 164, .ref 221] m50 (fun z65 m65 => if z65 = 0 then (mm_CV mX12_asks d [.ref 164, .ref 222] m65 (fun m87 => K 5 m87)) else (K 4 m65))) else (K 3 m50))) else (K 2 m35))) else (K 1 m20))) else (K 0 m5))) : mm_CI mX12_qKind (d + 1) [.ref 164] M K := by
  show mm_W mX12_qKind (d + 1) 0 0 0 [(0, .ref 164)] [] mm_SH M 0 0 (mm_PI K)
  refine mm_aload_n (j := 0) dX12_qKind_0 rfl rfl ?_
  refine mm_aload_n (j := 0) dX12_qKind_1 rfl rfl ?_
  refine mm_getR (ci := 12) (N := 116) (r := 217) dX12_qKind_2 fX12_177 sh_164 rfl (g_164_82 hG) ?_
  refine mm_kVI [.ref 217] dX12_qKind_5 kX12_287 rfl sh_164 (by decide) (by decide) h (fun z5 m5 hG h => ?_)
  refine mm_if_eq (tgt := 15) dX12_qKind_8 (by decide) (fun hc => ?_) (fun hc => ?_)
  · rw [if_pos hc] at h
    refine mm_aload_n (j := 0) dX12_qKind_15 rfl rfl ?_
    refine mm_aload_n (j := 0) dX12_qKind_16 rfl rfl ?_
    refine mm_getR (ci := 12) (N := 116) (r := 218) dX12_qKind_17 fX12_180 sh_164 rfl (g_164_83 hG) ?_
    refine mm_kVI [.ref 218] dX12_qKind_20 kX12_287 rfl sh_164 (by decide) (by decide) h (fun z20 m20 hG h => ?_)
    refine mm_if_eq (tgt := 30) dX12_qKind_23 (by decide) (fun hc => ?_) (fun hc => ?_)
    · rw [if_pos hc] at h
      refine mm_aload_n (j := 0) dX12_qKind_30 rfl rfl ?_
      refine mm_aload_n (j := 0) dX12_qKind_31 rfl rfl ?_
      refine mm_getR (ci := 12) (N := 116) (r := 219) dX12_qKind_32 fX12_183 sh_164 rfl (g_164_84 hG) ?_
      refine mm_kVI [.ref 219] dX12_qKind_35 kX12_287 rfl sh_164 (by decide) (by decide) h (fun z35 m35 hG h => ?_)
      refine mm_if_eq (tgt := 45) dX12_qKind_38 (by decide) (fun hc => ?_) (fun hc => ?_)
      · rw [if_pos hc] at h
        refine mm_aload_n (j := 0) dX12_qKind_45 rfl rfl ?_
        refine mm_aload_n (j := 0) dX12_qKind_46 rfl rfl ?_
        refine mm_getR (ci := 12) (N := 116) (r := 220) dX12_qKind_47 fX12_186 sh_164 rfl (g_164_85 hG) ?_
        refine mm_kVI [.ref 220] dX12_qKind_50 kX12_287 rfl sh_164 (by decide) (by decide) h (fun z50 m50 hG h => ?_)
        refine mm_if_eq (tgt := 60) dX12_qKind_53 (by decide) (fun hc => ?_) (fun hc => ?_)
        · rw [if_pos hc] at h
          refine mm_aload_n (j := 0) dX12_qKind_60 rfl rfl ?_
          refine mm_aload_n (j := 0) dX12_qKind_61 rfl rfl ?_
          refine mm_getR (ci := 12) (N := 116) (r := 221) dX12_qKind_62 fX12_189 sh_164 rfl (g_164_86 hG) ?_
          refine mm_kVI [.ref 221] dX12_qKind_65 kX12_287 rfl sh_164 (by decide) (by decide) h (fun z65 m65 hG h => ?_)
          refine mm_if_eq (tgt := 75) dX12_qKind_68 (by decide) (fun hc => ?_) (fun hc => ?_)
          · rw [if_pos hc] at h
            refine mm_iconst (x := 5) dX12_qKind_75 rfl ?_
            refine mm_istore_n (lv' := [(1, .int 5), (0, .ref 164)]) dX12_qKind_76 rfl (by decide) rfl ?_
            refine mm_iload_n (j := 0) dX12_qKind_77 rfl rfl ?_
            refine mm_iconst (x := 5) dX12_qKind_78 rfl ?_
            refine mm_icmp_ne (tgt := 90) dX12_qKind_79 (by decide) (fun hc => ?_) (fun hc => ?_)
            · exact absurd hc (by decide)
            · refine mm_aload_n (j := 1) dX12_qKind_82 rfl rfl ?_
              refine mm_aload_n (j := 1) dX12_qKind_83 rfl rfl ?_
              refine mm_getR (ci := 12) (N := 116) (r := 222) dX12_qKind_84 fX12_192 sh_164 rfl (g_164_87 hG) ?_
              refine mm_kVV [.ref 222] dX12_qKind_87 kX12_325 rfl sh_164 (by decide) (by decide) h (fun m87 hG h => ?_)
              refine mm_iload_n (j := 0) dX12_qKind_90 rfl rfl ?_
              exact mm_iret dX12_qKind_91 rfl (Nat.le_refl 0) (Nat.le_refl 0) ⟨_, rfl, rfl, hG, h⟩
          · rw [if_neg hc] at h
            refine mm_iconst (x := 4) dX12_qKind_71 rfl ?_
            refine mm_goto (tgt := 76) dX12_qKind_72 (by decide) ?_
            refine mm_istore_n (lv' := [(1, .int 4), (0, .ref 164)]) dX12_qKind_76 rfl (by decide) rfl ?_
            refine mm_iload_n (j := 0) dX12_qKind_77 rfl rfl ?_
            refine mm_iconst (x := 5) dX12_qKind_78 rfl ?_
            refine mm_icmp_ne (tgt := 90) dX12_qKind_79 (by decide) (fun hc => ?_) (fun hc => ?_)
            · refine mm_iload_n (j := 0) dX12_qKind_90 rfl rfl ?_
              exact mm_iret dX12_qKind_91 rfl (Nat.le_refl 0) (Nat.le_refl 0) ⟨_, rfl, rfl, hG, h⟩
            · exact absurd hc (by decide)
        · rw [if_neg hc] at h
          refine mm_iconst (x := 3) dX12_qKind_56 rfl ?_
          refine mm_goto (tgt := 76) dX12_qKind_57 (by decide) ?_
          refine mm_istore_n (lv' := [(1, .int 3), (0, .ref 164)]) dX12_qKind_76 rfl (by decide) rfl ?_
          refine mm_iload_n (j := 0) dX12_qKind_77 rfl rfl ?_
          refine mm_iconst (x := 5) dX12_qKind_78 rfl ?_
          refine mm_icmp_ne (tgt := 90) dX12_qKind_79 (by decide) (fun hc => ?_) (fun hc => ?_)
          · refine mm_iload_n (j := 0) dX12_qKind_90 rfl rfl ?_
            exact mm_iret dX12_qKind_91 rfl (Nat.le_refl 0) (Nat.le_refl 0) ⟨_, rfl, rfl, hG, h⟩
          · exact absurd hc (by decide)
      · rw [if_neg hc] at h
        refine mm_iconst (x := 2) dX12_qKind_41 rfl ?_
        refine mm_goto (tgt := 76) dX12_qKind_42 (by decide) ?_
        refine mm_istore_n (lv' := [(1, .int 2), (0, .ref 164)]) dX12_qKind_76 rfl (by decide) rfl ?_
        refine mm_iload_n (j := 0) dX12_qKind_77 rfl rfl ?_
        refine mm_iconst (x := 5) dX12_qKind_78 rfl ?_
        refine mm_icmp_ne (tgt := 90) dX12_qKind_79 (by decide) (fun hc => ?_) (fun hc => ?_)
        · refine mm_iload_n (j := 0) dX12_qKind_90 rfl rfl ?_
          exact mm_iret dX12_qKind_91 rfl (Nat.le_refl 0) (Nat.le_refl 0) ⟨_, rfl, rfl, hG, h⟩
        · exact absurd hc (by decide)
    · rw [if_neg hc] at h
      refine mm_iconst (x := 1) dX12_qKind_26 rfl ?_
      refine mm_goto (tgt := 76) dX12_qKind_27 (by decide) ?_
      refine mm_istore_n (lv' := [(1, .int 1), (0, .ref 164)]) dX12_qKind_76 rfl (by decide) rfl ?_
      refine mm_iload_n (j := 0) dX12_qKind_77 rfl rfl ?_
      refine mm_iconst (x := 5) dX12_qKind_78 rfl ?_
      refine mm_icmp_ne (tgt := 90) dX12_qKind_79 (by decide) (fun hc => ?_) (fun hc => ?_)
      · refine mm_iload_n (j := 0) dX12_qKind_90 rfl rfl ?_
        exact mm_iret dX12_qKind_91 rfl (Nat.le_refl 0) (Nat.le_refl 0) ⟨_, rfl, rfl, hG, h⟩
      · exact absurd hc (by decide)
  · rw [if_neg hc] at h
    refine mm_iconst (x := 0) dX12_qKind_11 rfl ?_
    refine mm_goto (tgt := 76) dX12_qKind_12 (by decide) ?_
    refine mm_istore_n (lv' := [(1, .int 0), (0, .ref 164)]) dX12_qKind_76 rfl (by decide) rfl ?_
    refine mm_iload_n (j := 0) dX12_qKind_77 rfl rfl ?_
    refine mm_iconst (x := 5) dX12_qKind_78 rfl ?_
    refine mm_icmp_ne (tgt := 90) dX12_qKind_79 (by decide) (fun hc => ?_) (fun hc => ?_)
    · refine mm_iload_n (j := 0) dX12_qKind_90 rfl rfl ?_
      exact mm_iret dX12_qKind_91 rfl (Nat.le_refl 0) (Nat.le_refl 0) ⟨_, rfl, rfl, hG, h⟩
    · exact absurd hc (by decide)
def jX12_qTakes_16 (d : Nat) (x1 : Int32) (x2 : Int64) (x4 : Int32) (M : mm_M) (K : mm_M → Prop) (y1 : Int32) (y2 : Int64) (y4 : Int32) (u0 : Int32) : Prop := mm_W mX12_qTakes d 0 0 16 [(0, .ref 164), (1, .int y1), (2, .long y2), (4, .int y4)] [.int u0] mm_SH M 0 0 (mm_PV K)
def jX12_qTakes_55 (d : Nat) (x1 : Int32) (x2 : Int64) (x4 : Int32) (M : mm_M) (K : mm_M → Prop) (y1 : Int32) (y2 : Int64) (y5 : Int32) : Prop := mm_W mX12_qTakes d 0 0 55 [(0, .ref 164), (1, .int y1), (2, .long y2), (5, .int y5)] [] mm_SH M 0 0 (mm_PV K)
def jX12_qTakes_90 (d : Nat) (x1 : Int32) (x2 : Int64) (x4 : Int32) (M : mm_M) (K : mm_M → Prop) (y1 : Int32) (y2 : Int64) : Prop := mm_W mX12_qTakes d 0 0 90 [(0, .ref 164), (1, .int y1), (2, .long y2)] [] mm_SH M 0 0 (mm_PV K)
set_option maxRecDepth 100000 in
set_option maxHeartbeats 4000000 in
theorem rX12_qTakes {d : Nat} {x1 : Int32} {x2 : Int64} {x4 : Int32} {M : mm_M} {K : mm_M → Prop} (hG : mm_G M.2.2) (h : if 3 ≤ x1 then (jX12_qTakes_16 d x1 x2 x4 M K x1 x2 x4 0) else (if x2 = 1 then (jX12_qTakes_16 d x1 x2 x4 M K x1 x2 x4 1) else (jX12_qTakes_16 d x1 x2 x4 M K x1 x2 x4 0))) : mm_CV mX12_qTakes d [.ref 164, .int x1, .long x2, .int x4] M K := by
  show mm_W mX12_qTakes d 0 0 0 [(0, .ref 164), (1, .int x1), (2, .long x2), (4, .int x4)] [] mm_SH M 0 0 (mm_PV K)
  refine mm_iload_n (j := 1) dX12_qTakes_0 rfl rfl ?_
  refine mm_iconst (x := 3) dX12_qTakes_1 rfl ?_
  refine mm_icmp_ge (tgt := 15) dX12_qTakes_2 (by decide) (fun hc => ?_) (fun hc => ?_)
  · rw [if_pos hc] at h
    refine mm_iconst (x := 0) dX12_qTakes_15 rfl ?_
    exact h
  · rw [if_neg hc] at h
    refine mm_lload_n (j := 2) dX12_qTakes_5 rfl rfl ?_
    refine mm_lconst (x := 1) dX12_qTakes_6 rfl ?_
    refine mm_lcmp dX12_qTakes_7 ?_
    refine mm_if_ne (tgt := 15) dX12_qTakes_8 (by decide) (fun hc => ?_) (fun hc => ?_)
    · rw [if_neg (fun q => hc (lgc_eq.mpr q))] at h
      refine mm_iconst (x := 0) dX12_qTakes_15 rfl ?_
      exact h
    · rw [if_pos (lgc_eq.mp hc)] at h
      refine mm_iconst (x := 1) dX12_qTakes_11 rfl ?_
      refine mm_goto (tgt := 16) dX12_qTakes_12 (by decide) ?_
      exact h
set_option maxRecDepth 100000 in
set_option maxHeartbeats 4000000 in
theorem lX12_qTakes_16 {d : Nat} {x1 : Int32} {x2 : Int64} {x4 : Int32} {M : mm_M} {K : mm_M → Prop} {y1 : Int32} {y2 : Int64} {y4 : Int32} {u0 : Int32} (hG : mm_G M.2.2) (h : if y1 = 0 then (if u0 = 0 then (if y1 = 1 then (if u0 = 0 then (jX12_qTakes_55 d x1 x2 x4 M K y1 y2 u0) else (jX12_qTakes_55 d x1 x2 x4 (mm_uL M 164 112 y4.toInt64) K y1 y2 u0)) else (jX12_qTakes_55 d x1 x2 x4 M K y1 y2 u0)) else (if (M.2.1 164 112) = (-1) then (jX12_qTakes_55 d x1 x2 x4 (mm_uL M 164 112 y4.toInt64) K y1 y2 u0) else (if y1 = 1 then (if u0 = 0 then (jX12_qTakes_55 d x1 x2 x4 M K y1 y2 u0) else (jX12_qTakes_55 d x1 x2 x4 (mm_uL M 164 112 y4.toInt64) K y1 y2 u0)) else (jX12_qTakes_55 d x1 x2 x4 M K y1 y2 u0)))) else (if y1 = 1 then (if u0 = 0 then (jX12_qTakes_55 d x1 x2 x4 M K y1 y2 u0) else (jX12_qTakes_55 d x1 x2 x4 (mm_uL M 164 112 y4.toInt64) K y1 y2 u0)) else (jX12_qTakes_55 d x1 x2 x4 M K y1 y2 u0))) : jX12_qTakes_16 d x1 x2 x4 M K y1 y2 y4 u0 := by
  unfold jX12_qTakes_16
  refine mm_istore (lv' := [(5, .int u0), (0, .ref 164), (1, .int y1), (2, .long y2), (4, .int y4)]) dX12_qTakes_16 (by decide) rfl ?_
  refine mm_iload_n (j := 2) dX12_qTakes_18 rfl rfl ?_
  refine mm_if_ne (tgt := 38) dX12_qTakes_19 (by decide) (fun hc => ?_) (fun hc => ?_)
  · rw [if_neg hc] at h
    refine mm_iload_n (j := 2) dX12_qTakes_38 rfl rfl ?_
    refine mm_iconst (x := 1) dX12_qTakes_39 rfl ?_
    refine mm_icmp_ne (tgt := 55) dX12_qTakes_40 (by decide) (fun hc => ?_) (fun hc => ?_)
    · rw [if_neg hc] at h
      exact mm_sub [1, 2, 3, 0] rfl h
    · rw [if_pos hc] at h
      refine mm_iload (j := 0) dX12_qTakes_43 rfl ?_
      refine mm_if_eq (tgt := 55) dX12_qTakes_45 (by decide) (fun hc => ?_) (fun hc => ?_)
      · rw [if_pos hc] at h
        exact mm_sub [1, 2, 3, 0] rfl h
      · rw [if_neg hc] at h
        refine mm_aload_n (j := 1) dX12_qTakes_48 rfl rfl ?_
        refine mm_iload (j := 4) dX12_qTakes_49 rfl ?_
        refine mm_i2l dX12_qTakes_51 ?_
        refine mm_putL (ci := 12) (N := 116) dX12_qTakes_52 fX12_712 sh_164 (by decide +kernel) rfl ?_
        exact mm_sub [1, 2, 3, 0] rfl h
  · rw [if_pos hc] at h
    refine mm_iload (j := 0) dX12_qTakes_22 rfl ?_
    refine mm_if_eq (tgt := 38) dX12_qTakes_24 (by decide) (fun hc => ?_) (fun hc => ?_)
    · rw [if_pos hc] at h
      refine mm_iload_n (j := 2) dX12_qTakes_38 rfl rfl ?_
      refine mm_iconst (x := 1) dX12_qTakes_39 rfl ?_
      refine mm_icmp_ne (tgt := 55) dX12_qTakes_40 (by decide) (fun hc => ?_) (fun hc => ?_)
      · rw [if_neg hc] at h
        exact mm_sub [1, 2, 3, 0] rfl h
      · rw [if_pos hc] at h
        refine mm_iload (j := 0) dX12_qTakes_43 rfl ?_
        refine mm_if_eq (tgt := 55) dX12_qTakes_45 (by decide) (fun hc => ?_) (fun hc => ?_)
        · rw [if_pos hc] at h
          exact mm_sub [1, 2, 3, 0] rfl h
        · rw [if_neg hc] at h
          refine mm_aload_n (j := 1) dX12_qTakes_48 rfl rfl ?_
          refine mm_iload (j := 4) dX12_qTakes_49 rfl ?_
          refine mm_i2l dX12_qTakes_51 ?_
          refine mm_putL (ci := 12) (N := 116) dX12_qTakes_52 fX12_712 sh_164 (by decide +kernel) rfl ?_
          exact mm_sub [1, 2, 3, 0] rfl h
    · rw [if_neg hc] at h
      refine mm_aload_n (j := 1) dX12_qTakes_27 rfl rfl ?_
      refine mm_getL (ci := 12) (N := 116) dX12_qTakes_28 fX12_712 sh_164 rfl ?_
      refine mm_ldc2 (x := (-1)) dX12_qTakes_31 cX12_587 ?_
      refine mm_lcmp dX12_qTakes_34 ?_
      refine mm_if_eq (tgt := 48) dX12_qTakes_35 (by decide) (fun hc => ?_) (fun hc => ?_)
      · rw [if_pos (lgc_eq.mp hc)] at h
        refine mm_aload_n (j := 1) dX12_qTakes_48 rfl rfl ?_
        refine mm_iload (j := 4) dX12_qTakes_49 rfl ?_
        refine mm_i2l dX12_qTakes_51 ?_
        refine mm_putL (ci := 12) (N := 116) dX12_qTakes_52 fX12_712 sh_164 (by decide +kernel) rfl ?_
        exact mm_sub [1, 2, 3, 0] rfl h
      · rw [if_neg (fun q => hc (lgc_eq.mpr q))] at h
        refine mm_iload_n (j := 2) dX12_qTakes_38 rfl rfl ?_
        refine mm_iconst (x := 1) dX12_qTakes_39 rfl ?_
        refine mm_icmp_ne (tgt := 55) dX12_qTakes_40 (by decide) (fun hc => ?_) (fun hc => ?_)
        · rw [if_neg hc] at h
          exact mm_sub [1, 2, 3, 0] rfl h
        · rw [if_pos hc] at h
          refine mm_iload (j := 0) dX12_qTakes_43 rfl ?_
          refine mm_if_eq (tgt := 55) dX12_qTakes_45 (by decide) (fun hc => ?_) (fun hc => ?_)
          · rw [if_pos hc] at h
            exact mm_sub [1, 2, 3, 0] rfl h
          · rw [if_neg hc] at h
            refine mm_aload_n (j := 1) dX12_qTakes_48 rfl rfl ?_
            refine mm_iload (j := 4) dX12_qTakes_49 rfl ?_
            refine mm_i2l dX12_qTakes_51 ?_
            refine mm_putL (ci := 12) (N := 116) dX12_qTakes_52 fX12_712 sh_164 (by decide +kernel) rfl ?_
            exact mm_sub [1, 2, 3, 0] rfl h
set_option maxRecDepth 100000 in
set_option maxHeartbeats 4000000 in
theorem lX12_qTakes_55 {d : Nat} {x1 : Int32} {x2 : Int64} {x4 : Int32} {M : mm_M} {K : mm_M → Prop} {y1 : Int32} {y2 : Int64} {y5 : Int32} (hG : mm_G M.2.2) (h : if y1 = 2 then (if y5 = 0 then (if y1 = 3 then (jX12_qTakes_90 d x1 x2 x4 (mm_uL M 164 112 ((M.2.1 164 112) + y2)) K y1 y2) else (jX12_qTakes_90 d x1 x2 x4 M K y1 y2)) else (if y1 = 3 then (jX12_qTakes_90 d x1 x2 x4 (mm_uL (mm_uL M 164 112 ((M.2.1 164 112) + 1)) 164 112 (((mm_uL M 164 112 ((M.2.1 164 112) + 1)).2.1 164 112) + y2)) K y1 y2) else (jX12_qTakes_90 d x1 x2 x4 (mm_uL M 164 112 ((M.2.1 164 112) + 1)) K y1 y2))) else (if y1 = 3 then (jX12_qTakes_90 d x1 x2 x4 (mm_uL M 164 112 ((M.2.1 164 112) + y2)) K y1 y2) else (jX12_qTakes_90 d x1 x2 x4 M K y1 y2))) : jX12_qTakes_55 d x1 x2 x4 M K y1 y2 y5 := by
  unfold jX12_qTakes_55
  refine mm_iload_n (j := 1) dX12_qTakes_55 rfl rfl ?_
  refine mm_iconst (x := 2) dX12_qTakes_56 rfl ?_
  refine mm_icmp_ne (tgt := 75) dX12_qTakes_57 (by decide) (fun hc => ?_) (fun hc => ?_)
  · rw [if_neg hc] at h
    refine mm_iload_n (j := 1) dX12_qTakes_75 rfl rfl ?_
    refine mm_iconst (x := 3) dX12_qTakes_76 rfl ?_
    refine mm_icmp_ne (tgt := 90) dX12_qTakes_77 (by decide) (fun hc => ?_) (fun hc => ?_)
    · rw [if_neg hc] at h
      exact mm_sub [0, 1, 2] rfl h
    · rw [if_pos hc] at h
      refine mm_aload_n (j := 0) dX12_qTakes_80 rfl rfl ?_
      refine mm_dup dX12_qTakes_81 rfl ?_
      refine mm_getL (ci := 12) (N := 116) dX12_qTakes_82 fX12_712 sh_164 rfl ?_
      refine mm_lload_n (j := 2) dX12_qTakes_85 rfl rfl ?_
      refine mm_ladd dX12_qTakes_86 ?_
      refine mm_putL (ci := 12) (N := 116) dX12_qTakes_87 fX12_712 sh_164 (by decide +kernel) rfl ?_
      exact mm_sub [0, 1, 2] rfl h
  · rw [if_pos hc] at h
    refine mm_iload (j := 3) dX12_qTakes_60 rfl ?_
    refine mm_if_eq (tgt := 75) dX12_qTakes_62 (by decide) (fun hc => ?_) (fun hc => ?_)
    · rw [if_pos hc] at h
      refine mm_iload_n (j := 1) dX12_qTakes_75 rfl rfl ?_
      refine mm_iconst (x := 3) dX12_qTakes_76 rfl ?_
      refine mm_icmp_ne (tgt := 90) dX12_qTakes_77 (by decide) (fun hc => ?_) (fun hc => ?_)
      · rw [if_neg hc] at h
        exact mm_sub [0, 1, 2] rfl h
      · rw [if_pos hc] at h
        refine mm_aload_n (j := 0) dX12_qTakes_80 rfl rfl ?_
        refine mm_dup dX12_qTakes_81 rfl ?_
        refine mm_getL (ci := 12) (N := 116) dX12_qTakes_82 fX12_712 sh_164 rfl ?_
        refine mm_lload_n (j := 2) dX12_qTakes_85 rfl rfl ?_
        refine mm_ladd dX12_qTakes_86 ?_
        refine mm_putL (ci := 12) (N := 116) dX12_qTakes_87 fX12_712 sh_164 (by decide +kernel) rfl ?_
        exact mm_sub [0, 1, 2] rfl h
    · rw [if_neg hc] at h
      refine mm_aload_n (j := 0) dX12_qTakes_65 rfl rfl ?_
      refine mm_dup dX12_qTakes_66 rfl ?_
      refine mm_getL (ci := 12) (N := 116) dX12_qTakes_67 fX12_712 sh_164 rfl ?_
      refine mm_lconst (x := 1) dX12_qTakes_70 rfl ?_
      refine mm_ladd dX12_qTakes_71 ?_
      refine mm_putL (ci := 12) (N := 116) dX12_qTakes_72 fX12_712 sh_164 (by decide +kernel) rfl ?_
      refine mm_iload_n (j := 1) dX12_qTakes_75 rfl rfl ?_
      refine mm_iconst (x := 3) dX12_qTakes_76 rfl ?_
      refine mm_icmp_ne (tgt := 90) dX12_qTakes_77 (by decide) (fun hc => ?_) (fun hc => ?_)
      · rw [if_neg hc] at h
        exact mm_sub [0, 1, 2] rfl h
      · rw [if_pos hc] at h
        refine mm_aload_n (j := 0) dX12_qTakes_80 rfl rfl ?_
        refine mm_dup dX12_qTakes_81 rfl ?_
        refine mm_getL (ci := 12) (N := 116) dX12_qTakes_82 fX12_712 sh_164 rfl ?_
        refine mm_lload_n (j := 2) dX12_qTakes_85 rfl rfl ?_
        refine mm_ladd dX12_qTakes_86 ?_
        refine mm_putL (ci := 12) (N := 116) dX12_qTakes_87 fX12_712 sh_164 (by decide +kernel) rfl ?_
        exact mm_sub [0, 1, 2] rfl h
set_option maxRecDepth 100000 in
set_option maxHeartbeats 4000000 in
theorem lX12_qTakes_90 {d : Nat} {x1 : Int32} {x2 : Int64} {x4 : Int32} {M : mm_M} {K : mm_M → Prop} {y1 : Int32} {y2 : Int64} (hG : mm_G M.2.2) (h : if y1 ≤ 3 then (K (mm_uI M 164 113 0)) else (if (M.1 164 113) = 0 then (if y1 = 4 then (if y2 ≤ (M.2.1 164 112) then (K (mm_uI M 164 113 0)) else (K (mm_uI (mm_uL M 164 112 y2) 164 113 0))) else (if (M.2.1 164 112) ≤ y2 then (K (mm_uI M 164 113 0)) else (K (mm_uI (mm_uL M 164 112 y2) 164 113 0)))) else (K (mm_uI (mm_uL M 164 112 y2) 164 113 0)))) : jX12_qTakes_90 d x1 x2 x4 M K y1 y2 := by
  unfold jX12_qTakes_90
  refine mm_iload_n (j := 1) dX12_qTakes_90 rfl rfl ?_
  refine mm_iconst (x := 3) dX12_qTakes_91 rfl ?_
  refine mm_icmp_le (tgt := 133) dX12_qTakes_92 (by decide) (fun hc => ?_) (fun hc => ?_)
  · rw [if_pos hc] at h
    refine mm_aload_n (j := 0) dX12_qTakes_133 rfl rfl ?_
    refine mm_iconst (x := 0) dX12_qTakes_134 rfl ?_
    refine mm_putI (ci := 12) (N := 116) dX12_qTakes_135 fX12_715 sh_164 (by decide +kernel) rfl rfl rfl ?_
    exact mm_vret dX12_qTakes_138 rfl (Nat.le_refl 0) (Nat.le_refl 0) ⟨rfl, rfl, hG, h⟩
  · rw [if_neg hc] at h
    refine mm_aload_n (j := 0) dX12_qTakes_95 rfl rfl ?_
    refine mm_getI (ci := 12) (N := 116) dX12_qTakes_96 fX12_715 sh_164 rfl ?_
    refine mm_if_ne (tgt := 128) dX12_qTakes_99 (by decide) (fun hc => ?_) (fun hc => ?_)
    · rw [if_neg hc] at h
      refine mm_aload_n (j := 0) dX12_qTakes_128 rfl rfl ?_
      refine mm_lload_n (j := 2) dX12_qTakes_129 rfl rfl ?_
      refine mm_putL (ci := 12) (N := 116) dX12_qTakes_130 fX12_712 sh_164 (by decide +kernel) rfl ?_
      refine mm_aload_n (j := 0) dX12_qTakes_133 rfl rfl ?_
      refine mm_iconst (x := 0) dX12_qTakes_134 rfl ?_
      refine mm_putI (ci := 12) (N := 116) dX12_qTakes_135 fX12_715 sh_164 (by decide +kernel) rfl rfl rfl ?_
      exact mm_vret dX12_qTakes_138 rfl (Nat.le_refl 0) (Nat.le_refl 0) ⟨rfl, rfl, hG, h⟩
    · rw [if_pos hc] at h
      refine mm_iload_n (j := 1) dX12_qTakes_102 rfl rfl ?_
      refine mm_iconst (x := 4) dX12_qTakes_103 rfl ?_
      refine mm_icmp_ne (tgt := 119) dX12_qTakes_104 (by decide) (fun hc => ?_) (fun hc => ?_)
      · rw [if_neg hc] at h
        refine mm_lload_n (j := 2) dX12_qTakes_119 rfl rfl ?_
        refine mm_aload_n (j := 0) dX12_qTakes_120 rfl rfl ?_
        refine mm_getL (ci := 12) (N := 116) dX12_qTakes_121 fX12_712 sh_164 rfl ?_
        refine mm_lcmp dX12_qTakes_124 ?_
        refine mm_if_ge (tgt := 133) dX12_qTakes_125 (by decide) (fun hc => ?_) (fun hc => ?_)
        · rw [if_pos (lgc_ge.mp hc)] at h
          refine mm_aload_n (j := 0) dX12_qTakes_133 rfl rfl ?_
          refine mm_iconst (x := 0) dX12_qTakes_134 rfl ?_
          refine mm_putI (ci := 12) (N := 116) dX12_qTakes_135 fX12_715 sh_164 (by decide +kernel) rfl rfl rfl ?_
          exact mm_vret dX12_qTakes_138 rfl (Nat.le_refl 0) (Nat.le_refl 0) ⟨rfl, rfl, hG, h⟩
        · rw [if_neg (fun q => hc (lgc_ge.mpr q))] at h
          refine mm_aload_n (j := 0) dX12_qTakes_128 rfl rfl ?_
          refine mm_lload_n (j := 2) dX12_qTakes_129 rfl rfl ?_
          refine mm_putL (ci := 12) (N := 116) dX12_qTakes_130 fX12_712 sh_164 (by decide +kernel) rfl ?_
          refine mm_aload_n (j := 0) dX12_qTakes_133 rfl rfl ?_
          refine mm_iconst (x := 0) dX12_qTakes_134 rfl ?_
          refine mm_putI (ci := 12) (N := 116) dX12_qTakes_135 fX12_715 sh_164 (by decide +kernel) rfl rfl rfl ?_
          exact mm_vret dX12_qTakes_138 rfl (Nat.le_refl 0) (Nat.le_refl 0) ⟨rfl, rfl, hG, h⟩
      · rw [if_pos hc] at h
        refine mm_lload_n (j := 2) dX12_qTakes_107 rfl rfl ?_
        refine mm_aload_n (j := 0) dX12_qTakes_108 rfl rfl ?_
        refine mm_getL (ci := 12) (N := 116) dX12_qTakes_109 fX12_712 sh_164 rfl ?_
        refine mm_lcmp dX12_qTakes_112 ?_
        refine mm_if_le (tgt := 133) dX12_qTakes_113 (by decide) (fun hc => ?_) (fun hc => ?_)
        · rw [if_pos (lgc_le.mp hc)] at h
          refine mm_aload_n (j := 0) dX12_qTakes_133 rfl rfl ?_
          refine mm_iconst (x := 0) dX12_qTakes_134 rfl ?_
          refine mm_putI (ci := 12) (N := 116) dX12_qTakes_135 fX12_715 sh_164 (by decide +kernel) rfl rfl rfl ?_
          exact mm_vret dX12_qTakes_138 rfl (Nat.le_refl 0) (Nat.le_refl 0) ⟨rfl, rfl, hG, h⟩
        · rw [if_neg (fun q => hc (lgc_le.mpr q))] at h
          refine mm_goto (tgt := 128) dX12_qTakes_116 (by decide) ?_
          refine mm_aload_n (j := 0) dX12_qTakes_128 rfl rfl ?_
          refine mm_lload_n (j := 2) dX12_qTakes_129 rfl rfl ?_
          refine mm_putL (ci := 12) (N := 116) dX12_qTakes_130 fX12_712 sh_164 (by decide +kernel) rfl ?_
          refine mm_aload_n (j := 0) dX12_qTakes_133 rfl rfl ?_
          refine mm_iconst (x := 0) dX12_qTakes_134 rfl ?_
          refine mm_putI (ci := 12) (N := 116) dX12_qTakes_135 fX12_715 sh_164 (by decide +kernel) rfl rfl rfl ?_
          exact mm_vret dX12_qTakes_138 rfl (Nat.le_refl 0) (Nat.le_refl 0) ⟨rfl, rfl, hG, h⟩
