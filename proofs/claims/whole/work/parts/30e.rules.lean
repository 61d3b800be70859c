def jX12_ask_109 (d : Nat) (M : mm_M) (K : Int64 → mm_M → Prop) (y1 : Int32) : Prop := mm_W mX12_ask (d + 1) 0 0 109 [(0, .ref 164), (1, .int y1)] [] mm_SH M 0 0 (mm_PL K)
def jX12_ask_133 (d : Nat) (M : mm_M) (K : Int64 → mm_M → Prop) (y1 : Int32) : Prop := mm_W mX12_ask (d + 1) 0 0 133 [(0, .ref 164), (1, .int y1)] [] mm_SH M 0 0 (mm_PL K)
def jX12_ask_183 (d : Nat) (M : mm_M) (K : Int64 → mm_M → Prop) (y1 : Int32) (y2 : Int32) : Prop := mm_W mX12_ask (d + 1) 0 0 183 [(0, .ref 164), (1, .int y1), (2, .int y2)] [] mm_SH M 0 0 (mm_PL K)
def jX12_ask_253 (d : Nat) (M : mm_M) (K : Int64 → mm_M → Prop) (y1 : Int32) (y2 : Int32) : Prop := mm_W mX12_ask (d + 1) 0 0 253 [(0, .ref 164), (1, .int y1), (2, .int y2)] [] mm_SH M 0 0 (mm_PL K)
def jX12_ask_193 (d : Nat) (M : mm_M) (K : Int64 → mm_M → Prop) (y1 : Int32) (y2 : Int32) (y3 : Int32) : Prop := mm_W mX12_ask (d + 1) 0 0 193 [(0, .ref 164), (1, .int y1), (2, .int y2), (3, .int y3)] [] mm_SH M 0 0 (mm_PL K)
set_option maxRecDepth 100000 in
set_option maxHeartbeats 4000000 in
theorem rX12_ask {d : Nat} {M : mm_M} {K : Int64 → mm_M → Prop} (hG : mm_G M.2.2) (h : if (M.1 164 48) = 0 then (K (-1000000000000000) (mm_uI M 164 1 0)) else (mm_CI mX12_qKind d [.ref 164] (mm_uI (mm_uI (mm_uI (mm_uI (mm_uI (mm_uI (mm_uI (mm_uI (mm_uI (mm_uI (mm_uI M 164 3 (M.1 164 1)) 164 1 0) 164 2 0) 164 4 (-1)) 164 5 0) 164 6 (-1)) 164 49 3) 164 105 0) 164 107 0) 164 108 0) 164 109 0) (fun z75 m75 => if (m75.1 164 5) = 0 then (if 3 ≤ z75 then (if (m75.1 164 5) = 0 then (mm_CV mX12_qSums d [.ref 164] m75 (fun m106 => jX12_ask_109 d m106 K z75)) else (jX12_ask_109 d m75 K z75)) else (mm_CV mX12_qTest d [.ref 164] m75 (fun m92 => jX12_ask_109 d m92 K z75))) else (if (m75.1 164 5) = 0 then (mm_CV mX12_qSums d [.ref 164] m75 (fun m106 => jX12_ask_109 d m106 K z75)) else (jX12_ask_109 d m75 K z75))))) : mm_CL mX12_ask (d + 1) [.ref 164] M K := by
  show mm_W mX12_ask (d + 1) 0 0 0 [(0, .ref 164)] [] mm_SH M 0 0 (mm_PL K)
  refine mm_aload_n (j := 0) dX12_ask_0 rfl rfl ?_
  refine mm_getI (ci := 12) (N := 116) dX12_ask_1 fX12_399 sh_164 rfl ?_
  refine mm_if_ne (tgt := 16) dX12_ask_4 (by decide) (fun hc => ?_) (fun hc => ?_)
  · rw [if_neg hc] at h
    refine mm_aload_n (j := 0) dX12_ask_16 rfl rfl ?_
    refine mm_aload_n (j := 0) dX12_ask_17 rfl rfl ?_
    refine mm_getI (ci := 12) (N := 116) dX12_ask_18 fX12_257 sh_164 rfl ?_
    refine mm_putI (ci := 12) (N := 116) dX12_ask_21 fX12_269 sh_164 (by decide +kernel) rfl rfl rfl ?_
    refine mm_aload_n (j := 0) dX12_ask_24 rfl rfl ?_
    refine mm_iconst (x := 0) dX12_ask_25 rfl ?_
    refine mm_putI (ci := 12) (N := 116) dX12_ask_26 fX12_257 sh_164 (by decide +kernel) rfl rfl rfl ?_
    refine mm_aload_n (j := 0) dX12_ask_29 rfl rfl ?_
    refine mm_iconst (x := 0) dX12_ask_30 rfl ?_
    refine mm_putI (ci := 12) (N := 116) dX12_ask_31 fX12_266 sh_164 (by decide +kernel) rfl rfl rfl ?_
    refine mm_aload_n (j := 0) dX12_ask_34 rfl rfl ?_
    refine mm_iconst (x := (-1)) dX12_ask_35 rfl ?_
    refine mm_putI (ci := 12) (N := 116) dX12_ask_36 fX12_280 sh_164 (by decide +kernel) rfl rfl rfl ?_
    refine mm_aload_n (j := 0) dX12_ask_39 rfl rfl ?_
    refine mm_iconst (x := 0) dX12_ask_40 rfl ?_
    refine mm_putI (ci := 12) (N := 116) dX12_ask_41 fX12_260 sh_164 (by decide +kernel) rfl rfl rfl ?_
    refine mm_aload_n (j := 0) dX12_ask_44 rfl rfl ?_
    refine mm_iconst (x := (-1)) dX12_ask_45 rfl ?_
    refine mm_putI (ci := 12) (N := 116) dX12_ask_46 fX12_263 sh_164 (by decide +kernel) rfl rfl rfl ?_
    refine mm_aload_n (j := 0) dX12_ask_49 rfl rfl ?_
    refine mm_iconst (x := 3) dX12_ask_50 rfl ?_
    refine mm_putI (ci := 12) (N := 116) dX12_ask_51 fX12_318 sh_164 (by decide +kernel) rfl rfl rfl ?_
    refine mm_aload_n (j := 0) dX12_ask_54 rfl rfl ?_
    refine mm_iconst (x := 0) dX12_ask_55 rfl ?_
    refine mm_putI (ci := 12) (N := 116) dX12_ask_56 fX12_354 sh_164 (by decide +kernel) rfl rfl rfl ?_
    refine mm_aload_n (j := 0) dX12_ask_59 rfl rfl ?_
    refine mm_iconst (x := 0) dX12_ask_60 rfl ?_
    refine mm_putI (ci := 12) (N := 116) dX12_ask_61 fX12_357 sh_164 (by decide +kernel) rfl rfl rfl ?_
    refine mm_aload_n (j := 0) dX12_ask_64 rfl rfl ?_
    refine mm_iconst (x := 0) dX12_ask_65 rfl ?_
    refine mm_putI (ci := 12) (N := 116) dX12_ask_66 fX12_360 sh_164 (by decide +kernel) rfl rfl rfl ?_
    refine mm_aload_n (j := 0) dX12_ask_69 rfl rfl ?_
    refine mm_iconst (x := 0) dX12_ask_70 rfl ?_
    refine mm_putI (ci := 12) (N := 116) dX12_ask_71 fX12_363 sh_164 (by decide +kernel) rfl rfl rfl ?_
    refine mm_aload_n (j := 0) dX12_ask_74 rfl rfl ?_
    refine mm_kVI [] dX12_ask_75 kX12_720 rfl sh_164 (by decide) (by decide) h (fun z75 m75 hG h => ?_)
    refine mm_istore_n (lv' := [(1, .int z75), (0, .ref 164)]) dX12_ask_78 rfl (by decide) rfl ?_
    refine mm_aload_n (j := 1) dX12_ask_79 rfl rfl ?_
    refine mm_getI (ci := 12) (N := 116) dX12_ask_80 fX12_260 sh_164 rfl ?_
    refine mm_if_ne (tgt := 98) dX12_ask_83 (by decide) (fun hc => ?_) (fun hc => ?_)
    · rw [if_neg hc] at h
      refine mm_aload_n (j := 1) dX12_ask_98 rfl rfl ?_
      refine mm_getI (ci := 12) (N := 116) dX12_ask_99 fX12_260 sh_164 rfl ?_
      refine mm_if_ne (tgt := 109) dX12_ask_102 (by decide) (fun hc => ?_) (fun hc => ?_)
      · rw [if_neg hc] at h
        exact mm_sub [1, 0] rfl h
      · rw [if_pos hc] at h
        refine mm_aload_n (j := 1) dX12_ask_105 rfl rfl ?_
        refine mm_kVV [] dX12_ask_106 kX12_369 rfl sh_164 (by decide) (by decide) h (fun m106 hG h => ?_)
        exact mm_sub [1, 0] rfl h
    · rw [if_pos hc] at h
      refine mm_iload_n (j := 0) dX12_ask_86 rfl rfl ?_
      refine mm_iconst (x := 3) dX12_ask_87 rfl ?_
      refine mm_icmp_ge (tgt := 98) dX12_ask_88 (by decide) (fun hc => ?_) (fun hc => ?_)
      · rw [if_pos hc] at h
        refine mm_aload_n (j := 1) dX12_ask_98 rfl rfl ?_
        refine mm_getI (ci := 12) (N := 116) dX12_ask_99 fX12_260 sh_164 rfl ?_
        refine mm_if_ne (tgt := 109) dX12_ask_102 (by decide) (fun hc => ?_) (fun hc => ?_)
        · rw [if_neg hc] at h
          exact mm_sub [1, 0] rfl h
        · rw [if_pos hc] at h
          refine mm_aload_n (j := 1) dX12_ask_105 rfl rfl ?_
          refine mm_kVV [] dX12_ask_106 kX12_369 rfl sh_164 (by decide) (by decide) h (fun m106 hG h => ?_)
          exact mm_sub [1, 0] rfl h
      · rw [if_neg hc] at h
        refine mm_aload_n (j := 1) dX12_ask_91 rfl rfl ?_
        refine mm_kVV [] dX12_ask_92 kX12_366 rfl sh_164 (by decide) (by decide) h (fun m92 hG h => ?_)
        refine mm_goto (tgt := 109) dX12_ask_95 (by decide) ?_
        exact mm_sub [1, 0] rfl h
  · rw [if_pos hc] at h
    refine mm_aload_n (j := 0) dX12_ask_7 rfl rfl ?_
    refine mm_iconst (x := 0) dX12_ask_8 rfl ?_
    refine mm_putI (ci := 12) (N := 116) dX12_ask_9 fX12_257 sh_164 (by decide +kernel) rfl rfl rfl ?_
    refine mm_ldc2 (x := (-1000000000000000)) dX12_ask_12 cX12_718 ?_
    exact mm_lret dX12_ask_15 rfl (Nat.le_refl 0) (Nat.le_refl 0) ⟨_, rfl, rfl, hG, h⟩
set_option maxRecDepth 100000 in
set_option maxHeartbeats 4000000 in
theorem lX12_ask_109 {d : Nat} {M : mm_M} {K : Int64 → mm_M → Prop} {y1 : Int32} (hG : mm_G M.2.2) (h : if (M.1 164 5) = 0 then (mm_CI mX12_look d [.ref 164] M (fun z117 m117 => if z117 = (-1) then (jX12_ask_133 d m117 K y1) else (mm_CV mX12_fail d [.ref 164, .int 1, .int (m117.1 164 2)] m117 (fun m130 => jX12_ask_133 d m130 K y1)))) else (jX12_ask_133 d M K y1)) : jX12_ask_109 d  M K y1 := by
  unfold jX12_ask_109
  refine mm_aload_n (j := 0) dX12_ask_109 rfl rfl ?_
  refine mm_getI (ci := 12) (N := 116) dX12_ask_110 fX12_260 sh_164 rfl ?_
  refine mm_if_ne (tgt := 133) dX12_ask_113 (by decide) (fun hc => ?_) (fun hc => ?_)
  · rw [if_neg hc] at h
    exact h
  · rw [if_pos hc] at h
    refine mm_aload_n (j := 0) dX12_ask_116 rfl rfl ?_
    refine mm_kVI [] dX12_ask_117 kX12_272 rfl sh_164 (by decide) (by decide) h (fun z117 m117 hG h => ?_)
    refine mm_iconst (x := (-1)) dX12_ask_120 rfl ?_
    refine mm_icmp_eq (tgt := 133) dX12_ask_121 (by decide) (fun hc => ?_) (fun hc => ?_)
    · rw [if_pos hc] at h
      exact h
    · rw [if_neg hc] at h
      refine mm_aload_n (j := 0) dX12_ask_124 rfl rfl ?_
      refine mm_iconst (x := 1) dX12_ask_125 rfl ?_
      refine mm_aload_n (j := 0) dX12_ask_126 rfl rfl ?_
      refine mm_getI (ci := 12) (N := 116) dX12_ask_127 fX12_266 sh_164 rfl ?_
      refine mm_kVV [.int 1, .int (m117.1 164 2)] dX12_ask_130 kX12_290 rfl sh_164 (by decide) (by decide) h (fun m130 hG h => ?_)
      exact h
set_option maxRecDepth 100000 in
set_option maxHeartbeats 4000000 in
theorem lX12_ask_133 {d : Nat} {M : mm_M} {K : Int64 → mm_M → Prop} {y1 : Int32} (hG : mm_G M.2.2) (h : if ((mm_uI (mm_uI M 164 7 (M.1 164 5)) 164 8 ((mm_uI M 164 7 (M.1 164 5)).1 164 6)).1 164 5) = 0 then (if 2 ≤ y1 then (jX12_ask_183 d (mm_uI (mm_uL (mm_uI (mm_uI M 164 7 (M.1 164 5)) 164 8 ((mm_uI M 164 7 (M.1 164 5)).1 164 6)) 164 112 0) 164 113 1) K y1 0) else (jX12_ask_183 d (mm_uI (mm_uL (mm_uI (mm_uI M 164 7 (M.1 164 5)) 164 8 ((mm_uI M 164 7 (M.1 164 5)).1 164 6)) 164 112 (-1)) 164 113 1) K y1 0)) else (K (-1000000000000000) (mm_uI (mm_uI M 164 7 (M.1 164 5)) 164 8 ((mm_uI M 164 7 (M.1 164 5)).1 164 6)))) : jX12_ask_133 d  M K y1 := by
  unfold jX12_ask_133
  refine mm_aload_n (j := 0) dX12_ask_133 rfl rfl ?_
  refine mm_aload_n (j := 0) dX12_ask_134 rfl rfl ?_
  refine mm_getI (ci := 12) (N := 116) dX12_ask_135 fX12_260 sh_164 rfl ?_
  refine mm_putI (ci := 12) (N := 116) dX12_ask_138 fX12_393 sh_164 (by decide +kernel) rfl rfl rfl ?_
  refine mm_aload_n (j := 0) dX12_ask_141 rfl rfl ?_
  refine mm_aload_n (j := 0) dX12_ask_142 rfl rfl ?_
  refine mm_getI (ci := 12) (N := 116) dX12_ask_143 fX12_263 sh_164 rfl ?_
  refine mm_putI (ci := 12) (N := 116) dX12_ask_146 fX12_13 sh_164 (by decide +kernel) rfl rfl rfl ?_
  refine mm_aload_n (j := 0) dX12_ask_149 rfl rfl ?_
  refine mm_getI (ci := 12) (N := 116) dX12_ask_150 fX12_260 sh_164 rfl ?_
  refine mm_if_eq (tgt := 160) dX12_ask_153 (by decide) (fun hc => ?_) (fun hc => ?_)
  · rw [if_pos hc] at h
    refine mm_aload_n (j := 0) dX12_ask_160 rfl rfl ?_
    refine mm_iload_n (j := 1) dX12_ask_161 rfl rfl ?_
    refine mm_iconst (x := 2) dX12_ask_162 rfl ?_
    refine mm_icmp_ge (tgt := 172) dX12_ask_163 (by decide) (fun hc => ?_) (fun hc => ?_)
    · rw [if_pos hc] at h
      refine mm_lconst (x := 0) dX12_ask_172 rfl ?_
      refine mm_putL (ci := 12) (N := 116) dX12_ask_173 fX12_712 sh_164 (by decide +kernel) rfl ?_
      refine mm_aload_n (j := 0) dX12_ask_176 rfl rfl ?_
      refine mm_iconst (x := 1) dX12_ask_177 rfl ?_
      refine mm_putI (ci := 12) (N := 116) dX12_ask_178 fX12_715 sh_164 (by decide +kernel) rfl rfl rfl ?_
      refine mm_iconst (x := 0) dX12_ask_181 rfl ?_
      refine mm_istore_n (lv' := [(2, .int 0), (0, .ref 164), (1, .int y1)]) dX12_ask_182 rfl (by decide) rfl ?_
      exact mm_sub [1, 2, 0] rfl h
    · rw [if_neg hc] at h
      refine mm_ldc2 (x := (-1)) dX12_ask_166 cX12_587 ?_
      refine mm_goto (tgt := 173) dX12_ask_169 (by decide) ?_
      refine mm_putL (ci := 12) (N := 116) dX12_ask_173 fX12_712 sh_164 (by decide +kernel) rfl ?_
      refine mm_aload_n (j := 0) dX12_ask_176 rfl rfl ?_
      refine mm_iconst (x := 1) dX12_ask_177 rfl ?_
      refine mm_putI (ci := 12) (N := 116) dX12_ask_178 fX12_715 sh_164 (by decide +kernel) rfl rfl rfl ?_
      refine mm_iconst (x := 0) dX12_ask_181 rfl ?_
      refine mm_istore_n (lv' := [(2, .int 0), (0, .ref 164), (1, .int y1)]) dX12_ask_182 rfl (by decide) rfl ?_
      exact mm_sub [1, 2, 0] rfl h
  · rw [if_neg hc] at h
    refine mm_ldc2 (x := (-1000000000000000)) dX12_ask_156 cX12_718 ?_
    exact mm_lret dX12_ask_159 rfl (Nat.le_refl 0) (Nat.le_refl 0) ⟨_, rfl, rfl, hG, h⟩
set_option maxRecDepth 100000 in
set_option maxHeartbeats 4000000 in
theorem lX12_ask_183 {d : Nat} {M : mm_M} {K : Int64 → mm_M → Prop} {y1 : Int32} {y2 : Int32} (hG : mm_G M.2.2) (h : mm_CI mX12_houseMany d [.ref 164] M (fun z185 m185 => if z185 ≤ y2 then (jX12_ask_253 d (mm_uI m185 164 49 3) K y1 0) else (jX12_ask_193 d m185 K y1 y2 0))) : jX12_ask_183 d  M K y1 y2 := by
  unfold jX12_ask_183
  refine mm_iload_n (j := 2) dX12_ask_183 rfl rfl ?_
  refine mm_aload_n (j := 0) dX12_ask_184 rfl rfl ?_
  refine mm_kVI [] dX12_ask_185 kX12_412 rfl sh_164 (by decide) (by decide) h (fun z185 m185 hG h => ?_)
  refine mm_icmp_ge (tgt := 246) dX12_ask_188 (by decide) (fun hc => ?_) (fun hc => ?_)
  · rw [if_pos hc] at h
    refine mm_aload_n (j := 0) dX12_ask_246 rfl rfl ?_
    refine mm_iconst (x := 3) dX12_ask_247 rfl ?_
    refine mm_putI (ci := 12) (N := 116) dX12_ask_248 fX12_318 sh_164 (by decide +kernel) rfl rfl rfl ?_
    refine mm_iconst (x := 0) dX12_ask_251 rfl ?_
    refine mm_istore_n (lv' := [(2, .int 0), (0, .ref 164), (1, .int y1)]) dX12_ask_252 rfl (by decide) rfl ?_
    exact mm_sub [1, 2, 0] rfl h
  · rw [if_neg hc] at h
    refine mm_iconst (x := 0) dX12_ask_191 rfl ?_
    refine mm_istore_n (lv' := [(3, .int 0), (0, .ref 164), (1, .int y1), (2, .int y2)]) dX12_ask_192 rfl (by decide) rfl ?_
    exact mm_sub [1, 2, 3, 0] rfl h
set_option maxRecDepth 100000 in
set_option maxHeartbeats 4000000 in
theorem lX12_ask_253 {d : Nat} {M : mm_M} {K : Int64 → mm_M → Prop} {y1 : Int32} {y2 : Int32} (hG : mm_G M.2.2) (h : mm_CI mX12_houseMany d [.ref 164] M (fun z255 m255 => if z255 ≤ y2 then (K (m255.2.1 164 112) m255) else (mm_CI mX12_isThere d [.ref 164, .int y2] m255 (fun z263 m263 => if z263 = 0 then (jX12_ask_253 d m263 K y1 (y2 + 1)) else (mm_CL mX12_qTold d [.ref 164, .int y2] (mm_uI (mm_uI m263 164 52 y2) 164 53 y2) (fun z286 m286 => mm_CV mX12_qTakes d [.ref 164, .int y1, .long z286, .int y2] m286 (fun m290 => jX12_ask_253 d m290 K y1 (y2 + 1)))))))) : jX12_ask_253 d  M K y1 y2 := by
  unfold jX12_ask_253
  refine mm_iload_n (j := 2) dX12_ask_253 rfl rfl ?_
  refine mm_aload_n (j := 0) dX12_ask_254 rfl rfl ?_
  refine mm_kVI [] dX12_ask_255 kX12_412 rfl sh_164 (by decide) (by decide) h (fun z255 m255 hG h => ?_)
  refine mm_icmp_ge (tgt := 299) dX12_ask_258 (by decide) (fun hc => ?_) (fun hc => ?_)
  · rw [if_pos hc] at h
    refine mm_aload_n (j := 0) dX12_ask_299 rfl rfl ?_
    refine mm_getL (ci := 12) (N := 116) dX12_ask_300 fX12_712 sh_164 rfl ?_
    exact mm_lret dX12_ask_303 rfl (Nat.le_refl 0) (Nat.le_refl 0) ⟨_, rfl, rfl, hG, h⟩
  · rw [if_neg hc] at h
    refine mm_aload_n (j := 0) dX12_ask_261 rfl rfl ?_
    refine mm_iload_n (j := 2) dX12_ask_262 rfl rfl ?_
    refine mm_kVI [.int y2] dX12_ask_263 kX12_462 rfl sh_164 (by decide) (by decide) h (fun z263 m263 hG h => ?_)
    refine mm_if_ne (tgt := 272) dX12_ask_266 (by decide) (fun hc => ?_) (fun hc => ?_)
    · rw [if_neg hc] at h
      refine mm_aload_n (j := 0) dX12_ask_272 rfl rfl ?_
      refine mm_iload_n (j := 2) dX12_ask_273 rfl rfl ?_
      refine mm_putI (ci := 12) (N := 116) dX12_ask_274 fX12_429 sh_164 (by decide +kernel) rfl rfl rfl ?_
      refine mm_aload_n (j := 0) dX12_ask_277 rfl rfl ?_
      refine mm_iload_n (j := 2) dX12_ask_278 rfl rfl ?_
      refine mm_putI (ci := 12) (N := 116) dX12_ask_279 fX12_439 sh_164 (by decide +kernel) rfl rfl rfl ?_
      refine mm_aload_n (j := 0) dX12_ask_282 rfl rfl ?_
      refine mm_iload_n (j := 1) dX12_ask_283 rfl rfl ?_
      refine mm_aload_n (j := 0) dX12_ask_284 rfl rfl ?_
      refine mm_iload_n (j := 2) dX12_ask_285 rfl rfl ?_
      refine mm_kVL [.int y2] dX12_ask_286 kX12_723 rfl sh_164 (by decide) (by decide) h (fun z286 m286 hG h => ?_)
      refine mm_iload_n (j := 2) dX12_ask_289 rfl rfl ?_
      refine mm_kVV [.int y1, .long z286, .int y2] dX12_ask_290 kX12_726 rfl sh_164 (by decide) (by decide) h (fun m290 hG h => ?_)
      refine mm_iinc (j := 2) (v := y2 + 1) (lv' := [(2, .int (y2 + 1)), (0, .ref 164), (1, .int y1)]) dX12_ask_293 rfl rfl (by decide) rfl ?_
      refine mm_goto (tgt := 253) dX12_ask_296 (by decide) ?_
      exact mm_sub [1, 2, 0] rfl h
    · rw [if_pos hc] at h
      refine mm_goto (tgt := 293) dX12_ask_269 (by decide) ?_
      refine mm_iinc (j := 2) (v := y2 + 1) (lv' := [(2, .int (y2 + 1)), (0, .ref 164), (1, .int y1)]) dX12_ask_293 rfl rfl (by decide) rfl ?_
      refine mm_goto (tgt := 253) dX12_ask_296 (by decide) ?_
      exact mm_sub [1, 2, 0] rfl h
set_option maxRecDepth 100000 in
set_option maxHeartbeats 4000000 in
theorem lX12_ask_193 {d : Nat} {M : mm_M} {K : Int64 → mm_M → Prop} {y1 : Int32} {y2 : Int32} {y3 : Int32} (hG : mm_G M.2.2) (h : mm_CI mX12_houseMany d [.ref 164] M (fun z195 m195 => if z195 ≤ y3 then (jX12_ask_183 d m195 K y1 (y2 + 1)) else (mm_CI mX12_areEnemies d [.ref 164, .int y2, .int y3] m195 (fun z214 m214 => if z214 = 0 then (vp_in ((7 * y2) + y3) 49 ∧ jX12_ask_193 d (mm_uL m214 201 ((7 * y2) + y3).toNatClampNeg (-1)) K y1 y2 (y3 + 1)) else (mm_CI mX12_tasteOf d [.ref 164, .int y3, .int y2] m214 (fun z223 m223 => vp_in ((7 * y2) + y3) 49 ∧ jX12_ask_193 d (mm_uL m223 201 ((7 * y2) + y3).toNatClampNeg z223.toInt64) K y1 y2 (y3 + 1))))))) : jX12_ask_193 d  M K y1 y2 y3 := by
  unfold jX12_ask_193
  refine mm_iload_n (j := 3) dX12_ask_193 rfl rfl ?_
  refine mm_aload_n (j := 0) dX12_ask_194 rfl rfl ?_
  refine mm_kVI [] dX12_ask_195 kX12_412 rfl sh_164 (by decide) (by decide) h (fun z195 m195 hG h => ?_)
  refine mm_icmp_ge (tgt := 240) dX12_ask_198 (by decide) (fun hc => ?_) (fun hc => ?_)
  · rw [if_pos hc] at h
    refine mm_iinc (j := 2) (v := y2 + 1) (lv' := [(2, .int (y2 + 1)), (0, .ref 164), (1, .int y1), (3, .int y3)]) dX12_ask_240 rfl rfl (by decide) rfl ?_
    refine mm_goto (tgt := 183) dX12_ask_243 (by decide) ?_
    exact mm_sub [1, 2, 0] rfl h
  · rw [if_neg hc] at h
    refine mm_aload_n (j := 0) dX12_ask_201 rfl rfl ?_
    refine mm_getR (ci := 12) (N := 116) (r := 201) dX12_ask_202 fX12_124 sh_164 rfl (g_164_56 hG) ?_
    refine mm_bipush (x := 7) dX12_ask_205 rfl ?_
    refine mm_iload_n (j := 2) dX12_ask_207 rfl rfl ?_
    refine mm_imul dX12_ask_208 ?_
    refine mm_iload_n (j := 3) dX12_ask_209 rfl rfl ?_
    refine mm_iadd dX12_ask_210 ?_
    refine mm_aload_n (j := 0) dX12_ask_211 rfl rfl ?_
    refine mm_iload_n (j := 2) dX12_ask_212 rfl rfl ?_
    refine mm_iload_n (j := 3) dX12_ask_213 rfl rfl ?_
    refine mm_kVI [.int y2, .int y3] dX12_ask_214 kX12_418 rfl sh_164 (by decide) (by decide) h (fun z214 m214 hG h => ?_)
    refine mm_if_eq (tgt := 230) dX12_ask_217 (by decide) (fun hc => ?_) (fun hc => ?_)
    · rw [if_pos hc] at h
      refine mm_ldc2 (x := (-1)) dX12_ask_230 cX12_587 ?_
      obtain ⟨hi233, h⟩ := h
      refine mm_lastore (N := 49) dX12_ask_233 sh_201 hi233 ?_
      refine mm_iinc (j := 3) (v := y3 + 1) (lv' := [(3, .int (y3 + 1)), (0, .ref 164), (1, .int y1), (2, .int y2)]) dX12_ask_234 rfl rfl (by decide) rfl ?_
      refine mm_goto (tgt := 193) dX12_ask_237 (by decide) ?_
      exact mm_sub [1, 2, 3, 0] rfl h
    · rw [if_neg hc] at h
      refine mm_aload_n (j := 0) dX12_ask_220 rfl rfl ?_
      refine mm_iload_n (j := 3) dX12_ask_221 rfl rfl ?_
      refine mm_iload_n (j := 2) dX12_ask_222 rfl rfl ?_
      refine mm_kVI [.int y3, .int y2] dX12_ask_223 kX12_486 rfl sh_164 (by decide) (by decide) h (fun z223 m223 hG h => ?_)
      refine mm_i2l dX12_ask_226 ?_
      refine mm_goto (tgt := 233) dX12_ask_227 (by decide) ?_
      obtain ⟨hi233, h⟩ := h
      refine mm_lastore (N := 49) dX12_ask_233 sh_201 hi233 ?_
      refine mm_iinc (j := 3) (v := y3 + 1) (lv' := [(3, .int (y3 + 1)), (0, .ref 164), (1, .int y1), (2, .int y2)]) dX12_ask_234 rfl rfl (by decide) rfl ?_
      refine mm_goto (tgt := 193) dX12_ask_237 (by decide) ?_
      exact mm_sub [1, 2, 3, 0] rfl h
def jX12_checked_6 (d : Nat) (r0 : Nat) (n0 : Nat) (x1 : Int32) (M : mm_M) (K : Int32 → mm_M → Prop) (y1 : Int32) (y2 : Int32) (y3 : Int32) : Prop := mm_W mX12_checked d 0 0 6 [(0, .ref r0), (1, .int y1), (2, .int y2), (3, .int y3)] [] mm_SH M 0 0 (mm_PI K)
set_option maxRecDepth 100000 in
set_option maxHeartbeats 4000000 in
theorem rX12_checked {d : Nat} {r0 : Nat} {n0 : Nat} {x1 : Int32} {M : mm_M} {K : Int32 → mm_M → Prop} (hr0 : mm_SH[r0]? = some (0, n0)) (hG : mm_G M.2.2) (h : jX12_checked_6 d r0 n0 x1 M K x1 233 0) : mm_CI mX12_checked d [.ref r0, .int x1] M K := by
  show mm_W mX12_checked d 0 0 0 [(0, .ref r0), (1, .int x1)] [] mm_SH M 0 0 (mm_PI K)
  refine mm_sipush (x := 233) dX12_checked_0 rfl ?_
  refine mm_istore_n (lv' := [(2, .int 233), (0, .ref r0), (1, .int x1)]) dX12_checked_3 rfl (by decide) rfl ?_
  refine mm_iconst (x := 0) dX12_checked_4 rfl ?_
  refine mm_istore_n (lv' := [(3, .int 0), (2, .int 233), (0, .ref r0), (1, .int x1)]) dX12_checked_5 rfl (by decide) rfl ?_
  exact mm_sub [2, 3, 1, 0] rfl h
set_option maxRecDepth 100000 in
set_option maxHeartbeats 4000000 in
theorem lX12_checked_6 {d : Nat} {r0 : Nat} {n0 : Nat} {x1 : Int32} {M : mm_M} {K : Int32 → mm_M → Prop} {y1 : Int32} {y2 : Int32} {y3 : Int32} (hr0 : mm_SH[r0]? = some (0, n0)) (hG : mm_G M.2.2) (h : if y1 ≤ y3 then (K y2 M) else (vp_in y3 n0 ∧ jX12_checked_6 d r0 n0 x1 M K y1 (((3 * y2) + (M.1 r0 (y3).toNatClampNeg)) - ((3 * y2) + (M.1 r0 (y3).toNatClampNeg)) / 251 * 251) (y3 + 1))) : jX12_checked_6 d r0 n0 x1 M K y1 y2 y3 := by
  unfold jX12_checked_6
  refine mm_iload_n (j := 3) dX12_checked_6 rfl rfl ?_
  refine mm_iload_n (j := 1) dX12_checked_7 rfl rfl ?_
  refine mm_icmp_ge (tgt := 29) dX12_checked_8 (by decide) (fun hc => ?_) (fun hc => ?_)
  · rw [if_pos hc] at h
    refine mm_iload_n (j := 2) dX12_checked_29 rfl rfl ?_
    exact mm_iret dX12_checked_30 rfl (Nat.le_refl 0) (Nat.le_refl 0) ⟨_, rfl, rfl, hG, h⟩
  · rw [if_neg hc] at h
    refine mm_iconst (x := 3) dX12_checked_11 rfl ?_
    refine mm_iload_n (j := 2) dX12_checked_12 rfl rfl ?_
    refine mm_imul dX12_checked_13 ?_
    refine mm_aload_n (j := 0) dX12_checked_14 rfl rfl ?_
    refine mm_iload_n (j := 3) dX12_checked_15 rfl rfl ?_
    obtain ⟨hi16, h⟩ := h
    refine mm_iaload (N := n0) dX12_checked_16 hr0 hi16 ?_
    refine mm_iadd dX12_checked_17 ?_
    refine mm_sipush (x := 251) dX12_checked_18 rfl ?_
    refine mm_irem dX12_checked_21 (by decide) ?_
    refine mm_istore_n (lv' := [(2, .int (((3 * y2) + (M.1 r0 (y3).toNatClampNeg)) - ((3 * y2) + (M.1 r0 (y3).toNatClampNeg)) / 251 * 251)), (0, .ref r0), (1, .int y1), (3, .int y3)]) dX12_checked_22 rfl (by decide) rfl ?_
    refine mm_iinc (j := 3) (v := y3 + 1) (lv' := [(3, .int (y3 + 1)), (2, .int (((3 * y2) + (M.1 r0 (y3).toNatClampNeg)) - ((3 * y2) + (M.1 r0 (y3).toNatClampNeg)) / 251 * 251)), (0, .ref r0), (1, .int y1)]) dX12_checked_23 rfl rfl (by decide) rfl ?_
    refine mm_goto (tgt := 6) dX12_checked_26 (by decide) ?_
    exact mm_sub [2, 3, 1, 0] rfl h
set_option maxRecDepth 100000 in
set_option maxHeartbeats 4000000 in
theorem rX12_writes {d : Nat} {x1 : Int32} {M : mm_M} {K : mm_M → Prop} (hG : mm_G M.2.2) (h : vp_in (M.1 164 115) 45 ∧ K (mm_uI (mm_uI M 242 (M.1 164 115).toNatClampNeg x1) 164 115 (((mm_uI M 242 (M.1 164 115).toNatClampNeg x1).1 164 115) + 1))) : mm_CV mX12_writes d [.ref 164, .int x1] M K := by
  show mm_W mX12_writes d 0 0 0 [(0, .ref 164), (1, .int x1)] [] mm_SH M 0 0 (mm_PV K)
  refine mm_aload_n (j := 0) dX12_writes_0 rfl rfl ?_
  refine mm_getR (ci := 12) (N := 116) (r := 242) dX12_writes_1 fX12_252 sh_164 rfl (g_164_114 hG) ?_
  refine mm_aload_n (j := 0) dX12_writes_4 rfl rfl ?_
  refine mm_getI (ci := 12) (N := 116) dX12_writes_5 fX12_730 sh_164 rfl ?_
  refine mm_iload_n (j := 1) dX12_writes_8 rfl rfl ?_
  obtain ⟨hi9, h⟩ := h
  refine mm_iastore (N := 45) dX12_writes_9 sh_242 hi9 ?_
  refine mm_aload_n (j := 0) dX12_writes_10 rfl rfl ?_
  refine mm_dup dX12_writes_11 rfl ?_
  refine mm_getI (ci := 12) (N := 116) dX12_writes_12 fX12_730 sh_164 rfl ?_
  refine mm_iconst (x := 1) dX12_writes_15 rfl ?_
  refine mm_iadd dX12_writes_16 ?_
  refine mm_putI (ci := 12) (N := 116) dX12_writes_17 fX12_730 sh_164 (by decide +kernel) rfl rfl rfl ?_
  exact mm_vret dX12_writes_20 rfl (Nat.le_refl 0) (Nat.le_refl 0) ⟨rfl, rfl, hG, h⟩
def jX12_image_35 (d : Nat) (M : mm_M) (K : Int32 → mm_M → Prop) (y1 : Int32) : Prop := mm_W mX12_image (d + 1) 0 0 35 [(0, .ref 164), (1, .int y1)] [] mm_SH M 0 0 (mm_PI K)
def jX12_image_65 (d : Nat) (M : mm_M) (K : Int32 → mm_M → Prop) (y1 : Int32) : Prop := mm_W mX12_image (d + 1) 0 0 65 [(0, .ref 164), (1, .int y1)] [] mm_SH M 0 0 (mm_PI K)
def jX12_image_77 (d : Nat) (M : mm_M) (K : Int32 → mm_M → Prop) (y1 : Int32) (y2 : Int32) : Prop := mm_W mX12_image (d + 1) 0 0 77 [(0, .ref 164), (1, .int y1), (2, .int y2)] [] mm_SH M 0 0 (mm_PI K)
set_option maxRecDepth 100000 in
set_option maxHeartbeats 4000000 in
theorem rX12_image {d : Nat} {M : mm_M} {K : Int32 → mm_M → Prop} (hG : mm_G M.2.2) (h : mm_CV mX12_writes d [.ref 164, .int (((mm_uI M 164 115 0).1 199 (0).toNatClampNeg) / 256)] (mm_uI M 164 115 0) (fun m16 => mm_CV mX12_writes d [.ref 164, .int ((m16.1 199 (0).toNatClampNeg) - (m16.1 199 (0).toNatClampNeg) / 256 * 256)] m16 (fun m30 => jX12_image_35 d m30 K 0))) : mm_CI mX12_image (d + 1) [.ref 164] M K := by
  show mm_W mX12_image (d + 1) 0 0 0 [(0, .ref 164)] [] mm_SH M 0 0 (mm_PI K)
  refine mm_aload_n (j := 0) dX12_image_0 rfl rfl ?_
  refine mm_iconst (x := 0) dX12_image_1 rfl ?_
  refine mm_putI (ci := 12) (N := 116) dX12_image_2 fX12_730 sh_164 (by decide +kernel) rfl rfl rfl ?_
  refine mm_aload_n (j := 0) dX12_image_5 rfl rfl ?_
  refine mm_aload_n (j := 0) dX12_image_6 rfl rfl ?_
  refine mm_getR (ci := 12) (N := 116) (r := 199) dX12_image_7 fX12_118 sh_164 rfl (g_164_50 hG) ?_
  refine mm_iconst (x := 0) dX12_image_10 rfl ?_
  refine mm_iaload (N := 204) dX12_image_11 sh_199 (by decide) ?_
  refine mm_sipush (x := 256) dX12_image_12 rfl ?_
  refine mm_idiv dX12_image_15 (by decide) ?_
  refine mm_kVV [.int (((mm_uI M 164 115 0).1 199 (0).toNatClampNeg) / 256)] dX12_image_16 kX12_733 rfl sh_164 (by decide) (by decide) h (fun m16 hG h => ?_)
  refine mm_aload_n (j := 0) dX12_image_19 rfl rfl ?_
  refine mm_aload_n (j := 0) dX12_image_20 rfl rfl ?_
  refine mm_getR (ci := 12) (N := 116) (r := 199) dX12_image_21 fX12_118 sh_164 rfl (g_164_50 hG) ?_
  refine mm_iconst (x := 0) dX12_image_24 rfl ?_
  refine mm_iaload (N := 204) dX12_image_25 sh_199 (by decide) ?_
  refine mm_sipush (x := 256) dX12_image_26 rfl ?_
  refine mm_irem dX12_image_29 (by decide) ?_
  refine mm_kVV [.int ((m16.1 199 (0).toNatClampNeg) - (m16.1 199 (0).toNatClampNeg) / 256 * 256)] dX12_image_30 kX12_733 rfl sh_164 (by decide) (by decide) h (fun m30 hG h => ?_)
  refine mm_iconst (x := 0) dX12_image_33 rfl ?_
  refine mm_istore_n (lv' := [(1, .int 0), (0, .ref 164)]) dX12_image_34 rfl (by decide) rfl ?_
  exact mm_sub [1, 0] rfl h
set_option maxRecDepth 100000 in
set_option maxHeartbeats 4000000 in
theorem lX12_image_35 {d : Nat} {M : mm_M} {K : Int32 → mm_M → Prop} {y1 : Int32} (hG : mm_G M.2.2) (h : mm_CI mX12_houseMany d [.ref 164] M (fun z38 m38 => if (3 * z38) ≤ y1 then (jX12_image_65 d m38 K 0) else (vp_in (1 + y1) 204 ∧ mm_CV mX12_writes d [.ref 164, .int (m38.1 199 (1 + y1).toNatClampNeg)] m38 (fun m54 => jX12_image_35 d m54 K (y1 + 1))))) : jX12_image_35 d  M K y1 := by
  unfold jX12_image_35
  refine mm_iload_n (j := 1) dX12_image_35 rfl rfl ?_
  refine mm_iconst (x := 3) dX12_image_36 rfl ?_
  refine mm_aload_n (j := 0) dX12_image_37 rfl rfl ?_
  refine mm_kVI [] dX12_image_38 kX12_412 rfl sh_164 (by decide) (by decide) h (fun z38 m38 hG h => ?_)
  refine mm_imul dX12_image_41 ?_
  refine mm_icmp_ge (tgt := 63) dX12_image_42 (by decide) (fun hc => ?_) (fun hc => ?_)
  · rw [if_pos hc] at h
    refine mm_iconst (x := 0) dX12_image_63 rfl ?_
    refine mm_istore_n (lv' := [(1, .int 0), (0, .ref 164)]) dX12_image_64 rfl (by decide) rfl ?_
    exact mm_sub [1, 0] rfl h
  · rw [if_neg hc] at h
    refine mm_aload_n (j := 0) dX12_image_45 rfl rfl ?_
    refine mm_aload_n (j := 0) dX12_image_46 rfl rfl ?_
    refine mm_getR (ci := 12) (N := 116) (r := 199) dX12_image_47 fX12_118 sh_164 rfl (g_164_50 hG) ?_
    refine mm_iconst (x := 1) dX12_image_50 rfl ?_
    refine mm_iload_n (j := 1) dX12_image_51 rfl rfl ?_
    refine mm_iadd dX12_image_52 ?_
    obtain ⟨hi53, h⟩ := h
    refine mm_iaload (N := 204) dX12_image_53 sh_199 hi53 ?_
    refine mm_kVV [.int (m38.1 199 (1 + y1).toNatClampNeg)] dX12_image_54 kX12_733 rfl sh_164 (by decide) (by decide) h (fun m54 hG h => ?_)
    refine mm_iinc (j := 1) (v := y1 + 1) (lv' := [(1, .int (y1 + 1)), (0, .ref 164)]) dX12_image_57 rfl rfl (by decide) rfl ?_
    refine mm_goto (tgt := 35) dX12_image_60 (by decide) ?_
    exact mm_sub [1, 0] rfl h
set_option maxRecDepth 100000 in
set_option maxHeartbeats 4000000 in
theorem lX12_image_65 {d : Nat} {M : mm_M} {K : Int32 → mm_M → Prop} {y1 : Int32} (hG : mm_G M.2.2) (h : mm_CI mX12_houseMany d [.ref 164] M (fun z67 m67 => if z67 ≤ y1 then (mm_CI mX12_checked d [.ref 242, .int (m67.1 164 115)] m67 (fun z116 m116 => mm_CV mX12_writes d [.ref 164, .int z116] m116 (fun m119 => K (m119.1 164 115) m119))) else (jX12_image_77 d m67 K y1 (y1 + 1)))) : jX12_image_65 d  M K y1 := by
  unfold jX12_image_65
  refine mm_iload_n (j := 1) dX12_image_65 rfl rfl ?_
  refine mm_aload_n (j := 0) dX12_image_66 rfl rfl ?_
  refine mm_kVI [] dX12_image_67 kX12_412 rfl sh_164 (by decide) (by decide) h (fun z67 m67 hG h => ?_)
  refine mm_icmp_ge (tgt := 107) dX12_image_70 (by decide) (fun hc => ?_) (fun hc => ?_)
  · rw [if_pos hc] at h
    refine mm_aload_n (j := 0) dX12_image_107 rfl rfl ?_
    refine mm_aload_n (j := 0) dX12_image_108 rfl rfl ?_
    refine mm_getR (ci := 12) (N := 116) (r := 242) dX12_image_109 fX12_252 sh_164 rfl (g_164_114 hG) ?_
    refine mm_aload_n (j := 0) dX12_image_112 rfl rfl ?_
    refine mm_getI (ci := 12) (N := 116) dX12_image_113 fX12_730 sh_164 rfl ?_
    refine mm_kSI [.ref 242, .int (m67.1 164 115)] dX12_image_116 kX12_736 rfl (by decide) (by decide) h (fun z116 m116 hG h => ?_)
    refine mm_kVV [.int z116] dX12_image_119 kX12_733 rfl sh_164 (by decide) (by decide) h (fun m119 hG h => ?_)
    refine mm_aload_n (j := 0) dX12_image_122 rfl rfl ?_
    refine mm_getI (ci := 12) (N := 116) dX12_image_123 fX12_730 sh_164 rfl ?_
    exact mm_iret dX12_image_126 rfl (Nat.le_refl 0) (Nat.le_refl 0) ⟨_, rfl, rfl, hG, h⟩
  · rw [if_neg hc] at h
    refine mm_iload_n (j := 1) dX12_image_73 rfl rfl ?_
    refine mm_iconst (x := 1) dX12_image_74 rfl ?_
    refine mm_iadd dX12_image_75 ?_
    refine mm_istore_n (lv' := [(2, .int (y1 + 1)), (0, .ref 164), (1, .int y1)]) dX12_image_76 rfl (by decide) rfl ?_
    exact mm_sub [1, 2, 0] rfl h
set_option maxRecDepth 100000 in
set_option maxHeartbeats 4000000 in
theorem lX12_image_77 {d : Nat} {M : mm_M} {K : Int32 → mm_M → Prop} {y1 : Int32} {y2 : Int32} (hG : mm_G M.2.2) (h : mm_CI mX12_houseMany d [.ref 164] M (fun z79 m79 => if z79 ≤ y2 then (jX12_image_65 d m79 K (y1 + 1)) else (mm_CI mX12_hateOf d [.ref 164, .int y1, .int y2] m79 (fun z89 m89 => mm_CV mX12_writes d [.ref 164, .int z89] m89 (fun m92 => jX12_image_77 d m92 K y1 (y2 + 1)))))) : jX12_image_77 d  M K y1 y2 := by
  unfold jX12_image_77
  refine mm_iload_n (j := 2) dX12_image_77 rfl rfl ?_
  refine mm_aload_n (j := 0) dX12_image_78 rfl rfl ?_
  refine mm_kVI [] dX12_image_79 kX12_412 rfl sh_164 (by decide) (by decide) h (fun z79 m79 hG h => ?_)
  refine mm_icmp_ge (tgt := 101) dX12_image_82 (by decide) (fun hc => ?_) (fun hc => ?_)
  · rw [if_pos hc] at h
    refine mm_iinc (j := 1) (v := y1 + 1) (lv' := [(1, .int (y1 + 1)), (0, .ref 164), (2, .int y2)]) dX12_image_101 rfl rfl (by decide) rfl ?_
    refine mm_goto (tgt := 65) dX12_image_104 (by decide) ?_
    exact mm_sub [1, 0] rfl h
  · rw [if_neg hc] at h
    refine mm_aload_n (j := 0) dX12_image_85 rfl rfl ?_
    refine mm_aload_n (j := 0) dX12_image_86 rfl rfl ?_
    refine mm_iload_n (j := 1) dX12_image_87 rfl rfl ?_
    refine mm_iload_n (j := 2) dX12_image_88 rfl rfl ?_
    refine mm_kVI [.int y1, .int y2] dX12_image_89 kX12_415 rfl sh_164 (by decide) (by decide) h (fun z89 m89 hG h => ?_)
    refine mm_kVV [.int z89] dX12_image_92 kX12_733 rfl sh_164 (by decide) (by decide) h (fun m92 hG h => ?_)
    refine mm_iinc (j := 2) (v := y2 + 1) (lv' := [(2, .int (y2 + 1)), (0, .ref 164), (1, .int y1)]) dX12_image_95 rfl rfl (by decide) rfl ?_
    refine mm_goto (tgt := 77) dX12_image_98 (by decide) ?_
    exact mm_sub [1, 2, 0] rfl h
set_option maxRecDepth 100000 in
set_option maxHeartbeats 4000000 in
theorem rX12_octet {d : Nat} {x1 : Int32} {M : mm_M} {K : Int32 → mm_M → Prop} (hG : mm_G M.2.2) (h : if x1 < 0 then (K (-1) M) else (if (M.1 164 115) ≤ x1 then (K (-1) M) else (vp_in x1 45 ∧ K (M.1 242 (x1).toNatClampNeg) M))) : mm_CI mX12_octet d [.ref 164, .int x1] M K := by
  show mm_W mX12_octet d 0 0 0 [(0, .ref 164), (1, .int x1)] [] mm_SH M 0 0 (mm_PI K)
  refine mm_iload_n (j := 1) dX12_octet_0 rfl rfl ?_
  refine mm_if_lt (tgt := 21) dX12_octet_1 (by decide) (fun hc => ?_) (fun hc => ?_)
  · rw [if_pos hc] at h
    refine mm_iconst (x := (-1)) dX12_octet_21 rfl ?_
    exact mm_iret dX12_octet_22 rfl (Nat.le_refl 0) (Nat.le_refl 0) ⟨_, rfl, rfl, hG, h⟩
  · rw [if_neg hc] at h
    refine mm_iload_n (j := 1) dX12_octet_4 rfl rfl ?_
    refine mm_aload_n (j := 0) dX12_octet_5 rfl rfl ?_
    refine mm_getI (ci := 12) (N := 116) dX12_octet_6 fX12_730 sh_164 rfl ?_
    refine mm_icmp_ge (tgt := 21) dX12_octet_9 (by decide) (fun hc => ?_) (fun hc => ?_)
    · rw [if_pos hc] at h
      refine mm_iconst (x := (-1)) dX12_octet_21 rfl ?_
      exact mm_iret dX12_octet_22 rfl (Nat.le_refl 0) (Nat.le_refl 0) ⟨_, rfl, rfl, hG, h⟩
    · rw [if_neg hc] at h
      refine mm_aload_n (j := 0) dX12_octet_12 rfl rfl ?_
      refine mm_getR (ci := 12) (N := 116) (r := 242) dX12_octet_13 fX12_252 sh_164 rfl (g_164_114 hG) ?_
      refine mm_iload_n (j := 1) dX12_octet_16 rfl rfl ?_
      obtain ⟨hi17, h⟩ := h
      refine mm_iaload (N := 45) dX12_octet_17 sh_242 hi17 ?_
      refine mm_goto (tgt := 22) dX12_octet_18 (by decide) ?_
      exact mm_iret dX12_octet_22 rfl (Nat.le_refl 0) (Nat.le_refl 0) ⟨_, rfl, rfl, hG, h⟩
def jX12_isImage_82 (d : Nat) (x1 : Int32) (M : mm_M) (K : Int32 → mm_M → Prop) (y2 : Int32) (y3 : Int32) (y4 : Int32) : Prop := mm_W mX12_isImage (d + 1) 0 0 82 [(0, .ref 164), (2, .int y2), (3, .int y3), (4, .int y4)] [] mm_SH M 0 0 (mm_PI K)
def jX12_isImage_141 (d : Nat) (x1 : Int32) (M : mm_M) (K : Int32 → mm_M → Prop) (y2 : Int32) (y4 : Int32) (y5 : Int32) : Prop := mm_W mX12_isImage (d + 1) 0 0 141 [(0, .ref 164), (2, .int y2), (4, .int y4), (5, .int y5)] [] mm_SH M 0 0 (mm_PI K)
def jX12_isImage_153 (d : Nat) (x1 : Int32) (M : mm_M) (K : Int32 → mm_M → Prop) (y2 : Int32) (y4 : Int32) (y5 : Int32) (y6 : Int32) : Prop := mm_W mX12_isImage (d + 1) 0 0 153 [(0, .ref 164), (2, .int y2), (4, .int y4), (5, .int y5), (6, .int y6)] [] mm_SH M 0 0 (mm_PI K)
def jX12_isImage_194 (d : Nat) (x1 : Int32) (M : mm_M) (K : Int32 → mm_M → Prop) (y2 : Int32) (y4 : Int32) (y5 : Int32) (y6 : Int32) (u0 : Int32) : Prop := mm_W mX12_isImage (d + 1) 0 0 194 [(0, .ref 164), (2, .int y2), (4, .int y4), (5, .int y5), (6, .int y6)] [.int u0] mm_SH M 0 0 (mm_PI K)
set_option maxRecDepth 100000 in
set_option maxHeartbeats 4000000 in
theorem rX12_isImage {d : Nat} {x1 : Int32} {M : mm_M} {K : Int32 → mm_M → Prop} (hG : mm_G M.2.2) (h : mm_CI mX12_houseMany d [.ref 164] M (fun z1 m1 => if (m1.1 164 48) = 0 then (K 0 m1) else (if x1 = (((2 + (3 * z1)) + ((z1 * (z1 - 1)) / 2)) + 1) then (vp_in (x1 - 1) 1600 ∧ mm_CI mX12_checked d [.ref 165, .int (x1 - 1)] m1 (fun z48 m48 => if (m1.1 165 (x1 - 1).toNatClampNeg) = z48 then (if ((256 * (m48.1 165 (0).toNatClampNeg)) + (m48.1 165 (1).toNatClampNeg)) ≤ 999 then (jX12_isImage_82 d x1 m48 K z1 (2 + (3 * z1)) 2) else (K 0 m48)) else (K 0 m48))) else (K 0 m1)))) : mm_CI mX12_isImage (d + 1) [.ref 164, .int x1] M K := by
  show mm_W mX12_isImage (d + 1) 0 0 0 [(0, .ref 164), (1, .int x1)] [] mm_SH M 0 0 (mm_PI K)
  refine mm_aload_n (j := 0) dX12_isImage_0 rfl rfl ?_
  refine mm_kVI [] dX12_isImage_1 kX12_412 rfl sh_164 (by decide) (by decide) h (fun z1 m1 hG h => ?_)
  refine mm_istore_n (lv' := [(2, .int z1), (0, .ref 164), (1, .int x1)]) dX12_isImage_4 rfl (by decide) rfl ?_
  refine mm_iconst (x := 2) dX12_isImage_5 rfl ?_
  refine mm_iconst (x := 3) dX12_isImage_6 rfl ?_
  refine mm_iload_n (j := 0) dX12_isImage_7 rfl rfl ?_
  refine mm_imul dX12_isImage_8 ?_
  refine mm_iadd dX12_isImage_9 ?_
  refine mm_istore_n (lv' := [(3, .int (2 + (3 * z1))), (2, .int z1), (0, .ref 164), (1, .int x1)]) dX12_isImage_10 rfl (by decide) rfl ?_
  refine mm_aload_n (j := 2) dX12_isImage_11 rfl rfl ?_
  refine mm_getI (ci := 12) (N := 116) dX12_isImage_12 fX12_399 sh_164 rfl ?_
  refine mm_if_eq (tgt := 77) dX12_isImage_15 (by decide) (fun hc => ?_) (fun hc => ?_)
  · rw [if_pos hc] at h
    refine mm_iconst (x := 0) dX12_isImage_77 rfl ?_
    exact mm_zret dX12_isImage_78 rfl rfl (Nat.le_refl 0) (Nat.le_refl 0) ⟨_, rfl, rfl, hG, h⟩
  · rw [if_neg hc] at h
    refine mm_iload_n (j := 3) dX12_isImage_18 rfl rfl ?_
    refine mm_iload_n (j := 0) dX12_isImage_19 rfl rfl ?_
    refine mm_iload_n (j := 1) dX12_isImage_20 rfl rfl ?_
    refine mm_iload_n (j := 1) dX12_isImage_21 rfl rfl ?_
    refine mm_iconst (x := 1) dX12_isImage_22 rfl ?_
    refine mm_isub dX12_isImage_23 ?_
    refine mm_imul dX12_isImage_24 ?_
    refine mm_iconst (x := 2) dX12_isImage_25 rfl ?_
    refine mm_idiv dX12_isImage_26 (by decide) ?_
    refine mm_iadd dX12_isImage_27 ?_
    refine mm_iconst (x := 1) dX12_isImage_28 rfl ?_
    refine mm_iadd dX12_isImage_29 ?_
    refine mm_icmp_ne (tgt := 77) dX12_isImage_30 (by decide) (fun hc => ?_) (fun hc => ?_)
    · rw [if_neg hc] at h
      refine mm_iconst (x := 0) dX12_isImage_77 rfl ?_
      exact mm_zret dX12_isImage_78 rfl rfl (Nat.le_refl 0) (Nat.le_refl 0) ⟨_, rfl, rfl, hG, h⟩
    · rw [if_pos hc] at h
      refine mm_aload_n (j := 2) dX12_isImage_33 rfl rfl ?_
      refine mm_getR (ci := 12) (N := 116) (r := 165) dX12_isImage_34 fX12_7 sh_164 rfl (g_164_0 hG) ?_
      refine mm_iload_n (j := 3) dX12_isImage_37 rfl rfl ?_
      refine mm_iconst (x := 1) dX12_isImage_38 rfl ?_
      refine mm_isub dX12_isImage_39 ?_
      obtain ⟨hi40, h⟩ := h
      refine mm_iaload (N := 1600) dX12_isImage_40 sh_165 hi40 ?_
      refine mm_aload_n (j := 2) dX12_isImage_41 rfl rfl ?_
      refine mm_getR (ci := 12) (N := 116) (r := 165) dX12_isImage_42 fX12_7 sh_164 rfl (g_164_0 hG) ?_
      refine mm_iload_n (j := 3) dX12_isImage_45 rfl rfl ?_
      refine mm_iconst (x := 1) dX12_isImage_46 rfl ?_
      refine mm_isub dX12_isImage_47 ?_
      refine mm_kSI [.ref 165, .int (x1 - 1)] dX12_isImage_48 kX12_736 rfl (by decide) (by decide) h (fun z48 m48 hG h => ?_)
      refine mm_icmp_ne (tgt := 77) dX12_isImage_51 (by decide) (fun hc => ?_) (fun hc => ?_)
      · rw [if_neg hc] at h
        refine mm_iconst (x := 0) dX12_isImage_77 rfl ?_
        exact mm_zret dX12_isImage_78 rfl rfl (Nat.le_refl 0) (Nat.le_refl 0) ⟨_, rfl, rfl, hG, h⟩
      · rw [if_pos hc] at h
        refine mm_sipush (x := 256) dX12_isImage_54 rfl ?_
        refine mm_aload_n (j := 2) dX12_isImage_57 rfl rfl ?_
        refine mm_getR (ci := 12) (N := 116) (r := 165) dX12_isImage_58 fX12_7 sh_164 rfl (g_164_0 hG) ?_
        refine mm_iconst (x := 0) dX12_isImage_61 rfl ?_
        refine mm_iaload (N := 1600) dX12_isImage_62 sh_165 (by decide) ?_
        refine mm_imul dX12_isImage_63 ?_
        refine mm_aload_n (j := 2) dX12_isImage_64 rfl rfl ?_
        refine mm_getR (ci := 12) (N := 116) (r := 165) dX12_isImage_65 fX12_7 sh_164 rfl (g_164_0 hG) ?_
        refine mm_iconst (x := 1) dX12_isImage_68 rfl ?_
        refine mm_iaload (N := 1600) dX12_isImage_69 sh_165 (by decide) ?_
        refine mm_iadd dX12_isImage_70 ?_
        refine mm_sipush (x := 999) dX12_isImage_71 rfl ?_
        refine mm_icmp_le (tgt := 79) dX12_isImage_74 (by decide) (fun hc => ?_) (fun hc => ?_)
        · rw [if_pos hc] at h
          refine mm_iconst (x := 2) dX12_isImage_79 rfl ?_
          refine mm_istore (lv' := [(4, .int 2), (3, .int (2 + (3 * z1))), (2, .int z1), (0, .ref 164), (1, .int x1)]) dX12_isImage_80 (by decide) rfl ?_
          exact mm_sub [3, 2, 1, 0] rfl h
        · rw [if_neg hc] at h
          refine mm_iconst (x := 0) dX12_isImage_77 rfl ?_
          exact mm_zret dX12_isImage_78 rfl rfl (Nat.le_refl 0) (Nat.le_refl 0) ⟨_, rfl, rfl, hG, h⟩
set_option maxRecDepth 100000 in
set_option maxHeartbeats 4000000 in
theorem lX12_isImage_82 {d : Nat} {x1 : Int32} {M : mm_M} {K : Int32 → mm_M → Prop} {y2 : Int32} {y3 : Int32} {y4 : Int32} (hG : mm_G M.2.2) (h : if y3 ≤ y4 then (jX12_isImage_141 d x1 M K y2 y3 0) else (vp_in y4 1600 ∧ if 1 < (M.1 165 (y4).toNatClampNeg) then (K 0 M) else (vp_in (y4 + 1) 1600 ∧ if 99 < (M.1 165 (y4 + 1).toNatClampNeg) then (K 0 M) else (vp_in (y4 + 2) 1600 ∧ if (M.1 165 (y4 + 2).toNatClampNeg) ≤ 9 then (jX12_isImage_82 d x1 M K y2 y3 (y4 + 3)) else (K 0 M))))) : jX12_isImage_82 d x1 M K y2 y3 y4 := by
  unfold jX12_isImage_82
  refine mm_iload (j := 3) dX12_isImage_82 rfl ?_
  refine mm_iload_n (j := 2) dX12_isImage_84 rfl rfl ?_
  refine mm_icmp_ge (tgt := 135) dX12_isImage_85 (by decide) (fun hc => ?_) (fun hc => ?_)
  · rw [if_pos hc] at h
    refine mm_iload_n (j := 2) dX12_isImage_135 rfl rfl ?_
    refine mm_istore (lv' := [(4, .int y3), (0, .ref 164), (2, .int y2), (3, .int y3)]) dX12_isImage_136 (by decide) rfl ?_
    refine mm_iconst (x := 0) dX12_isImage_138 rfl ?_
    refine mm_istore (lv' := [(5, .int 0), (4, .int y3), (0, .ref 164), (2, .int y2), (3, .int y3)]) dX12_isImage_139 (by decide) rfl ?_
    exact mm_sub [2, 3, 1, 0] rfl h
  · rw [if_neg hc] at h
    refine mm_aload_n (j := 0) dX12_isImage_88 rfl rfl ?_
    refine mm_getR (ci := 12) (N := 116) (r := 165) dX12_isImage_89 fX12_7 sh_164 rfl (g_164_0 hG) ?_
    refine mm_iload (j := 3) dX12_isImage_92 rfl ?_
    obtain ⟨hi94, h⟩ := h
    refine mm_iaload (N := 1600) dX12_isImage_94 sh_165 hi94 ?_
    refine mm_iconst (x := 1) dX12_isImage_95 rfl ?_
    refine mm_icmp_gt (tgt := 127) dX12_isImage_96 (by decide) (fun hc => ?_) (fun hc => ?_)
    · rw [if_pos hc] at h
      refine mm_iconst (x := 0) dX12_isImage_127 rfl ?_
      exact mm_zret dX12_isImage_128 rfl rfl (Nat.le_refl 0) (Nat.le_refl 0) ⟨_, rfl, rfl, hG, h⟩
    · rw [if_neg hc] at h
      refine mm_aload_n (j := 0) dX12_isImage_99 rfl rfl ?_
      refine mm_getR (ci := 12) (N := 116) (r := 165) dX12_isImage_100 fX12_7 sh_164 rfl (g_164_0 hG) ?_
      refine mm_iload (j := 3) dX12_isImage_103 rfl ?_
      refine mm_iconst (x := 1) dX12_isImage_105 rfl ?_
      refine mm_iadd dX12_isImage_106 ?_
      obtain ⟨hi107, h⟩ := h
      refine mm_iaload (N := 1600) dX12_isImage_107 sh_165 hi107 ?_
      refine mm_bipush (x := 99) dX12_isImage_108 rfl ?_
      refine mm_icmp_gt (tgt := 127) dX12_isImage_110 (by decide) (fun hc => ?_) (fun hc => ?_)
      · rw [if_pos hc] at h
        refine mm_iconst (x := 0) dX12_isImage_127 rfl ?_
        exact mm_zret dX12_isImage_128 rfl rfl (Nat.le_refl 0) (Nat.le_refl 0) ⟨_, rfl, rfl, hG, h⟩
      · rw [if_neg hc] at h
        refine mm_aload_n (j := 0) dX12_isImage_113 rfl rfl ?_
        refine mm_getR (ci := 12) (N := 116) (r := 165) dX12_isImage_114 fX12_7 sh_164 rfl (g_164_0 hG) ?_
        refine mm_iload (j := 3) dX12_isImage_117 rfl ?_
        refine mm_iconst (x := 2) dX12_isImage_119 rfl ?_
        refine mm_iadd dX12_isImage_120 ?_
        obtain ⟨hi121, h⟩ := h
        refine mm_iaload (N := 1600) dX12_isImage_121 sh_165 hi121 ?_
        refine mm_bipush (x := 9) dX12_isImage_122 rfl ?_
        refine mm_icmp_le (tgt := 129) dX12_isImage_124 (by decide) (fun hc => ?_) (fun hc => ?_)
        · rw [if_pos hc] at h
          refine mm_iinc (j := 3) (v := y4 + 3) (lv' := [(4, .int (y4 + 3)), (0, .ref 164), (2, .int y2), (3, .int y3)]) dX12_isImage_129 rfl rfl (by decide) rfl ?_
          refine mm_goto (tgt := 82) dX12_isImage_132 (by decide) ?_
          exact mm_sub [1, 2, 3, 0] rfl h
        · rw [if_neg hc] at h
          refine mm_iconst (x := 0) dX12_isImage_127 rfl ?_
          exact mm_zret dX12_isImage_128 rfl rfl (Nat.le_refl 0) (Nat.le_refl 0) ⟨_, rfl, rfl, hG, h⟩
set_option maxRecDepth 100000 in
set_option maxHeartbeats 4000000 in
theorem lX12_isImage_141 {d : Nat} {x1 : Int32} {M : mm_M} {K : Int32 → mm_M → Prop} {y2 : Int32} {y4 : Int32} {y5 : Int32} (hG : mm_G M.2.2) (h : if y2 ≤ y5 then (K 1 M) else (jX12_isImage_153 d x1 M K y2 y4 y5 (y5 + 1))) : jX12_isImage_141 d x1 M K y2 y4 y5 := by
  unfold jX12_isImage_141
  refine mm_iload (j := 3) dX12_isImage_141 rfl ?_
  refine mm_iload_n (j := 1) dX12_isImage_143 rfl rfl ?_
  refine mm_icmp_ge (tgt := 234) dX12_isImage_144 (by decide) (fun hc => ?_) (fun hc => ?_)
  · rw [if_pos hc] at h
    refine mm_iconst (x := 1) dX12_isImage_234 rfl ?_
    exact mm_zret dX12_isImage_235 rfl rfl (Nat.le_refl 0) (Nat.le_refl 0) ⟨_, rfl, rfl, hG, h⟩
  · rw [if_neg hc] at h
    refine mm_iload (j := 3) dX12_isImage_147 rfl ?_
    refine mm_iconst (x := 1) dX12_isImage_149 rfl ?_
    refine mm_iadd dX12_isImage_150 ?_
    refine mm_istore (lv' := [(6, .int (y5 + 1)), (0, .ref 164), (2, .int y2), (4, .int y4), (5, .int y5)]) dX12_isImage_151 (by decide) rfl ?_
    exact mm_sub [1, 2, 3, 4, 0] rfl h
set_option maxRecDepth 100000 in
set_option maxHeartbeats 4000000 in
theorem lX12_isImage_153 {d : Nat} {x1 : Int32} {M : mm_M} {K : Int32 → mm_M → Prop} {y2 : Int32} {y4 : Int32} {y5 : Int32} {y6 : Int32} (hG : mm_G M.2.2) (h : if y2 ≤ y6 then (jX12_isImage_141 d x1 M K y2 y4 (y5 + 1)) else (vp_in (2 + (3 * y5)) 1600 ∧ if (M.1 165 (2 + (3 * y5)).toNatClampNeg) = 1 then (vp_in (2 + (3 * y6)) 1600 ∧ if (M.1 165 (2 + (3 * y6)).toNatClampNeg) = 1 then (jX12_isImage_194 d x1 M K y2 y4 y5 y6 1) else (jX12_isImage_194 d x1 M K y2 y4 y5 y6 0)) else (jX12_isImage_194 d x1 M K y2 y4 y5 y6 0))) : jX12_isImage_153 d x1 M K y2 y4 y5 y6 := by
  unfold jX12_isImage_153
  refine mm_iload (j := 4) dX12_isImage_153 rfl ?_
  refine mm_iload_n (j := 1) dX12_isImage_155 rfl rfl ?_
  refine mm_icmp_ge (tgt := 228) dX12_isImage_156 (by decide) (fun hc => ?_) (fun hc => ?_)
  · rw [if_pos hc] at h
    refine mm_iinc (j := 3) (v := y5 + 1) (lv' := [(5, .int (y5 + 1)), (0, .ref 164), (2, .int y2), (4, .int y4), (6, .int y6)]) dX12_isImage_228 rfl rfl (by decide) rfl ?_
    refine mm_goto (tgt := 141) dX12_isImage_231 (by decide) ?_
    exact mm_sub [1, 2, 3, 0] rfl h
  · rw [if_neg hc] at h
    refine mm_aload_n (j := 0) dX12_isImage_159 rfl rfl ?_
    refine mm_getR (ci := 12) (N := 116) (r := 165) dX12_isImage_160 fX12_7 sh_164 rfl (g_164_0 hG) ?_
    refine mm_iconst (x := 2) dX12_isImage_163 rfl ?_
    refine mm_iconst (x := 3) dX12_isImage_164 rfl ?_
    refine mm_iload (j := 3) dX12_isImage_165 rfl ?_
    refine mm_imul dX12_isImage_167 ?_
    refine mm_iadd dX12_isImage_168 ?_
    obtain ⟨hi169, h⟩ := h
    refine mm_iaload (N := 1600) dX12_isImage_169 sh_165 hi169 ?_
    refine mm_iconst (x := 1) dX12_isImage_170 rfl ?_
    refine mm_icmp_ne (tgt := 193) dX12_isImage_171 (by decide) (fun hc => ?_) (fun hc => ?_)
    · rw [if_neg hc] at h
      refine mm_iconst (x := 0) dX12_isImage_193 rfl ?_
      exact h
    · rw [if_pos hc] at h
      refine mm_aload_n (j := 0) dX12_isImage_174 rfl rfl ?_
      refine mm_getR (ci := 12) (N := 116) (r := 165) dX12_isImage_175 fX12_7 sh_164 rfl (g_164_0 hG) ?_
      refine mm_iconst (x := 2) dX12_isImage_178 rfl ?_
      refine mm_iconst (x := 3) dX12_isImage_179 rfl ?_
      refine mm_iload (j := 4) dX12_isImage_180 rfl ?_
      refine mm_imul dX12_isImage_182 ?_
      refine mm_iadd dX12_isImage_183 ?_
      obtain ⟨hi184, h⟩ := h
      refine mm_iaload (N := 1600) dX12_isImage_184 sh_165 hi184 ?_
      refine mm_iconst (x := 1) dX12_isImage_185 rfl ?_
      refine mm_icmp_ne (tgt := 193) dX12_isImage_186 (by decide) (fun hc => ?_) (fun hc => ?_)
      · rw [if_neg hc] at h
        refine mm_iconst (x := 0) dX12_isImage_193 rfl ?_
        exact h
      · rw [if_pos hc] at h
        refine mm_iconst (x := 1) dX12_isImage_189 rfl ?_
        refine mm_goto (tgt := 194) dX12_isImage_190 (by decide) ?_
        exact h
set_option maxRecDepth 100000 in
set_option maxHeartbeats 4000000 in
theorem lX12_isImage_194 {d : Nat} {x1 : Int32} {M : mm_M} {K : Int32 → mm_M → Prop} {y2 : Int32} {y4 : Int32} {y5 : Int32} {y6 : Int32} {u0 : Int32} (hG : mm_G M.2.2) (h : vp_in y4 1600 ∧ if u0 = 0 then (if (M.1 165 (y4).toNatClampNeg) ≤ 0 then (jX12_isImage_153 d x1 M K y2 (y4 + 1) y5 (y6 + 1)) else (K 0 M)) else (if (M.1 165 (y4).toNatClampNeg) ≤ 99 then (jX12_isImage_153 d x1 M K y2 (y4 + 1) y5 (y6 + 1)) else (K 0 M))) : jX12_isImage_194 d x1 M K y2 y4 y5 y6 u0 := by
  unfold jX12_isImage_194
  refine mm_istore (lv' := [(7, .int u0), (0, .ref 164), (2, .int y2), (4, .int y4), (5, .int y5), (6, .int y6)]) dX12_isImage_194 (by decide) rfl ?_
  refine mm_aload_n (j := 1) dX12_isImage_196 rfl rfl ?_
  refine mm_getR (ci := 12) (N := 116) (r := 165) dX12_isImage_197 fX12_7 sh_164 rfl (g_164_0 hG) ?_
  refine mm_iload (j := 3) dX12_isImage_200 rfl ?_
  obtain ⟨hi202, h⟩ := h
  refine mm_iaload (N := 1600) dX12_isImage_202 sh_165 hi202 ?_
  refine mm_iload (j := 0) dX12_isImage_203 rfl ?_
  refine mm_if_eq (tgt := 213) dX12_isImage_205 (by decide) (fun hc => ?_) (fun hc => ?_)
  · rw [if_pos hc] at h
    refine mm_iconst (x := 0) dX12_isImage_213 rfl ?_
    refine mm_icmp_le (tgt := 219) dX12_isImage_214 (by decide) (fun hc => ?_) (fun hc => ?_)
    · rw [if_pos hc] at h
      refine mm_iinc (j := 3) (v := y4 + 1) (lv' := [(4, .int (y4 + 1)), (7, .int u0), (0, .ref 164), (2, .int y2), (5, .int y5), (6, .int y6)]) dX12_isImage_219 rfl rfl (by decide) rfl ?_
      refine mm_iinc (j := 5) (v := y6 + 1) (lv' := [(6, .int (y6 + 1)), (4, .int (y4 + 1)), (7, .int u0), (0, .ref 164), (2, .int y2), (5, .int y5)]) dX12_isImage_222 rfl rfl (by decide) rfl ?_
      refine mm_goto (tgt := 153) dX12_isImage_225 (by decide) ?_
      exact mm_sub [3, 4, 1, 5, 0] rfl h
    · rw [if_neg hc] at h
      refine mm_iconst (x := 0) dX12_isImage_217 rfl ?_
      exact mm_zret dX12_isImage_218 rfl rfl (Nat.le_refl 0) (Nat.le_refl 0) ⟨_, rfl, rfl, hG, h⟩
  · rw [if_neg hc] at h
    refine mm_bipush (x := 99) dX12_isImage_208 rfl ?_
    refine mm_goto (tgt := 214) dX12_isImage_210 (by decide) ?_
    refine mm_icmp_le (tgt := 219) dX12_isImage_214 (by decide) (fun hc => ?_) (fun hc => ?_)
    · rw [if_pos hc] at h
      refine mm_iinc (j := 3) (v := y4 + 1) (lv' := [(4, .int (y4 + 1)), (7, .int u0), (0, .ref 164), (2, .int y2), (5, .int y5), (6, .int y6)]) dX12_isImage_219 rfl rfl (by decide) rfl ?_
      refine mm_iinc (j := 5) (v := y6 + 1) (lv' := [(6, .int (y6 + 1)), (4, .int (y4 + 1)), (7, .int u0), (0, .ref 164), (2, .int y2), (5, .int y5)]) dX12_isImage_222 rfl rfl (by decide) rfl ?_
      refine mm_goto (tgt := 153) dX12_isImage_225 (by decide) ?_
      exact mm_sub [3, 4, 1, 5, 0] rfl h
    · rw [if_neg hc] at h
      refine mm_iconst (x := 0) dX12_isImage_217 rfl ?_
      exact mm_zret dX12_isImage_218 rfl rfl (Nat.le_refl 0) (Nat.le_refl 0) ⟨_, rfl, rfl, hG, h⟩
def jX12_on_60 (d : Nat) (M : mm_M) (K : Int32 → mm_M → Prop) (y2 : Int32) (y3 : Int32) : Prop := mm_W mX12_on (d + 1) 0 0 60 [(0, .ref 164), (2, .int y2), (3, .int y3)] [] mm_SH M 0 0 (mm_PI K)
def jX12_on_98 (d : Nat) (M : mm_M) (K : Int32 → mm_M → Prop) (y2 : Int32) (y3 : Int32) (y4 : Int32) : Prop := mm_W mX12_on (d + 1) 0 0 98 [(0, .ref 164), (2, .int y2), (3, .int y3), (4, .int y4)] [] mm_SH M 0 0 (mm_PI K)
def jX12_on_110 (d : Nat) (M : mm_M) (K : Int32 → mm_M → Prop) (y2 : Int32) (y3 : Int32) (y4 : Int32) (y5 : Int32) : Prop := mm_W mX12_on (d + 1) 0 0 110 [(0, .ref 164), (2, .int y2), (3, .int y3), (4, .int y4), (5, .int y5)] [] mm_SH M 0 0 (mm_PI K)
set_option maxRecDepth 100000 in
set_option maxHeartbeats 4000000 in
theorem rX12_on {d : Nat} {M : mm_M} {K : Int32 → mm_M → Prop} (hG : mm_G M.2.2) (h : mm_CI mX12_isImage d [.ref 164, .int (M.1 164 1)] (mm_uI M 164 1 0) (fun z12 m12 => if z12 = 0 then (K 0 (mm_uI m12 166 (5).toNatClampNeg ((m12.1 166 (5).toNatClampNeg) + 1))) else (mm_CI mX12_houseMany d [.ref 164] m12 (fun z31 m31 => jX12_on_60 d (mm_uI m31 199 (0).toNatClampNeg ((256 * (m31.1 165 (0).toNatClampNeg)) + (m31.1 165 (1).toNatClampNeg))) K z31 0)))) : mm_CI mX12_on (d + 1) [.ref 164] M K := by
  show mm_W mX12_on (d + 1) 0 0 0 [(0, .ref 164)] [] mm_SH M 0 0 (mm_PI K)
  refine mm_aload_n (j := 0) dX12_on_0 rfl rfl ?_
  refine mm_getI (ci := 12) (N := 116) dX12_on_1 fX12_257 sh_164 rfl ?_
  refine mm_istore_n (lv' := [(1, .int (M.1 164 1)), (0, .ref 164)]) dX12_on_4 rfl (by decide) rfl ?_
  refine mm_aload_n (j := 1) dX12_on_5 rfl rfl ?_
  refine mm_iconst (x := 0) dX12_on_6 rfl ?_
  refine mm_putI (ci := 12) (N := 116) dX12_on_7 fX12_257 sh_164 (by decide +kernel) rfl rfl rfl ?_
  refine mm_aload_n (j := 1) dX12_on_10 rfl rfl ?_
  refine mm_iload_n (j := 0) dX12_on_11 rfl rfl ?_
  refine mm_kVI [.int (M.1 164 1)] dX12_on_12 kX12_740 rfl sh_164 (by decide) (by decide) h (fun z12 m12 hG h => ?_)
  refine mm_if_ne (tgt := 30) dX12_on_15 (by decide) (fun hc => ?_) (fun hc => ?_)
  · rw [if_neg hc] at h
    refine mm_aload_n (j := 1) dX12_on_30 rfl rfl ?_
    refine mm_kVI [] dX12_on_31 kX12_412 rfl sh_164 (by decide) (by decide) h (fun z31 m31 hG h => ?_)
    refine mm_istore_n (lv' := [(2, .int z31), (1, .int (M.1 164 1)), (0, .ref 164)]) dX12_on_34 rfl (by decide) rfl ?_
    refine mm_aload_n (j := 2) dX12_on_35 rfl rfl ?_
    refine mm_getR (ci := 12) (N := 116) (r := 199) dX12_on_36 fX12_118 sh_164 rfl (g_164_50 hG) ?_
    refine mm_iconst (x := 0) dX12_on_39 rfl ?_
    refine mm_sipush (x := 256) dX12_on_40 rfl ?_
    refine mm_aload_n (j := 2) dX12_on_43 rfl rfl ?_
    refine mm_getR (ci := 12) (N := 116) (r := 165) dX12_on_44 fX12_7 sh_164 rfl (g_164_0 hG) ?_
    refine mm_iconst (x := 0) dX12_on_47 rfl ?_
    refine mm_iaload (N := 1600) dX12_on_48 sh_165 (by decide) ?_
    refine mm_imul dX12_on_49 ?_
    refine mm_aload_n (j := 2) dX12_on_50 rfl rfl ?_
    refine mm_getR (ci := 12) (N := 116) (r := 165) dX12_on_51 fX12_7 sh_164 rfl (g_164_0 hG) ?_
    refine mm_iconst (x := 1) dX12_on_54 rfl ?_
    refine mm_iaload (N := 1600) dX12_on_55 sh_165 (by decide) ?_
    refine mm_iadd dX12_on_56 ?_
    refine mm_iastore (N := 204) dX12_on_57 sh_199 (by decide) ?_
    refine mm_iconst (x := 0) dX12_on_58 rfl ?_
    refine mm_istore_n (lv' := [(3, .int 0), (2, .int z31), (1, .int (M.1 164 1)), (0, .ref 164)]) dX12_on_59 rfl (by decide) rfl ?_
    exact mm_sub [3, 1, 0] rfl h
  · rw [if_pos hc] at h
    refine mm_aload_n (j := 1) dX12_on_18 rfl rfl ?_
    refine mm_getR (ci := 12) (N := 116) (r := 166) dX12_on_19 fX12_17 sh_164 rfl (g_164_9 hG) ?_
    refine mm_iconst (x := 5) dX12_on_22 rfl ?_
    refine mm_dup2 dX12_on_23 rfl rfl ?_
    refine mm_iaload (N := 6) dX12_on_24 sh_166 (by decide) ?_
    refine mm_iconst (x := 1) dX12_on_25 rfl ?_
    refine mm_iadd dX12_on_26 ?_
    refine mm_iastore (N := 6) dX12_on_27 sh_166 (by decide) ?_
    refine mm_iconst (x := 0) dX12_on_28 rfl ?_
    exact mm_zret dX12_on_29 rfl rfl (Nat.le_refl 0) (Nat.le_refl 0) ⟨_, rfl, rfl, hG, h⟩
set_option maxRecDepth 100000 in
set_option maxHeartbeats 4000000 in
theorem lX12_on_60 {d : Nat} {M : mm_M} {K : Int32 → mm_M → Prop} {y2 : Int32} {y3 : Int32} (hG : mm_G M.2.2) (h : if (3 * y2) ≤ y3 then (jX12_on_98 d M K y2 (2 + (3 * y2)) 0) else (vp_in (2 + y3) 1600 ∧ vp_in (1 + y3) 204 ∧ jX12_on_60 d (mm_uI M 199 (1 + y3).toNatClampNeg (M.1 165 (2 + y3).toNatClampNeg)) K y2 (y3 + 1))) : jX12_on_60 d  M K y2 y3 := by
  unfold jX12_on_60
  refine mm_iload_n (j := 2) dX12_on_60 rfl rfl ?_
  refine mm_iconst (x := 3) dX12_on_61 rfl ?_
  refine mm_iload_n (j := 1) dX12_on_62 rfl rfl ?_
  refine mm_imul dX12_on_63 ?_
  refine mm_icmp_ge (tgt := 89) dX12_on_64 (by decide) (fun hc => ?_) (fun hc => ?_)
  · rw [if_pos hc] at h
    refine mm_iconst (x := 2) dX12_on_89 rfl ?_
    refine mm_iconst (x := 3) dX12_on_90 rfl ?_
    refine mm_iload_n (j := 1) dX12_on_91 rfl rfl ?_
    refine mm_imul dX12_on_92 ?_
    refine mm_iadd dX12_on_93 ?_
    refine mm_istore_n (lv' := [(3, .int (2 + (3 * y2))), (0, .ref 164), (2, .int y2)]) dX12_on_94 rfl (by decide) rfl ?_
    refine mm_iconst (x := 0) dX12_on_95 rfl ?_
    refine mm_istore (lv' := [(4, .int 0), (3, .int (2 + (3 * y2))), (0, .ref 164), (2, .int y2)]) dX12_on_96 (by decide) rfl ?_
    exact mm_sub [2, 3, 1, 0] rfl h
  · rw [if_neg hc] at h
    refine mm_aload_n (j := 0) dX12_on_67 rfl rfl ?_
    refine mm_getR (ci := 12) (N := 116) (r := 199) dX12_on_68 fX12_118 sh_164 rfl (g_164_50 hG) ?_
    refine mm_iconst (x := 1) dX12_on_71 rfl ?_
    refine mm_iload_n (j := 2) dX12_on_72 rfl rfl ?_
    refine mm_iadd dX12_on_73 ?_
    refine mm_aload_n (j := 0) dX12_on_74 rfl rfl ?_
    refine mm_getR (ci := 12) (N := 116) (r := 165) dX12_on_75 fX12_7 sh_164 rfl (g_164_0 hG) ?_
    refine mm_iconst (x := 2) dX12_on_78 rfl ?_
    refine mm_iload_n (j := 2) dX12_on_79 rfl rfl ?_
    refine mm_iadd dX12_on_80 ?_
    obtain ⟨hi81, h⟩ := h
    refine mm_iaload (N := 1600) dX12_on_81 sh_165 hi81 ?_
    obtain ⟨hi82, h⟩ := h
    refine mm_iastore (N := 204) dX12_on_82 sh_199 hi82 ?_
    refine mm_iinc (j := 2) (v := y3 + 1) (lv' := [(3, .int (y3 + 1)), (0, .ref 164), (2, .int y2)]) dX12_on_83 rfl rfl (by decide) rfl ?_
    refine mm_goto (tgt := 60) dX12_on_86 (by decide) ?_
    exact mm_sub [1, 2, 0] rfl h
set_option maxRecDepth 100000 in
set_option maxHeartbeats 4000000 in
theorem lX12_on_98 {d : Nat} {M : mm_M} {K : Int32 → mm_M → Prop} {y2 : Int32} {y3 : Int32} {y4 : Int32} (hG : mm_G M.2.2) (h : if y2 ≤ y4 then (K 1 (mm_uI (mm_uI M 199 (43).toNatClampNeg 0) 164 79 0)) else (jX12_on_110 d M K y2 y3 y4 (y4 + 1))) : jX12_on_98 d  M K y2 y3 y4 := by
  unfold jX12_on_98
  refine mm_iload (j := 3) dX12_on_98 rfl ?_
  refine mm_iload_n (j := 1) dX12_on_100 rfl rfl ?_
  refine mm_icmp_ge (tgt := 152) dX12_on_101 (by decide) (fun hc => ?_) (fun hc => ?_)
  · rw [if_pos hc] at h
    refine mm_aload_n (j := 0) dX12_on_152 rfl rfl ?_
    refine mm_getR (ci := 12) (N := 116) (r := 199) dX12_on_153 fX12_118 sh_164 rfl (g_164_50 hG) ?_
    refine mm_bipush (x := 43) dX12_on_156 rfl ?_
    refine mm_iconst (x := 0) dX12_on_158 rfl ?_
    refine mm_iastore (N := 204) dX12_on_159 sh_199 (by decide) ?_
    refine mm_aload_n (j := 0) dX12_on_160 rfl rfl ?_
    refine mm_iconst (x := 0) dX12_on_161 rfl ?_
    refine mm_putI (ci := 12) (N := 116) dX12_on_162 fX12_406 sh_164 (by decide +kernel) rfl rfl rfl ?_
    refine mm_iconst (x := 1) dX12_on_165 rfl ?_
    exact mm_zret dX12_on_166 rfl rfl (Nat.le_refl 0) (Nat.le_refl 0) ⟨_, rfl, rfl, hG, h⟩
  · rw [if_neg hc] at h
    refine mm_iload (j := 3) dX12_on_104 rfl ?_
    refine mm_iconst (x := 1) dX12_on_106 rfl ?_
    refine mm_iadd dX12_on_107 ?_
    refine mm_istore (lv' := [(5, .int (y4 + 1)), (0, .ref 164), (2, .int y2), (3, .int y3), (4, .int y4)]) dX12_on_108 (by decide) rfl ?_
    exact mm_sub [1, 2, 3, 4, 0] rfl h
set_option maxRecDepth 100000 in
set_option maxHeartbeats 4000000 in
theorem lX12_on_110 {d : Nat} {M : mm_M} {K : Int32 → mm_M → Prop} {y2 : Int32} {y3 : Int32} {y4 : Int32} {y5 : Int32} (hG : mm_G M.2.2) (h : if y2 ≤ y5 then (jX12_on_98 d M K y2 y3 (y4 + 1)) else (mm_CI mX12_pairOf d [.int y4, .int y5] M (fun z126 m126 => vp_in y3 1600 ∧ vp_in (22 + z126) 204 ∧ jX12_on_110 d (mm_uI m126 199 (22 + z126).toNatClampNeg (m126.1 165 (y3).toNatClampNeg)) K y2 (y3 + 1) y4 (y5 + 1)))) : jX12_on_110 d  M K y2 y3 y4 y5 := by
  unfold jX12_on_110
  refine mm_iload (j := 4) dX12_on_110 rfl ?_
  refine mm_iload_n (j := 1) dX12_on_112 rfl rfl ?_
  refine mm_icmp_ge (tgt := 146) dX12_on_113 (by decide) (fun hc => ?_) (fun hc => ?_)
  · rw [if_pos hc] at h
    refine mm_iinc (j := 3) (v := y4 + 1) (lv' := [(4, .int (y4 + 1)), (0, .ref 164), (2, .int y2), (3, .int y3), (5, .int y5)]) dX12_on_146 rfl rfl (by decide) rfl ?_
    refine mm_goto (tgt := 98) dX12_on_149 (by decide) ?_
    exact mm_sub [1, 2, 3, 0] rfl h
  · rw [if_neg hc] at h
    refine mm_aload_n (j := 0) dX12_on_116 rfl rfl ?_
    refine mm_getR (ci := 12) (N := 116) (r := 199) dX12_on_117 fX12_118 sh_164 rfl (g_164_50 hG) ?_
    refine mm_bipush (x := 22) dX12_on_120 rfl ?_
    refine mm_iload (j := 3) dX12_on_122 rfl ?_
    refine mm_iload (j := 4) dX12_on_124 rfl ?_
    refine mm_kSI [.int y4, .int y5] dX12_on_126 kX12_347 rfl (by decide) (by decide) h (fun z126 m126 hG h => ?_)
    refine mm_iadd dX12_on_129 ?_
    refine mm_aload_n (j := 0) dX12_on_130 rfl rfl ?_
    refine mm_getR (ci := 12) (N := 116) (r := 165) dX12_on_131 fX12_7 sh_164 rfl (g_164_0 hG) ?_
    refine mm_iload_n (j := 2) dX12_on_134 rfl rfl ?_
    obtain ⟨hi135, h⟩ := h
    refine mm_iaload (N := 1600) dX12_on_135 sh_165 hi135 ?_
    obtain ⟨hi136, h⟩ := h
    refine mm_iastore (N := 204) dX12_on_136 sh_199 hi136 ?_
    refine mm_iinc (j := 2) (v := y3 + 1) (lv' := [(3, .int (y3 + 1)), (0, .ref 164), (2, .int y2), (4, .int y4), (5, .int y5)]) dX12_on_137 rfl rfl (by decide) rfl ?_
    refine mm_iinc (j := 4) (v := y5 + 1) (lv' := [(5, .int (y5 + 1)), (3, .int (y3 + 1)), (0, .ref 164), (2, .int y2), (4, .int y4)]) dX12_on_140 rfl rfl (by decide) rfl ?_
    refine mm_goto (tgt := 110) dX12_on_143 (by decide) ?_
    exact mm_sub [2, 3, 1, 4, 0] rfl h
set_option maxRecDepth 100000 in
set_option maxHeartbeats 4000000 in
theorem rX12_status {d : Nat} {x1 : Int32} {M : mm_M} {K : Int32 → mm_M → Prop} (hG : mm_G M.2.2) (h : mm_CI mX12_isIn d [.long x1.toInt64, .long 0, .long 5] M (fun z6 m6 => if z6 = 0 then (K (-1) m6) else (vp_in x1 6 ∧ K (m6.1 166 (x1).toNatClampNeg) m6))) : mm_CI mX12_status (d + 1) [.ref 164, .int x1] M K := by
  show mm_W mX12_status (d + 1) 0 0 0 [(0, .ref 164), (1, .int x1)] [] mm_SH M 0 0 (mm_PI K)
  refine mm_iload_n (j := 1) dX12_status_0 rfl rfl ?_
  refine mm_i2l dX12_status_1 ?_
  refine mm_lconst (x := 0) dX12_status_2 rfl ?_
  refine mm_ldc2 (x := 5) dX12_status_3 cX12_323 ?_
  refine mm_kSI [.long x1.toInt64, .long 0, .long 5] dX12_status_6 kX12_303 rfl (by decide) (by decide) h (fun z6 m6 hG h => ?_)
  refine mm_if_eq (tgt := 21) dX12_status_9 (by decide) (fun hc => ?_) (fun hc => ?_)
  · rw [if_pos hc] at h
    refine mm_iconst (x := (-1)) dX12_status_21 rfl ?_
    exact mm_iret dX12_status_22 rfl (Nat.le_refl 0) (Nat.le_refl 0) ⟨_, rfl, rfl, hG, h⟩
  · rw [if_neg hc] at h
    refine mm_aload_n (j := 0) dX12_status_12 rfl rfl ?_
    refine mm_getR (ci := 12) (N := 116) (r := 166) dX12_status_13 fX12_17 sh_164 rfl (g_164_9 hG) ?_
    refine mm_iload_n (j := 1) dX12_status_16 rfl rfl ?_
    obtain ⟨hi17, h⟩ := h
    refine mm_iaload (N := 6) dX12_status_17 sh_166 hi17 ?_
    refine mm_goto (tgt := 22) dX12_status_18 (by decide) ?_
    exact mm_iret dX12_status_22 rfl (Nat.le_refl 0) (Nat.le_refl 0) ⟨_, rfl, rfl, hG, h⟩
