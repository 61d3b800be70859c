set_option maxRecDepth 100000 in
set_option maxHeartbeats 4000000 in
theorem rX12_qClip {d : Nat} {x0 : Int64} {M : mm_M} {K : Int64 → mm_M → Prop} (hG : mm_G M.2.2) (h : if x0 ≤ 1000000 then (if (-1000000) ≤ x0 then (K x0 M) else (K (-1000000) M)) else (K 1000000 M)) : mm_CL mX12_qClip d [.long x0] M K := by
  show mm_W mX12_qClip d 0 0 0 [(0, .long x0)] [] mm_SH M 0 0 (mm_PL K)
  refine mm_lload_n (pc := 0) (j := 0) dX12_qClip_0 rfl rfl ?_
  refine mm_ldc2 (pc := 1) (x := 1000000) dX12_qClip_1 cX12_696 ?_
  refine mm_lcmp (pc := 4) dX12_qClip_4 ?_
  refine mm_if_le (pc := 5) (tgt := 14) dX12_qClip_5 (by decide) (fun hc => ?_) (fun hc => ?_)
  · have h := mm_ift (lgc_le.mp hc) h
    refine mm_lload_n (pc := 14) (j := 0) dX12_qClip_14 rfl rfl ?_
    refine mm_ldc2 (pc := 15) (x := (-1000000)) dX12_qClip_15 cX12_698 ?_
    refine mm_lcmp (pc := 18) dX12_qClip_18 ?_
    refine mm_if_ge (pc := 19) (tgt := 28) dX12_qClip_19 (by decide) (fun hc => ?_) (fun hc => ?_)
    · have h := mm_ift (lgc_ge.mp hc) h
      refine mm_lload_n (pc := 28) (j := 0) dX12_qClip_28 rfl rfl ?_
      exact mm_lret (pc := 29) dX12_qClip_29 rfl (Nat.le_refl 0) (Nat.le_refl 0) ⟨_, rfl, rfl, hG, h⟩
    · have h := mm_iff (fun q => hc (lgc_ge.mpr q)) h
      refine mm_ldc2 (pc := 22) (x := (-1000000)) dX12_qClip_22 cX12_698 ?_
      refine mm_goto (pc := 25) (tgt := 29) dX12_qClip_25 (by decide) ?_
      exact mm_lret (pc := 29) dX12_qClip_29 rfl (Nat.le_refl 0) (Nat.le_refl 0) ⟨_, rfl, rfl, hG, h⟩
  · have h := mm_iff (fun q => hc (lgc_le.mpr q)) h
    refine mm_ldc2 (pc := 8) (x := 1000000) dX12_qClip_8 cX12_696 ?_
    refine mm_goto (pc := 11) (tgt := 29) dX12_qClip_11 (by decide) ?_
    exact mm_lret (pc := 29) dX12_qClip_29 rfl (Nat.le_refl 0) (Nat.le_refl 0) ⟨_, rfl, rfl, hG, h⟩
def jX12_qFloor_32 (d : Nat) (x0 : Int64) (x2 : Int64) (M : mm_M) (K : Int64 → mm_M → Prop) (y2 : Int64) (y4 : Int64) (u0 : Int32) : Prop := mm_W mX12_qFloor d 0 0 32 [(2, .long y2), (4, .long y4)] [.int u0] mm_SH M 0 0 (mm_PL K)
set_option maxRecDepth 100000 in
set_option maxHeartbeats 4000000 in
theorem rX12_qFloor {d : Nat} {x0 : Int64} {x2 : Int64} {M : mm_M} {K : Int64 → mm_M → Prop} (hG : mm_G M.2.2) (h : if x2 = 0 then (K 0 M) else (¬ x2 = 0 ∧ ¬ x2 = 0 ∧ if (x0 - x0 / x2 * x2) = 0 then (K (x0 / x2) M) else (if 0 ≤ x0 then (jX12_qFloor_32 d x0 x2 M K x2 (x0 / x2) 0) else (jX12_qFloor_32 d x0 x2 M K x2 (x0 / x2) 1)))) : mm_CL mX12_qFloor d [.long x0, .long x2] M K := by
  show mm_W mX12_qFloor d 0 0 0 [(0, .long x0), (2, .long x2)] [] mm_SH M 0 0 (mm_PL K)
  refine mm_lload_n (pc := 0) (j := 1) dX12_qFloor_0 rfl rfl ?_
  refine mm_lconst (pc := 1) (x := 0) dX12_qFloor_1 rfl ?_
  refine mm_lcmp (pc := 2) dX12_qFloor_2 ?_
  refine mm_if_ne (pc := 3) (tgt := 8) dX12_qFloor_3 (by decide) (fun hc => ?_) (fun hc => ?_)
  · have h := mm_iff (fun q => hc (lgc_eq.mpr q)) h
    refine mm_lload_n (pc := 8) (j := 0) dX12_qFloor_8 rfl rfl ?_
    refine mm_lload_n (pc := 9) (j := 1) dX12_qFloor_9 rfl rfl ?_
    obtain ⟨hz10, h⟩ := h
    refine mm_ldiv (pc := 10) dX12_qFloor_10 hz10 ?_
    refine mm_lstore (pc := 11) (lv' := [(4, .long (x0 / x2)), (0, .long x0), (2, .long x2)]) dX12_qFloor_11 (by decide) rfl ?_
    refine mm_lload_n (pc := 13) (j := 1) dX12_qFloor_13 rfl rfl ?_
    refine mm_lload_n (pc := 14) (j := 2) dX12_qFloor_14 rfl rfl ?_
    obtain ⟨hz15, h⟩ := h
    refine mm_lrem (pc := 15) dX12_qFloor_15 hz15 ?_
    refine mm_lconst (pc := 16) (x := 0) dX12_qFloor_16 rfl ?_
    refine mm_lcmp (pc := 17) dX12_qFloor_17 ?_
    refine mm_if_eq (pc := 18) (tgt := 53) dX12_qFloor_18 (by decide) (fun hc => ?_) (fun hc => ?_)
    · have h := mm_ift (lgc_eq.mp hc) h
      refine mm_lload (pc := 53) (j := 0) dX12_qFloor_53 rfl ?_
      exact mm_lret (pc := 55) dX12_qFloor_55 rfl (Nat.le_refl 0) (Nat.le_refl 0) ⟨_, rfl, rfl, hG, h⟩
    · have h := mm_iff (fun q => hc (lgc_eq.mpr q)) h
      refine mm_lload_n (pc := 21) (j := 1) dX12_qFloor_21 rfl rfl ?_
      refine mm_lconst (pc := 22) (x := 0) dX12_qFloor_22 rfl ?_
      refine mm_lcmp (pc := 23) dX12_qFloor_23 ?_
      refine mm_if_ge (pc := 24) (tgt := 31) dX12_qFloor_24 (by decide) (fun hc => ?_) (fun hc => ?_)
      · have h := mm_ift (lgc_ge.mp hc) h
        refine mm_iconst (pc := 31) (x := 0) dX12_qFloor_31 rfl ?_
        exact mm_sub [2, 0] rfl h
      · have h := mm_iff (fun q => hc (lgc_ge.mpr q)) h
        refine mm_iconst (pc := 27) (x := 1) dX12_qFloor_27 rfl ?_
        refine mm_goto (pc := 28) (tgt := 32) dX12_qFloor_28 (by decide) ?_
        exact mm_sub [2, 0] rfl h
  · have h := mm_ift (lgc_eq.mp hc) h
    refine mm_lconst (pc := 6) (x := 0) dX12_qFloor_6 rfl ?_
    exact mm_lret (pc := 7) dX12_qFloor_7 rfl (Nat.le_refl 0) (Nat.le_refl 0) ⟨_, rfl, rfl, hG, h⟩
set_option maxRecDepth 100000 in
set_option maxHeartbeats 4000000 in
theorem lX12_qFloor_32 {d : Nat} {x0 : Int64} {x2 : Int64} {M : mm_M} {K : Int64 → mm_M → Prop} {y2 : Int64} {y4 : Int64} {u0 : Int32} (hG : mm_G M.2.2) (h : if 0 ≤ y2 then (if u0 = 0 then (K y4 M) else (K (y4 - 1) M)) else (if u0 = 1 then (K y4 M) else (K (y4 - 1) M))) : jX12_qFloor_32 d x0 x2 M K y2 y4 u0 := by
  unfold jX12_qFloor_32
  refine mm_lload_n (pc := 32) (j := 0) dX12_qFloor_32 rfl rfl ?_
  refine mm_lconst (pc := 33) (x := 0) dX12_qFloor_33 rfl ?_
  refine mm_lcmp (pc := 34) dX12_qFloor_34 ?_
  refine mm_if_ge (pc := 35) (tgt := 42) dX12_qFloor_35 (by decide) (fun hc => ?_) (fun hc => ?_)
  · have h := mm_ift (lgc_ge.mp hc) h
    refine mm_iconst (pc := 42) (x := 0) dX12_qFloor_42 rfl ?_
    refine mm_icmp_eq (pc := 43) (tgt := 53) dX12_qFloor_43 (by decide) (fun hc => ?_) (fun hc => ?_)
    · have h := mm_ift hc h
      refine mm_lload (pc := 53) (j := 1) dX12_qFloor_53 rfl ?_
      exact mm_lret (pc := 55) dX12_qFloor_55 rfl (Nat.le_refl 0) (Nat.le_refl 0) ⟨_, rfl, rfl, hG, h⟩
    · have h := mm_iff hc h
      refine mm_lload (pc := 46) (j := 1) dX12_qFloor_46 rfl ?_
      refine mm_lconst (pc := 48) (x := 1) dX12_qFloor_48 rfl ?_
      refine mm_lsub (pc := 49) dX12_qFloor_49 ?_
      refine mm_goto (pc := 50) (tgt := 55) dX12_qFloor_50 (by decide) ?_
      exact mm_lret (pc := 55) dX12_qFloor_55 rfl (Nat.le_refl 0) (Nat.le_refl 0) ⟨_, rfl, rfl, hG, h⟩
  · have h := mm_iff (fun q => hc (lgc_ge.mpr q)) h
    refine mm_iconst (pc := 38) (x := 1) dX12_qFloor_38 rfl ?_
    refine mm_goto (pc := 39) (tgt := 43) dX12_qFloor_39 (by decide) ?_
    refine mm_icmp_eq (pc := 43) (tgt := 53) dX12_qFloor_43 (by decide) (fun hc => ?_) (fun hc => ?_)
    · have h := mm_ift hc h
      refine mm_lload (pc := 53) (j := 1) dX12_qFloor_53 rfl ?_
      exact mm_lret (pc := 55) dX12_qFloor_55 rfl (Nat.le_refl 0) (Nat.le_refl 0) ⟨_, rfl, rfl, hG, h⟩
    · have h := mm_iff hc h
      refine mm_lload (pc := 46) (j := 1) dX12_qFloor_46 rfl ?_
      refine mm_lconst (pc := 48) (x := 1) dX12_qFloor_48 rfl ?_
      refine mm_lsub (pc := 49) dX12_qFloor_49 ?_
      refine mm_goto (pc := 50) (tgt := 55) dX12_qFloor_50 (by decide) ?_
      exact mm_lret (pc := 55) dX12_qFloor_55 rfl (Nat.le_refl 0) (Nat.le_refl 0) ⟨_, rfl, rfl, hG, h⟩
set_option maxRecDepth 100000 in
set_option maxHeartbeats 4000000 in
theorem rX12_qPuts {d : Nat} {x1 : Int64} {M : mm_M} {K : mm_M → Prop} (hG : mm_G M.2.2) (h : vp_in (M.1 164 111) 1700 ∧ K (mm_uI (mm_uL M 241 (M.1 164 111).toNatClampNeg x1) 164 111 (((mm_uL M 241 (M.1 164 111).toNatClampNeg x1).1 164 111) + 1))) : mm_CV mX12_qPuts d [.ref 164, .long x1] M K := by
  show mm_W mX12_qPuts d 0 0 0 [(0, .ref 164), (1, .long x1)] [] mm_SH M 0 0 (mm_PV K)
  refine mm_aload_n (pc := 0) (j := 0) dX12_qPuts_0 rfl rfl ?_
  refine mm_getR (pc := 1) (ci := 12) (N := 116) (r := 241) dX12_qPuts_1 fX12_249 sh_164 rfl (g_164_110 hG) ?_
  refine mm_aload_n (pc := 4) (j := 0) dX12_qPuts_4 rfl rfl ?_
  refine mm_getI (pc := 5) (ci := 12) (N := 116) dX12_qPuts_5 fX12_422 sh_164 rfl ?_
  refine mm_lload_n (pc := 8) (j := 1) dX12_qPuts_8 rfl rfl ?_
  obtain ⟨hi9, h⟩ := h
  refine mm_lastore (pc := 9) (N := 1700) dX12_qPuts_9 sh_241 hi9 ?_
  refine mm_aload_n (pc := 10) (j := 0) dX12_qPuts_10 rfl rfl ?_
  refine mm_dup (pc := 11) dX12_qPuts_11 rfl ?_
  refine mm_getI (pc := 12) (ci := 12) (N := 116) dX12_qPuts_12 fX12_422 sh_164 rfl ?_
  refine mm_iconst (pc := 15) (x := 1) dX12_qPuts_15 rfl ?_
  refine mm_iadd (pc := 16) dX12_qPuts_16 ?_
  refine mm_putI (pc := 17) (ci := 12) (N := 116) dX12_qPuts_17 fX12_422 sh_164 (by decide +kernel) rfl rfl rfl ?_
  exact mm_vret (pc := 20) dX12_qPuts_20 rfl (Nat.le_refl 0) (Nat.le_refl 0) ⟨rfl, rfl, hG, h⟩
set_option maxRecDepth 100000 in
set_option maxHeartbeats 4000000 in
theorem rX12_qJoins {d : Nat} {x1 : Int32} {M : mm_M} {K : mm_M → Prop} (hG : mm_G M.2.2) (h : vp_in ((M.1 164 111) - 1) 1700 ∧ vp_in ((M.1 164 111) - 2) 1700 ∧ if x1 = 1 then (mm_CL mX12_qClip d [.long ((M.2.1 241 ((M.1 164 111) - 2).toNatClampNeg) + (M.2.1 241 ((M.1 164 111) - 1).toNatClampNeg))] (mm_uI M 164 111 ((M.1 164 111) - 2)) (fun z97 m97 => mm_CV mX12_qPuts d [.ref 164, .long z97] m97 (fun m100 => K m100))) else (if x1 = 2 then (mm_CL mX12_qClip d [.long ((M.2.1 241 ((M.1 164 111) - 2).toNatClampNeg) - (M.2.1 241 ((M.1 164 111) - 1).toNatClampNeg))] (mm_uI M 164 111 ((M.1 164 111) - 2)) (fun z111 m111 => mm_CV mX12_qPuts d [.ref 164, .long z111] m111 (fun m114 => K m114))) else (if x1 = 3 then (mm_CL mX12_qClip d [.long ((M.2.1 241 ((M.1 164 111) - 2).toNatClampNeg) * (M.2.1 241 ((M.1 164 111) - 1).toNatClampNeg))] (mm_uI M 164 111 ((M.1 164 111) - 2)) (fun z125 m125 => mm_CV mX12_qPuts d [.ref 164, .long z125] m125 (fun m128 => K m128))) else (if x1 = 4 then (mm_CL mX12_qFloor d [.long (M.2.1 241 ((M.1 164 111) - 2).toNatClampNeg), .long (M.2.1 241 ((M.1 164 111) - 1).toNatClampNeg)] (mm_uI M 164 111 ((M.1 164 111) - 2)) (fun z138 m138 => mm_CV mX12_qPuts d [.ref 164, .long z138] m138 (fun m141 => K m141))) else (if x1 = 5 then (if (M.2.1 241 ((M.1 164 111) - 1).toNatClampNeg) ≤ (M.2.1 241 ((M.1 164 111) - 2).toNatClampNeg) then (mm_CV mX12_qPuts d [.ref 164, .long (M.2.1 241 ((M.1 164 111) - 1).toNatClampNeg)] (mm_uI M 164 111 ((M.1 164 111) - 2)) (fun m161 => K m161)) else (mm_CV mX12_qPuts d [.ref 164, .long (M.2.1 241 ((M.1 164 111) - 2).toNatClampNeg)] (mm_uI M 164 111 ((M.1 164 111) - 2)) (fun m161 => K m161))) else (if x1 = 6 then (if (M.2.1 241 ((M.1 164 111) - 2).toNatClampNeg) ≤ (M.2.1 241 ((M.1 164 111) - 1).toNatClampNeg) then (mm_CV mX12_qPuts d [.ref 164, .long (M.2.1 241 ((M.1 164 111) - 1).toNatClampNeg)] (mm_uI M 164 111 ((M.1 164 111) - 2)) (fun m181 => K m181)) else (mm_CV mX12_qPuts d [.ref 164, .long (M.2.1 241 ((M.1 164 111) - 2).toNatClampNeg)] (mm_uI M 164 111 ((M.1 164 111) - 2)) (fun m181 => K m181))) else (if x1 = 7 then (if (M.2.1 241 ((M.1 164 111) - 1).toNatClampNeg) ≤ (M.2.1 241 ((M.1 164 111) - 2).toNatClampNeg) then (mm_CV mX12_qPuts d [.ref 164, .long 0] (mm_uI M 164 111 ((M.1 164 111) - 2)) (fun m200 => K m200)) else (mm_CV mX12_qPuts d [.ref 164, .long 1] (mm_uI M 164 111 ((M.1 164 111) - 2)) (fun m200 => K m200))) else (if x1 = 8 then (if (M.2.1 241 ((M.1 164 111) - 2).toNatClampNeg) ≤ (M.2.1 241 ((M.1 164 111) - 1).toNatClampNeg) then (mm_CV mX12_qPuts d [.ref 164, .long 0] (mm_uI M 164 111 ((M.1 164 111) - 2)) (fun m219 => K m219)) else (mm_CV mX12_qPuts d [.ref 164, .long 1] (mm_uI M 164 111 ((M.1 164 111) - 2)) (fun m219 => K m219))) else (if x1 = 9 then (if (M.2.1 241 ((M.1 164 111) - 2).toNatClampNeg) = (M.2.1 241 ((M.1 164 111) - 1).toNatClampNeg) then (mm_CV mX12_qPuts d [.ref 164, .long 1] (mm_uI M 164 111 ((M.1 164 111) - 2)) (fun m238 => K m238)) else (mm_CV mX12_qPuts d [.ref 164, .long 0] (mm_uI M 164 111 ((M.1 164 111) - 2)) (fun m238 => K m238))) else (if x1 = 10 then (mm_CV mX12_qPuts d [.ref 164, .long ((M.2.1 241 ((M.1 164 111) - 2).toNatClampNeg) * (M.2.1 241 ((M.1 164 111) - 1).toNatClampNeg))] (mm_uI M 164 111 ((M.1 164 111) - 2)) (fun m249 => K m249)) else (if ((M.2.1 241 ((M.1 164 111) - 2).toNatClampNeg) + (M.2.1 241 ((M.1 164 111) - 1).toNatClampNeg)) ≤ 0 then (mm_CV mX12_qPuts d [.ref 164, .long 0] (mm_uI M 164 111 ((M.1 164 111) - 2)) (fun m270 => K m270)) else (mm_CV mX12_qPuts d [.ref 164, .long 1] (mm_uI M 164 111 ((M.1 164 111) - 2)) (fun m270 => K m270))))))))))))) : mm_CV mX12_qJoins (d + 1) [.ref 164, .int x1] M K := by
  show mm_W mX12_qJoins (d + 1) 0 0 0 [(0, .ref 164), (1, .int x1)] [] mm_SH M 0 0 (mm_PV K)
  refine mm_aload_n (pc := 0) (j := 0) dX12_qJoins_0 rfl rfl ?_
  refine mm_getR (pc := 1) (ci := 12) (N := 116) (r := 241) dX12_qJoins_1 fX12_249 sh_164 rfl (g_164_110 hG) ?_
  refine mm_aload_n (pc := 4) (j := 0) dX12_qJoins_4 rfl rfl ?_
  refine mm_getI (pc := 5) (ci := 12) (N := 116) dX12_qJoins_5 fX12_422 sh_164 rfl ?_
  refine mm_iconst (pc := 8) (x := 1) dX12_qJoins_8 rfl ?_
  refine mm_isub (pc := 9) dX12_qJoins_9 ?_
  obtain ⟨hi10, h⟩ := h
  refine mm_laload (pc := 10) (N := 1700) dX12_qJoins_10 sh_241 hi10 ?_
  refine mm_lstore_n (pc := 11) (lv' := [(2, .long (M.2.1 241 ((M.1 164 111) - 1).toNatClampNeg)), (0, .ref 164), (1, .int x1)]) dX12_qJoins_11 rfl (by decide) rfl ?_
  refine mm_aload_n (pc := 12) (j := 1) dX12_qJoins_12 rfl rfl ?_
  refine mm_getR (pc := 13) (ci := 12) (N := 116) (r := 241) dX12_qJoins_13 fX12_249 sh_164 rfl (g_164_110 hG) ?_
  refine mm_aload_n (pc := 16) (j := 1) dX12_qJoins_16 rfl rfl ?_
  refine mm_getI (pc := 17) (ci := 12) (N := 116) dX12_qJoins_17 fX12_422 sh_164 rfl ?_
  refine mm_iconst (pc := 20) (x := 2) dX12_qJoins_20 rfl ?_
  refine mm_isub (pc := 21) dX12_qJoins_21 ?_
  obtain ⟨hi22, h⟩ := h
  refine mm_laload (pc := 22) (N := 1700) dX12_qJoins_22 sh_241 hi22 ?_
  refine mm_lstore (pc := 23) (lv' := [(4, .long (M.2.1 241 ((M.1 164 111) - 2).toNatClampNeg)), (2, .long (M.2.1 241 ((M.1 164 111) - 1).toNatClampNeg)), (0, .ref 164), (1, .int x1)]) dX12_qJoins_23 (by decide) rfl ?_
  refine mm_aload_n (pc := 25) (j := 2) dX12_qJoins_25 rfl rfl ?_
  refine mm_dup (pc := 26) dX12_qJoins_26 rfl ?_
  refine mm_getI (pc := 27) (ci := 12) (N := 116) dX12_qJoins_27 fX12_422 sh_164 rfl ?_
  refine mm_iconst (pc := 30) (x := 2) dX12_qJoins_30 rfl ?_
  refine mm_isub (pc := 31) dX12_qJoins_31 ?_
  refine mm_putI (pc := 32) (ci := 12) (N := 116) dX12_qJoins_32 fX12_422 sh_164 (by decide +kernel) rfl rfl rfl ?_
  refine mm_iload_n (pc := 35) (j := 3) dX12_qJoins_35 rfl rfl ?_
  by_cases hs36_0 : x1 = 1
  · have h := mm_ift hs36_0 h
    refine mm_tableIn (pc := 36) (off := 56) (tgt := 92) dX12_qJoins_36 (by rw [hs36_0]; decide) (by rw [hs36_0]; decide) (by rw [hs36_0]; rfl) (by decide) ?_
    refine mm_aload_n (pc := 92) (j := 2) dX12_qJoins_92 rfl rfl ?_
    refine mm_lload (pc := 93) (j := 0) dX12_qJoins_93 rfl ?_
    refine mm_lload_n (pc := 95) (j := 1) dX12_qJoins_95 rfl rfl ?_
    refine mm_ladd (pc := 96) dX12_qJoins_96 ?_
    refine mm_kSL (pc := 97) [.long ((M.2.1 241 ((M.1 164 111) - 2).toNatClampNeg) + (M.2.1 241 ((M.1 164 111) - 1).toNatClampNeg))] dX12_qJoins_97 kX12_700 rfl (Nat.le_of_ble_eq_true rfl) (Nat.le_of_ble_eq_true rfl) h (fun z97 m97 hG h => ?_)
    refine mm_kVV (pc := 100) [.long z97] dX12_qJoins_100 kX12_425 rfl sh_164 (Nat.le_of_ble_eq_true rfl) (Nat.le_of_ble_eq_true rfl) h (fun m100 hG h => ?_)
    refine mm_goto (pc := 103) (tgt := 273) dX12_qJoins_103 (by decide) ?_
    exact mm_vret (pc := 273) dX12_qJoins_273 rfl (Nat.le_refl 0) (Nat.le_refl 0) ⟨rfl, rfl, hG, h⟩
  · have h := mm_iff hs36_0 h
    by_cases hs36_1 : x1 = 2
    · have h := mm_ift hs36_1 h
      refine mm_tableIn (pc := 36) (off := 70) (tgt := 106) dX12_qJoins_36 (by rw [hs36_1]; decide) (by rw [hs36_1]; decide) (by rw [hs36_1]; rfl) (by decide) ?_
      refine mm_aload_n (pc := 106) (j := 2) dX12_qJoins_106 rfl rfl ?_
      refine mm_lload (pc := 107) (j := 0) dX12_qJoins_107 rfl ?_
      refine mm_lload_n (pc := 109) (j := 1) dX12_qJoins_109 rfl rfl ?_
      refine mm_lsub (pc := 110) dX12_qJoins_110 ?_
      refine mm_kSL (pc := 111) [.long ((M.2.1 241 ((M.1 164 111) - 2).toNatClampNeg) - (M.2.1 241 ((M.1 164 111) - 1).toNatClampNeg))] dX12_qJoins_111 kX12_700 rfl (Nat.le_of_ble_eq_true rfl) (Nat.le_of_ble_eq_true rfl) h (fun z111 m111 hG h => ?_)
      refine mm_kVV (pc := 114) [.long z111] dX12_qJoins_114 kX12_425 rfl sh_164 (Nat.le_of_ble_eq_true rfl) (Nat.le_of_ble_eq_true rfl) h (fun m114 hG h => ?_)
      refine mm_goto (pc := 117) (tgt := 273) dX12_qJoins_117 (by decide) ?_
      exact mm_vret (pc := 273) dX12_qJoins_273 rfl (Nat.le_refl 0) (Nat.le_refl 0) ⟨rfl, rfl, hG, h⟩
    · have h := mm_iff hs36_1 h
      by_cases hs36_2 : x1 = 3
      · have h := mm_ift hs36_2 h
        refine mm_tableIn (pc := 36) (off := 84) (tgt := 120) dX12_qJoins_36 (by rw [hs36_2]; decide) (by rw [hs36_2]; decide) (by rw [hs36_2]; rfl) (by decide) ?_
        refine mm_aload_n (pc := 120) (j := 2) dX12_qJoins_120 rfl rfl ?_
        refine mm_lload (pc := 121) (j := 0) dX12_qJoins_121 rfl ?_
        refine mm_lload_n (pc := 123) (j := 1) dX12_qJoins_123 rfl rfl ?_
        refine mm_lmul (pc := 124) dX12_qJoins_124 ?_
        refine mm_kSL (pc := 125) [.long ((M.2.1 241 ((M.1 164 111) - 2).toNatClampNeg) * (M.2.1 241 ((M.1 164 111) - 1).toNatClampNeg))] dX12_qJoins_125 kX12_700 rfl (Nat.le_of_ble_eq_true rfl) (Nat.le_of_ble_eq_true rfl) h (fun z125 m125 hG h => ?_)
        refine mm_kVV (pc := 128) [.long z125] dX12_qJoins_128 kX12_425 rfl sh_164 (Nat.le_of_ble_eq_true rfl) (Nat.le_of_ble_eq_true rfl) h (fun m128 hG h => ?_)
        refine mm_goto (pc := 131) (tgt := 273) dX12_qJoins_131 (by decide) ?_
        exact mm_vret (pc := 273) dX12_qJoins_273 rfl (Nat.le_refl 0) (Nat.le_refl 0) ⟨rfl, rfl, hG, h⟩
      · have h := mm_iff hs36_2 h
        by_cases hs36_3 : x1 = 4
        · have h := mm_ift hs36_3 h
          refine mm_tableIn (pc := 36) (off := 98) (tgt := 134) dX12_qJoins_36 (by rw [hs36_3]; decide) (by rw [hs36_3]; decide) (by rw [hs36_3]; rfl) (by decide) ?_
          refine mm_aload_n (pc := 134) (j := 2) dX12_qJoins_134 rfl rfl ?_
          refine mm_lload (pc := 135) (j := 0) dX12_qJoins_135 rfl ?_
          refine mm_lload_n (pc := 137) (j := 1) dX12_qJoins_137 rfl rfl ?_
          refine mm_kSL (pc := 138) [.long (M.2.1 241 ((M.1 164 111) - 2).toNatClampNeg), .long (M.2.1 241 ((M.1 164 111) - 1).toNatClampNeg)] dX12_qJoins_138 kX12_704 rfl (Nat.le_of_ble_eq_true rfl) (Nat.le_of_ble_eq_true rfl) h (fun z138 m138 hG h => ?_)
          refine mm_kVV (pc := 141) [.long z138] dX12_qJoins_141 kX12_425 rfl sh_164 (Nat.le_of_ble_eq_true rfl) (Nat.le_of_ble_eq_true rfl) h (fun m141 hG h => ?_)
          refine mm_goto (pc := 144) (tgt := 273) dX12_qJoins_144 (by decide) ?_
          exact mm_vret (pc := 273) dX12_qJoins_273 rfl (Nat.le_refl 0) (Nat.le_refl 0) ⟨rfl, rfl, hG, h⟩
        · have h := mm_iff hs36_3 h
          by_cases hs36_4 : x1 = 5
          · have h := mm_ift hs36_4 h
            refine mm_tableIn (pc := 36) (off := 111) (tgt := 147) dX12_qJoins_36 (by rw [hs36_4]; decide) (by rw [hs36_4]; decide) (by rw [hs36_4]; rfl) (by decide) ?_
            refine mm_aload_n (pc := 147) (j := 2) dX12_qJoins_147 rfl rfl ?_
            refine mm_lload (pc := 148) (j := 0) dX12_qJoins_148 rfl ?_
            refine mm_lload_n (pc := 150) (j := 1) dX12_qJoins_150 rfl rfl ?_
            refine mm_lcmp (pc := 151) dX12_qJoins_151 ?_
            refine mm_if_ge (pc := 152) (tgt := 160) dX12_qJoins_152 (by decide) (fun hc => ?_) (fun hc => ?_)
            · have h := mm_ift (lgc_ge.mp hc) h
              refine mm_lload_n (pc := 160) (j := 1) dX12_qJoins_160 rfl rfl ?_
              refine mm_kVV (pc := 161) [.long (M.2.1 241 ((M.1 164 111) - 1).toNatClampNeg)] dX12_qJoins_161 kX12_425 rfl sh_164 (Nat.le_of_ble_eq_true rfl) (Nat.le_of_ble_eq_true rfl) h (fun m161 hG h => ?_)
              refine mm_goto (pc := 164) (tgt := 273) dX12_qJoins_164 (by decide) ?_
              exact mm_vret (pc := 273) dX12_qJoins_273 rfl (Nat.le_refl 0) (Nat.le_refl 0) ⟨rfl, rfl, hG, h⟩
            · have h := mm_iff (fun q => hc (lgc_ge.mpr q)) h
              refine mm_lload (pc := 155) (j := 0) dX12_qJoins_155 rfl ?_
              refine mm_goto (pc := 157) (tgt := 161) dX12_qJoins_157 (by decide) ?_
              refine mm_kVV (pc := 161) [.long (M.2.1 241 ((M.1 164 111) - 2).toNatClampNeg)] dX12_qJoins_161 kX12_425 rfl sh_164 (Nat.le_of_ble_eq_true rfl) (Nat.le_of_ble_eq_true rfl) h (fun m161 hG h => ?_)
              refine mm_goto (pc := 164) (tgt := 273) dX12_qJoins_164 (by decide) ?_
              exact mm_vret (pc := 273) dX12_qJoins_273 rfl (Nat.le_refl 0) (Nat.le_refl 0) ⟨rfl, rfl, hG, h⟩
          · have h := mm_iff hs36_4 h
            by_cases hs36_5 : x1 = 6
            · have h := mm_ift hs36_5 h
              refine mm_tableIn (pc := 36) (off := 131) (tgt := 167) dX12_qJoins_36 (by rw [hs36_5]; decide) (by rw [hs36_5]; decide) (by rw [hs36_5]; rfl) (by decide) ?_
              refine mm_aload_n (pc := 167) (j := 2) dX12_qJoins_167 rfl rfl ?_
              refine mm_lload (pc := 168) (j := 0) dX12_qJoins_168 rfl ?_
              refine mm_lload_n (pc := 170) (j := 1) dX12_qJoins_170 rfl rfl ?_
              refine mm_lcmp (pc := 171) dX12_qJoins_171 ?_
              refine mm_if_le (pc := 172) (tgt := 180) dX12_qJoins_172 (by decide) (fun hc => ?_) (fun hc => ?_)
              · have h := mm_ift (lgc_le.mp hc) h
                refine mm_lload_n (pc := 180) (j := 1) dX12_qJoins_180 rfl rfl ?_
                refine mm_kVV (pc := 181) [.long (M.2.1 241 ((M.1 164 111) - 1).toNatClampNeg)] dX12_qJoins_181 kX12_425 rfl sh_164 (Nat.le_of_ble_eq_true rfl) (Nat.le_of_ble_eq_true rfl) h (fun m181 hG h => ?_)
                refine mm_goto (pc := 184) (tgt := 273) dX12_qJoins_184 (by decide) ?_
                exact mm_vret (pc := 273) dX12_qJoins_273 rfl (Nat.le_refl 0) (Nat.le_refl 0) ⟨rfl, rfl, hG, h⟩
              · have h := mm_iff (fun q => hc (lgc_le.mpr q)) h
                refine mm_lload (pc := 175) (j := 0) dX12_qJoins_175 rfl ?_
                refine mm_goto (pc := 177) (tgt := 181) dX12_qJoins_177 (by decide) ?_
                refine mm_kVV (pc := 181) [.long (M.2.1 241 ((M.1 164 111) - 2).toNatClampNeg)] dX12_qJoins_181 kX12_425 rfl sh_164 (Nat.le_of_ble_eq_true rfl) (Nat.le_of_ble_eq_true rfl) h (fun m181 hG h => ?_)
                refine mm_goto (pc := 184) (tgt := 273) dX12_qJoins_184 (by decide) ?_
                exact mm_vret (pc := 273) dX12_qJoins_273 rfl (Nat.le_refl 0) (Nat.le_refl 0) ⟨rfl, rfl, hG, h⟩
            · have h := mm_iff hs36_5 h
              by_cases hs36_6 : x1 = 7
              · have h := mm_ift hs36_6 h
                refine mm_tableIn (pc := 36) (off := 151) (tgt := 187) dX12_qJoins_36 (by rw [hs36_6]; decide) (by rw [hs36_6]; decide) (by rw [hs36_6]; rfl) (by decide) ?_
                refine mm_aload_n (pc := 187) (j := 2) dX12_qJoins_187 rfl rfl ?_
                refine mm_lload (pc := 188) (j := 0) dX12_qJoins_188 rfl ?_
                refine mm_lload_n (pc := 190) (j := 1) dX12_qJoins_190 rfl rfl ?_
                refine mm_lcmp (pc := 191) dX12_qJoins_191 ?_
                refine mm_if_ge (pc := 192) (tgt := 199) dX12_qJoins_192 (by decide) (fun hc => ?_) (fun hc => ?_)
                · have h := mm_ift (lgc_ge.mp hc) h
                  refine mm_lconst (pc := 199) (x := 0) dX12_qJoins_199 rfl ?_
                  refine mm_kVV (pc := 200) [.long 0] dX12_qJoins_200 kX12_425 rfl sh_164 (Nat.le_of_ble_eq_true rfl) (Nat.le_of_ble_eq_true rfl) h (fun m200 hG h => ?_)
                  refine mm_goto (pc := 203) (tgt := 273) dX12_qJoins_203 (by decide) ?_
                  exact mm_vret (pc := 273) dX12_qJoins_273 rfl (Nat.le_refl 0) (Nat.le_refl 0) ⟨rfl, rfl, hG, h⟩
                · have h := mm_iff (fun q => hc (lgc_ge.mpr q)) h
                  refine mm_lconst (pc := 195) (x := 1) dX12_qJoins_195 rfl ?_
                  refine mm_goto (pc := 196) (tgt := 200) dX12_qJoins_196 (by decide) ?_
                  refine mm_kVV (pc := 200) [.long 1] dX12_qJoins_200 kX12_425 rfl sh_164 (Nat.le_of_ble_eq_true rfl) (Nat.le_of_ble_eq_true rfl) h (fun m200 hG h => ?_)
                  refine mm_goto (pc := 203) (tgt := 273) dX12_qJoins_203 (by decide) ?_
                  exact mm_vret (pc := 273) dX12_qJoins_273 rfl (Nat.le_refl 0) (Nat.le_refl 0) ⟨rfl, rfl, hG, h⟩
              · have h := mm_iff hs36_6 h
                by_cases hs36_7 : x1 = 8
                · have h := mm_ift hs36_7 h
                  refine mm_tableIn (pc := 36) (off := 170) (tgt := 206) dX12_qJoins_36 (by rw [hs36_7]; decide) (by rw [hs36_7]; decide) (by rw [hs36_7]; rfl) (by decide) ?_
                  refine mm_aload_n (pc := 206) (j := 2) dX12_qJoins_206 rfl rfl ?_
                  refine mm_lload (pc := 207) (j := 0) dX12_qJoins_207 rfl ?_
                  refine mm_lload_n (pc := 209) (j := 1) dX12_qJoins_209 rfl rfl ?_
                  refine mm_lcmp (pc := 210) dX12_qJoins_210 ?_
                  refine mm_if_le (pc := 211) (tgt := 218) dX12_qJoins_211 (by decide) (fun hc => ?_) (fun hc => ?_)
                  · have h := mm_ift (lgc_le.mp hc) h
                    refine mm_lconst (pc := 218) (x := 0) dX12_qJoins_218 rfl ?_
                    refine mm_kVV (pc := 219) [.long 0] dX12_qJoins_219 kX12_425 rfl sh_164 (Nat.le_of_ble_eq_true rfl) (Nat.le_of_ble_eq_true rfl) h (fun m219 hG h => ?_)
                    refine mm_goto (pc := 222) (tgt := 273) dX12_qJoins_222 (by decide) ?_
                    exact mm_vret (pc := 273) dX12_qJoins_273 rfl (Nat.le_refl 0) (Nat.le_refl 0) ⟨rfl, rfl, hG, h⟩
                  · have h := mm_iff (fun q => hc (lgc_le.mpr q)) h
                    refine mm_lconst (pc := 214) (x := 1) dX12_qJoins_214 rfl ?_
                    refine mm_goto (pc := 215) (tgt := 219) dX12_qJoins_215 (by decide) ?_
                    refine mm_kVV (pc := 219) [.long 1] dX12_qJoins_219 kX12_425 rfl sh_164 (Nat.le_of_ble_eq_true rfl) (Nat.le_of_ble_eq_true rfl) h (fun m219 hG h => ?_)
                    refine mm_goto (pc := 222) (tgt := 273) dX12_qJoins_222 (by decide) ?_
                    exact mm_vret (pc := 273) dX12_qJoins_273 rfl (Nat.le_refl 0) (Nat.le_refl 0) ⟨rfl, rfl, hG, h⟩
                · have h := mm_iff hs36_7 h
                  by_cases hs36_8 : x1 = 9
                  · have h := mm_ift hs36_8 h
                    refine mm_tableIn (pc := 36) (off := 189) (tgt := 225) dX12_qJoins_36 (by rw [hs36_8]; decide) (by rw [hs36_8]; decide) (by rw [hs36_8]; rfl) (by decide) ?_
                    refine mm_aload_n (pc := 225) (j := 2) dX12_qJoins_225 rfl rfl ?_
                    refine mm_lload (pc := 226) (j := 0) dX12_qJoins_226 rfl ?_
                    refine mm_lload_n (pc := 228) (j := 1) dX12_qJoins_228 rfl rfl ?_
                    refine mm_lcmp (pc := 229) dX12_qJoins_229 ?_
                    refine mm_if_ne (pc := 230) (tgt := 237) dX12_qJoins_230 (by decide) (fun hc => ?_) (fun hc => ?_)
                    · have h := mm_iff (fun q => hc (lgc_eq.mpr q)) h
                      refine mm_lconst (pc := 237) (x := 0) dX12_qJoins_237 rfl ?_
                      refine mm_kVV (pc := 238) [.long 0] dX12_qJoins_238 kX12_425 rfl sh_164 (Nat.le_of_ble_eq_true rfl) (Nat.le_of_ble_eq_true rfl) h (fun m238 hG h => ?_)
                      refine mm_goto (pc := 241) (tgt := 273) dX12_qJoins_241 (by decide) ?_
                      exact mm_vret (pc := 273) dX12_qJoins_273 rfl (Nat.le_refl 0) (Nat.le_refl 0) ⟨rfl, rfl, hG, h⟩
                    · have h := mm_ift (lgc_eq.mp hc) h
                      refine mm_lconst (pc := 233) (x := 1) dX12_qJoins_233 rfl ?_
                      refine mm_goto (pc := 234) (tgt := 238) dX12_qJoins_234 (by decide) ?_
                      refine mm_kVV (pc := 238) [.long 1] dX12_qJoins_238 kX12_425 rfl sh_164 (Nat.le_of_ble_eq_true rfl) (Nat.le_of_ble_eq_true rfl) h (fun m238 hG h => ?_)
                      refine mm_goto (pc := 241) (tgt := 273) dX12_qJoins_241 (by decide) ?_
                      exact mm_vret (pc := 273) dX12_qJoins_273 rfl (Nat.le_refl 0) (Nat.le_refl 0) ⟨rfl, rfl, hG, h⟩
                  · have h := mm_iff hs36_8 h
                    by_cases hs36_9 : x1 = 10
                    · have h := mm_ift hs36_9 h
                      refine mm_tableIn (pc := 36) (off := 208) (tgt := 244) dX12_qJoins_36 (by rw [hs36_9]; decide) (by rw [hs36_9]; decide) (by rw [hs36_9]; rfl) (by decide) ?_
                      refine mm_aload_n (pc := 244) (j := 2) dX12_qJoins_244 rfl rfl ?_
                      refine mm_lload (pc := 245) (j := 0) dX12_qJoins_245 rfl ?_
                      refine mm_lload_n (pc := 247) (j := 1) dX12_qJoins_247 rfl rfl ?_
                      refine mm_lmul (pc := 248) dX12_qJoins_248 ?_
                      refine mm_kVV (pc := 249) [.long ((M.2.1 241 ((M.1 164 111) - 2).toNatClampNeg) * (M.2.1 241 ((M.1 164 111) - 1).toNatClampNeg))] dX12_qJoins_249 kX12_425 rfl sh_164 (Nat.le_of_ble_eq_true rfl) (Nat.le_of_ble_eq_true rfl) h (fun m249 hG h => ?_)
                      refine mm_goto (pc := 252) (tgt := 273) dX12_qJoins_252 (by decide) ?_
                      exact mm_vret (pc := 273) dX12_qJoins_273 rfl (Nat.le_refl 0) (Nat.le_refl 0) ⟨rfl, rfl, hG, h⟩
                    · have h := mm_iff hs36_9 h
                      have ht36_0 := lv_neT hs36_0 (show (1 : Int32).toInt = 1 from rfl)
                      have ht36_1 := lv_neT hs36_1 (show (2 : Int32).toInt = 2 from rfl)
                      have ht36_2 := lv_neT hs36_2 (show (3 : Int32).toInt = 3 from rfl)
                      have ht36_3 := lv_neT hs36_3 (show (4 : Int32).toInt = 4 from rfl)
                      have ht36_4 := lv_neT hs36_4 (show (5 : Int32).toInt = 5 from rfl)
                      have ht36_5 := lv_neT hs36_5 (show (6 : Int32).toInt = 6 from rfl)
                      have ht36_6 := lv_neT hs36_6 (show (7 : Int32).toInt = 7 from rfl)
                      have ht36_7 := lv_neT hs36_7 (show (8 : Int32).toInt = 8 from rfl)
                      have ht36_8 := lv_neT hs36_8 (show (9 : Int32).toInt = 9 from rfl)
                      have ht36_9 := lv_neT hs36_9 (show (10 : Int32).toInt = 10 from rfl)
                      refine mm_tableOut (pc := 36) (tgt := 255) dX12_qJoins_36 (by omega) (by decide) ?_
                      refine mm_aload_n (pc := 255) (j := 2) dX12_qJoins_255 rfl rfl ?_
                      refine mm_lload (pc := 256) (j := 0) dX12_qJoins_256 rfl ?_
                      refine mm_lload_n (pc := 258) (j := 1) dX12_qJoins_258 rfl rfl ?_
                      refine mm_ladd (pc := 259) dX12_qJoins_259 ?_
                      refine mm_lconst (pc := 260) (x := 0) dX12_qJoins_260 rfl ?_
                      refine mm_lcmp (pc := 261) dX12_qJoins_261 ?_
                      refine mm_if_le (pc := 262) (tgt := 269) dX12_qJoins_262 (by decide) (fun hc => ?_) (fun hc => ?_)
                      · have h := mm_ift (lgc_le.mp hc) h
                        refine mm_lconst (pc := 269) (x := 0) dX12_qJoins_269 rfl ?_
                        refine mm_kVV (pc := 270) [.long 0] dX12_qJoins_270 kX12_425 rfl sh_164 (Nat.le_of_ble_eq_true rfl) (Nat.le_of_ble_eq_true rfl) h (fun m270 hG h => ?_)
                        exact mm_vret (pc := 273) dX12_qJoins_273 rfl (Nat.le_refl 0) (Nat.le_refl 0) ⟨rfl, rfl, hG, h⟩
                      · have h := mm_iff (fun q => hc (lgc_le.mpr q)) h
                        refine mm_lconst (pc := 265) (x := 1) dX12_qJoins_265 rfl ?_
                        refine mm_goto (pc := 266) (tgt := 270) dX12_qJoins_266 (by decide) ?_
                        refine mm_kVV (pc := 270) [.long 1] dX12_qJoins_270 kX12_425 rfl sh_164 (Nat.le_of_ble_eq_true rfl) (Nat.le_of_ble_eq_true rfl) h (fun m270 hG h => ?_)
                        exact mm_vret (pc := 273) dX12_qJoins_273 rfl (Nat.le_refl 0) (Nat.le_refl 0) ⟨rfl, rfl, hG, h⟩
set_option maxRecDepth 100000 in
set_option maxHeartbeats 4000000 in
theorem rX12_qPartOf {d : Nat} {x1 : Int32} {x2 : Int32} {M : mm_M} {K : Int64 → mm_M → Prop} (hG : mm_G M.2.2) (h : if x1 = 0 then (mm_CI mX12_flourOf d [.ref 164, .int (M.1 164 52)] M (fun z49 m49 => K z49.toInt64 m49)) else (if x1 = 1 then (vp_in (7 + (M.1 164 52)) 14 ∧ K ((M.1 194 (7 + (M.1 164 52)).toNatClampNeg).toInt64) M) else (if x1 = 2 then (mm_CI mX12_hungerOf d [.ref 164, .int (M.1 164 53)] M (fun z73 m73 => K z73.toInt64 m73)) else (if x1 = 3 then (K ((M.1 199 (0 : Int32).toNatClampNeg).toInt64) M) else (if x1 = 4 then (K (M.2.1 164 54) M) else (if x1 = 5 then (K ((M.1 164 55).toInt64) M) else (if x1 = 6 then (K ((M.1 164 52).toInt64) M) else (mm_CI mX12_enemyMany d [.ref 164, .int (M.1 164 52)] M (fun z108 m108 => K z108.toInt64 m108))))))))) : mm_CL mX12_qPartOf (d + 1) [.ref 164, .int x1, .int x2] M K := by
  show mm_W mX12_qPartOf (d + 1) 0 0 0 [(0, .ref 164), (1, .int x1), (2, .int x2)] [] mm_SH M 0 0 (mm_PL K)
  refine mm_iload_n (pc := 0) (j := 1) dX12_qPartOf_0 rfl rfl ?_
  by_cases hs1_0 : x1 = 0
  · have h := mm_ift hs1_0 h
    refine mm_tableIn (pc := 1) (off := 43) (tgt := 44) dX12_qPartOf_1 (by rw [hs1_0]; decide) (by rw [hs1_0]; decide) (by rw [hs1_0]; rfl) (by decide) ?_
    refine mm_aload_n (pc := 44) (j := 0) dX12_qPartOf_44 rfl rfl ?_
    refine mm_aload_n (pc := 45) (j := 0) dX12_qPartOf_45 rfl rfl ?_
    refine mm_getI (pc := 46) (ci := 12) (N := 116) dX12_qPartOf_46 fX12_429 sh_164 rfl ?_
    refine mm_kVI (pc := 49) [.int (M.1 164 52)] dX12_qPartOf_49 kX12_465 rfl sh_164 (Nat.le_of_ble_eq_true rfl) (Nat.le_of_ble_eq_true rfl) h (fun z49 m49 hG h => ?_)
    refine mm_i2l (pc := 52) dX12_qPartOf_52 ?_
    exact mm_lret (pc := 53) dX12_qPartOf_53 rfl (Nat.le_refl 0) (Nat.le_refl 0) ⟨_, rfl, rfl, hG, h⟩
  · have h := mm_iff hs1_0 h
    by_cases hs1_1 : x1 = 1
    · have h := mm_ift hs1_1 h
      refine mm_tableIn (pc := 1) (off := 53) (tgt := 54) dX12_qPartOf_1 (by rw [hs1_1]; decide) (by rw [hs1_1]; decide) (by rw [hs1_1]; rfl) (by decide) ?_
      refine mm_aload_n (pc := 54) (j := 0) dX12_qPartOf_54 rfl rfl ?_
      refine mm_getR (pc := 55) (ci := 12) (N := 116) (r := 194) dX12_qPartOf_55 fX12_103 sh_164 rfl (g_164_41 hG) ?_
      refine mm_bipush (pc := 58) (x := 7) dX12_qPartOf_58 rfl ?_
      refine mm_aload_n (pc := 60) (j := 0) dX12_qPartOf_60 rfl rfl ?_
      refine mm_getI (pc := 61) (ci := 12) (N := 116) dX12_qPartOf_61 fX12_429 sh_164 rfl ?_
      refine mm_iadd (pc := 64) dX12_qPartOf_64 ?_
      obtain ⟨hi65, h⟩ := h
      refine mm_iaload (pc := 65) (N := 14) dX12_qPartOf_65 sh_194 hi65 ?_
      refine mm_i2l (pc := 66) dX12_qPartOf_66 ?_
      exact mm_lret (pc := 67) dX12_qPartOf_67 rfl (Nat.le_refl 0) (Nat.le_refl 0) ⟨_, rfl, rfl, hG, h⟩
    · have h := mm_iff hs1_1 h
      by_cases hs1_2 : x1 = 2
      · have h := mm_ift hs1_2 h
        refine mm_tableIn (pc := 1) (off := 67) (tgt := 68) dX12_qPartOf_1 (by rw [hs1_2]; decide) (by rw [hs1_2]; decide) (by rw [hs1_2]; rfl) (by decide) ?_
        refine mm_aload_n (pc := 68) (j := 0) dX12_qPartOf_68 rfl rfl ?_
        refine mm_aload_n (pc := 69) (j := 0) dX12_qPartOf_69 rfl rfl ?_
        refine mm_getI (pc := 70) (ci := 12) (N := 116) dX12_qPartOf_70 fX12_439 sh_164 rfl ?_
        refine mm_kVI (pc := 73) [.int (M.1 164 53)] dX12_qPartOf_73 kX12_459 rfl sh_164 (Nat.le_of_ble_eq_true rfl) (Nat.le_of_ble_eq_true rfl) h (fun z73 m73 hG h => ?_)
        refine mm_i2l (pc := 76) dX12_qPartOf_76 ?_
        exact mm_lret (pc := 77) dX12_qPartOf_77 rfl (Nat.le_refl 0) (Nat.le_refl 0) ⟨_, rfl, rfl, hG, h⟩
      · have h := mm_iff hs1_2 h
        by_cases hs1_3 : x1 = 3
        · have h := mm_ift hs1_3 h
          refine mm_tableIn (pc := 1) (off := 77) (tgt := 78) dX12_qPartOf_1 (by rw [hs1_3]; decide) (by rw [hs1_3]; decide) (by rw [hs1_3]; rfl) (by decide) ?_
          refine mm_aload_n (pc := 78) (j := 0) dX12_qPartOf_78 rfl rfl ?_
          refine mm_getR (pc := 79) (ci := 12) (N := 116) (r := 199) dX12_qPartOf_79 fX12_118 sh_164 rfl (g_164_50 hG) ?_
          refine mm_iconst (pc := 82) (x := 0) dX12_qPartOf_82 rfl ?_
          refine mm_iaload (pc := 83) (N := 204) dX12_qPartOf_83 sh_199 (mm_vin (k := 0) rfl (by decide) (by decide)) ?_
          refine mm_i2l (pc := 84) dX12_qPartOf_84 ?_
          exact mm_lret (pc := 85) dX12_qPartOf_85 rfl (Nat.le_refl 0) (Nat.le_refl 0) ⟨_, rfl, rfl, hG, h⟩
        · have h := mm_iff hs1_3 h
          by_cases hs1_4 : x1 = 4
          · have h := mm_ift hs1_4 h
            refine mm_tableIn (pc := 1) (off := 85) (tgt := 86) dX12_qPartOf_1 (by rw [hs1_4]; decide) (by rw [hs1_4]; decide) (by rw [hs1_4]; rfl) (by decide) ?_
            refine mm_aload_n (pc := 86) (j := 0) dX12_qPartOf_86 rfl rfl ?_
            refine mm_getL (pc := 87) (ci := 12) (N := 116) dX12_qPartOf_87 fX12_442 sh_164 rfl ?_
            exact mm_lret (pc := 90) dX12_qPartOf_90 rfl (Nat.le_refl 0) (Nat.le_refl 0) ⟨_, rfl, rfl, hG, h⟩
          · have h := mm_iff hs1_4 h
            by_cases hs1_5 : x1 = 5
            · have h := mm_ift hs1_5 h
              refine mm_tableIn (pc := 1) (off := 90) (tgt := 91) dX12_qPartOf_1 (by rw [hs1_5]; decide) (by rw [hs1_5]; decide) (by rw [hs1_5]; rfl) (by decide) ?_
              refine mm_aload_n (pc := 91) (j := 0) dX12_qPartOf_91 rfl rfl ?_
              refine mm_getI (pc := 92) (ci := 12) (N := 116) dX12_qPartOf_92 fX12_498 sh_164 rfl ?_
              refine mm_i2l (pc := 95) dX12_qPartOf_95 ?_
              exact mm_lret (pc := 96) dX12_qPartOf_96 rfl (Nat.le_refl 0) (Nat.le_refl 0) ⟨_, rfl, rfl, hG, h⟩
            · have h := mm_iff hs1_5 h
              by_cases hs1_6 : x1 = 6
              · have h := mm_ift hs1_6 h
                refine mm_tableIn (pc := 1) (off := 96) (tgt := 97) dX12_qPartOf_1 (by rw [hs1_6]; decide) (by rw [hs1_6]; decide) (by rw [hs1_6]; rfl) (by decide) ?_
                refine mm_aload_n (pc := 97) (j := 0) dX12_qPartOf_97 rfl rfl ?_
                refine mm_getI (pc := 98) (ci := 12) (N := 116) dX12_qPartOf_98 fX12_429 sh_164 rfl ?_
                refine mm_i2l (pc := 101) dX12_qPartOf_101 ?_
                exact mm_lret (pc := 102) dX12_qPartOf_102 rfl (Nat.le_refl 0) (Nat.le_refl 0) ⟨_, rfl, rfl, hG, h⟩
              · have h := mm_iff hs1_6 h
                have ht1_0 := lv_neT hs1_0 (show (0 : Int32).toInt = 0 from rfl)
                have ht1_1 := lv_neT hs1_1 (show (1 : Int32).toInt = 1 from rfl)
                have ht1_2 := lv_neT hs1_2 (show (2 : Int32).toInt = 2 from rfl)
                have ht1_3 := lv_neT hs1_3 (show (3 : Int32).toInt = 3 from rfl)
                have ht1_4 := lv_neT hs1_4 (show (4 : Int32).toInt = 4 from rfl)
                have ht1_5 := lv_neT hs1_5 (show (5 : Int32).toInt = 5 from rfl)
                have ht1_6 := lv_neT hs1_6 (show (6 : Int32).toInt = 6 from rfl)
                refine mm_tableOut (pc := 1) (tgt := 103) dX12_qPartOf_1 (by omega) (by decide) ?_
                refine mm_aload_n (pc := 103) (j := 0) dX12_qPartOf_103 rfl rfl ?_
                refine mm_aload_n (pc := 104) (j := 0) dX12_qPartOf_104 rfl rfl ?_
                refine mm_getI (pc := 105) (ci := 12) (N := 116) dX12_qPartOf_105 fX12_429 sh_164 rfl ?_
                refine mm_kVI (pc := 108) [.int (M.1 164 52)] dX12_qPartOf_108 kX12_538 rfl sh_164 (Nat.le_of_ble_eq_true rfl) (Nat.le_of_ble_eq_true rfl) h (fun z108 m108 hG h => ?_)
                refine mm_i2l (pc := 111) dX12_qPartOf_111 ?_
                exact mm_lret (pc := 112) dX12_qPartOf_112 rfl (Nat.le_refl 0) (Nat.le_refl 0) ⟨_, rfl, rfl, hG, h⟩
set_option maxRecDepth 100000 in
set_option maxHeartbeats 4000000 in
theorem rX12_qOf {d : Nat} {x1 : Int32} {x2 : Int64} {x4 : Int32} {M : mm_M} {K : Int64 → mm_M → Prop} (hG : mm_G M.2.2) (h : if x1 = 0 then (mm_CI mX12_isHouse d [.ref 164, .long x2] M (fun z22 m22 => if z22 = 0 then (K 0 m22) else (if x2 = x4.toInt64 then (K 0 m22) else (mm_CI mX12_hateOf d [.ref 164, .int x4, .int x2.toInt32] m22 (fun z41 m41 => K z41.toInt64 m41))))) else (mm_CI mX12_isHouse d [.ref 164, .long x2] M (fun z52 m52 => if z52 = 0 then (K (-1) m52) else (vp_in ((7 * x4) + x2.toInt32) 49 ∧ K (m52.2.1 201 ((7 * x4) + x2.toInt32).toNatClampNeg) m52)))) : mm_CL mX12_qOf (d + 1) [.ref 164, .int x1, .long x2, .int x4] M K := by
  show mm_W mX12_qOf (d + 1) 0 0 0 [(0, .ref 164), (1, .int x1), (2, .long x2), (4, .int x4)] [] mm_SH M 0 0 (mm_PL K)
  refine mm_iload_n (pc := 0) (j := 1) dX12_qOf_0 rfl rfl ?_
  by_cases hs1_0 : x1 = 0
  · have h := mm_ift hs1_0 h
    refine mm_lookup (pc := 1) (off := 19) (tgt := 20) dX12_qOf_1 (by decide) (by rw [hs1_0]; rfl) (by decide) ?_
    refine mm_aload_n (pc := 20) (j := 0) dX12_qOf_20 rfl rfl ?_
    refine mm_lload_n (pc := 21) (j := 2) dX12_qOf_21 rfl rfl ?_
    refine mm_kVI (pc := 22) [.long x2] dX12_qOf_22 kX12_534 rfl sh_164 (Nat.le_of_ble_eq_true rfl) (Nat.le_of_ble_eq_true rfl) h (fun z22 m22 hG h => ?_)
    refine mm_if_eq (pc := 25) (tgt := 48) dX12_qOf_25 (by decide) (fun hc => ?_) (fun hc => ?_)
    · have h := mm_ift hc h
      refine mm_lconst (pc := 48) (x := 0) dX12_qOf_48 rfl ?_
      exact mm_lret (pc := 49) dX12_qOf_49 rfl (Nat.le_refl 0) (Nat.le_refl 0) ⟨_, rfl, rfl, hG, h⟩
    · have h := mm_iff hc h
      refine mm_lload_n (pc := 28) (j := 2) dX12_qOf_28 rfl rfl ?_
      refine mm_iload (pc := 29) (j := 3) dX12_qOf_29 rfl ?_
      refine mm_i2l (pc := 31) dX12_qOf_31 ?_
      refine mm_lcmp (pc := 32) dX12_qOf_32 ?_
      refine mm_if_eq (pc := 33) (tgt := 48) dX12_qOf_33 (by decide) (fun hc => ?_) (fun hc => ?_)
      · have h := mm_ift (lgc_eq.mp hc) h
        refine mm_lconst (pc := 48) (x := 0) dX12_qOf_48 rfl ?_
        exact mm_lret (pc := 49) dX12_qOf_49 rfl (Nat.le_refl 0) (Nat.le_refl 0) ⟨_, rfl, rfl, hG, h⟩
      · have h := mm_iff (fun q => hc (lgc_eq.mpr q)) h
        refine mm_aload_n (pc := 36) (j := 0) dX12_qOf_36 rfl rfl ?_
        refine mm_iload (pc := 37) (j := 3) dX12_qOf_37 rfl ?_
        refine mm_lload_n (pc := 39) (j := 2) dX12_qOf_39 rfl rfl ?_
        refine mm_l2i (pc := 40) dX12_qOf_40 ?_
        refine mm_kVI (pc := 41) [.int x4, .int x2.toInt32] dX12_qOf_41 kX12_415 rfl sh_164 (Nat.le_of_ble_eq_true rfl) (Nat.le_of_ble_eq_true rfl) h (fun z41 m41 hG h => ?_)
        refine mm_i2l (pc := 44) dX12_qOf_44 ?_
        refine mm_goto (pc := 45) (tgt := 49) dX12_qOf_45 (by decide) ?_
        exact mm_lret (pc := 49) dX12_qOf_49 rfl (Nat.le_refl 0) (Nat.le_refl 0) ⟨_, rfl, rfl, hG, h⟩
  · have h := mm_iff hs1_0 h
    refine mm_lookup (pc := 1) (off := 49) (tgt := 50) dX12_qOf_1 (by decide) (by show Op.lookupswitch.offset [(0, 19)] 49 (x1).toInt = 49; rw [lv_osw (a := 0) hs1_0 rfl]; rfl) (by decide) ?_
    refine mm_aload_n (pc := 50) (j := 0) dX12_qOf_50 rfl rfl ?_
    refine mm_lload_n (pc := 51) (j := 2) dX12_qOf_51 rfl rfl ?_
    refine mm_kVI (pc := 52) [.long x2] dX12_qOf_52 kX12_534 rfl sh_164 (Nat.le_of_ble_eq_true rfl) (Nat.le_of_ble_eq_true rfl) h (fun z52 m52 hG h => ?_)
    refine mm_if_eq (pc := 55) (tgt := 74) dX12_qOf_55 (by decide) (fun hc => ?_) (fun hc => ?_)
    · have h := mm_ift hc h
      refine mm_ldc2 (pc := 74) (x := (-1)) dX12_qOf_74 cX12_587 ?_
      exact mm_lret (pc := 77) dX12_qOf_77 rfl (Nat.le_refl 0) (Nat.le_refl 0) ⟨_, rfl, rfl, hG, h⟩
    · have h := mm_iff hc h
      refine mm_aload_n (pc := 58) (j := 0) dX12_qOf_58 rfl rfl ?_
      refine mm_getR (pc := 59) (ci := 12) (N := 116) (r := 201) dX12_qOf_59 fX12_124 sh_164 rfl (g_164_56 hG) ?_
      refine mm_bipush (pc := 62) (x := 7) dX12_qOf_62 rfl ?_
      refine mm_iload (pc := 64) (j := 3) dX12_qOf_64 rfl ?_
      refine mm_imul (pc := 66) dX12_qOf_66 ?_
      refine mm_lload_n (pc := 67) (j := 2) dX12_qOf_67 rfl rfl ?_
      refine mm_l2i (pc := 68) dX12_qOf_68 ?_
      refine mm_iadd (pc := 69) dX12_qOf_69 ?_
      obtain ⟨hi70, h⟩ := h
      refine mm_laload (pc := 70) (N := 49) dX12_qOf_70 sh_201 hi70 ?_
      refine mm_goto (pc := 71) (tgt := 77) dX12_qOf_71 (by decide) ?_
      exact mm_lret (pc := 77) dX12_qOf_77 rfl (Nat.le_refl 0) (Nat.le_refl 0) ⟨_, rfl, rfl, hG, h⟩
def jX12_qTold_7 (d : Nat) (x1 : Int32) (M : mm_M) (K : Int64 → mm_M → Prop) (y1 : Int32) (y2 : Int32) : Prop := mm_W mX12_qTold (d + 1) 0 0 7 [(0, .ref 164), (1, .int y1), (2, .int y2)] [] mm_SH M 0 0 (mm_PL K)
set_option maxRecDepth 100000 in
set_option maxHeartbeats 4000000 in
theorem rX12_qTold {d : Nat} {x1 : Int32} {M : mm_M} {K : Int64 → mm_M → Prop} (hG : mm_G M.2.2) (h : jX12_qTold_7 d x1 (mm_uI M 164 111 0) K x1 0) : mm_CL mX12_qTold (d + 1) [.ref 164, .int x1] M K := by
  show mm_W mX12_qTold (d + 1) 0 0 0 [(0, .ref 164), (1, .int x1)] [] mm_SH M 0 0 (mm_PL K)
  refine mm_aload_n (pc := 0) (j := 0) dX12_qTold_0 rfl rfl ?_
  refine mm_iconst (pc := 1) (x := 0) dX12_qTold_1 rfl ?_
  refine mm_putI (pc := 2) (ci := 12) (N := 116) dX12_qTold_2 fX12_422 sh_164 (by decide +kernel) rfl rfl rfl ?_
  refine mm_iconst (pc := 5) (x := 0) dX12_qTold_5 rfl ?_
  refine mm_istore_n (pc := 6) (lv' := [(2, .int 0), (0, .ref 164), (1, .int x1)]) dX12_qTold_6 rfl (by decide) rfl ?_
  exact mm_sub [1, 2, 0] rfl h
set_option maxRecDepth 100000 in
set_option maxHeartbeats 4000000 in
theorem lX12_qTold_7 {d : Nat} {x1 : Int32} {M : mm_M} {K : Int64 → mm_M → Prop} {y1 : Int32} {y2 : Int32} (hG : mm_G M.2.2) (h : if (M.1 164 105) ≤ y2 then (K (M.2.1 241 (0 : Int32).toNatClampNeg) M) else (vp_in y2 1700 ∧ if (M.1 239 y2.toNatClampNeg) < 1000 then (if (M.1 239 y2.toNatClampNeg) < 60 then (if (M.1 239 y2.toNatClampNeg) < 40 then (if (M.1 239 y2.toNatClampNeg) = 13 then (mm_CV mX12_qPuts d [.ref 164, .long 1] M (fun m118 => jX12_qTold_7 d x1 m118 K y1 (y2 + 1))) else (if (M.1 239 y2.toNatClampNeg) = 12 then (vp_in ((M.1 164 111) - 1) 1700 ∧ vp_in ((M.1 164 111) - 1) 1700 ∧ jX12_qTold_7 d x1 (mm_uL M 241 ((M.1 164 111) - 1).toNatClampNeg (1 - (M.2.1 241 ((M.1 164 111) - 1).toNatClampNeg))) K y1 (y2 + 1)) else (mm_CV mX12_qJoins d [.ref 164, .int (M.1 239 y2.toNatClampNeg)] M (fun m159 => jX12_qTold_7 d x1 m159 K y1 (y2 + 1))))) else (mm_CL mX12_qPartOf d [.ref 164, .int ((M.1 239 y2.toNatClampNeg) - 40), .int y1] M (fun z98 m98 => mm_CL mX12_qClip d [.long z98] m98 (fun z101 m101 => mm_CV mX12_qPuts d [.ref 164, .long z101] m101 (fun m104 => jX12_qTold_7 d x1 m104 K y1 (y2 + 1)))))) else (vp_in ((M.1 164 111) - 1) 1700 ∧ mm_CL mX12_qOf d [.ref 164, .int ((M.1 239 y2.toNatClampNeg) - 60), .long (M.2.1 241 ((M.1 164 111) - 1).toNatClampNeg), .int y1] M (fun z75 m75 => mm_CL mX12_qClip d [.long z75] m75 (fun z78 m78 => vp_in ((M.1 164 111) - 1) 1700 ∧ jX12_qTold_7 d x1 (mm_uL m78 241 ((M.1 164 111) - 1).toNatClampNeg z78) K y1 (y2 + 1))))) else (mm_CV mX12_qPuts d [.ref 164, .long (((M.1 239 y2.toNatClampNeg) - 1000).toInt64)] M (fun m36 => jX12_qTold_7 d x1 m36 K y1 (y2 + 1))))) : jX12_qTold_7 d x1 M K y1 y2 := by
  unfold jX12_qTold_7
  refine mm_iload_n (pc := 7) (j := 2) dX12_qTold_7 rfl rfl ?_
  refine mm_aload_n (pc := 8) (j := 0) dX12_qTold_8 rfl rfl ?_
  refine mm_getI (pc := 9) (ci := 12) (N := 116) dX12_qTold_9 fX12_354 sh_164 rfl ?_
  refine mm_icmp_ge (pc := 12) (tgt := 168) dX12_qTold_12 (by decide) (fun hc => ?_) (fun hc => ?_)
  · have h := mm_ift hc h
    refine mm_aload_n (pc := 168) (j := 0) dX12_qTold_168 rfl rfl ?_
    refine mm_getR (pc := 169) (ci := 12) (N := 116) (r := 241) dX12_qTold_169 fX12_249 sh_164 rfl (g_164_110 hG) ?_
    refine mm_iconst (pc := 172) (x := 0) dX12_qTold_172 rfl ?_
    refine mm_laload (pc := 173) (N := 1700) dX12_qTold_173 sh_241 (mm_vin (k := 0) rfl (by decide) (by decide)) ?_
    exact mm_lret (pc := 174) dX12_qTold_174 rfl (Nat.le_refl 0) (Nat.le_refl 0) ⟨_, rfl, rfl, hG, h⟩
  · have h := mm_iff hc h
    refine mm_aload_n (pc := 15) (j := 0) dX12_qTold_15 rfl rfl ?_
    refine mm_getR (pc := 16) (ci := 12) (N := 116) (r := 239) dX12_qTold_16 fX12_243 sh_164 rfl (g_164_104 hG) ?_
    refine mm_iload_n (pc := 19) (j := 2) dX12_qTold_19 rfl rfl ?_
    obtain ⟨hi20, h⟩ := h
    refine mm_iaload (pc := 20) (N := 1700) dX12_qTold_20 sh_239 hi20 ?_
    refine mm_istore_n (pc := 21) (lv' := [(3, .int (M.1 239 y2.toNatClampNeg)), (0, .ref 164), (1, .int y1), (2, .int y2)]) dX12_qTold_21 rfl (by decide) rfl ?_
    refine mm_iload_n (pc := 22) (j := 0) dX12_qTold_22 rfl rfl ?_
    refine mm_sipush (pc := 23) (x := 1000) dX12_qTold_23 rfl ?_
    refine mm_icmp_lt (pc := 26) (tgt := 42) dX12_qTold_26 (by decide) (fun hc => ?_) (fun hc => ?_)
    · have h := mm_ift hc h
      refine mm_iload_n (pc := 42) (j := 0) dX12_qTold_42 rfl rfl ?_
      refine mm_bipush (pc := 43) (x := 60) dX12_qTold_43 rfl ?_
      refine mm_icmp_lt (pc := 45) (tgt := 85) dX12_qTold_45 (by decide) (fun hc => ?_) (fun hc => ?_)
      · have h := mm_ift hc h
        refine mm_iload_n (pc := 85) (j := 0) dX12_qTold_85 rfl rfl ?_
        refine mm_bipush (pc := 86) (x := 40) dX12_qTold_86 rfl ?_
        refine mm_icmp_lt (pc := 88) (tgt := 110) dX12_qTold_88 (by decide) (fun hc => ?_) (fun hc => ?_)
        · have h := mm_ift hc h
          refine mm_iload_n (pc := 110) (j := 0) dX12_qTold_110 rfl rfl ?_
          refine mm_bipush (pc := 111) (x := 13) dX12_qTold_111 rfl ?_
          refine mm_icmp_ne (pc := 113) (tgt := 124) dX12_qTold_113 (by decide) (fun hc => ?_) (fun hc => ?_)
          · have h := mm_iff hc h
            refine mm_iload_n (pc := 124) (j := 0) dX12_qTold_124 rfl rfl ?_
            refine mm_bipush (pc := 125) (x := 12) dX12_qTold_125 rfl ?_
            refine mm_icmp_ne (pc := 127) (tgt := 157) dX12_qTold_127 (by decide) (fun hc => ?_) (fun hc => ?_)
            · have h := mm_iff hc h
              refine mm_aload_n (pc := 157) (j := 1) dX12_qTold_157 rfl rfl ?_
              refine mm_iload_n (pc := 158) (j := 0) dX12_qTold_158 rfl rfl ?_
              refine mm_kVV (pc := 159) [.int (M.1 239 y2.toNatClampNeg)] dX12_qTold_159 kX12_436 rfl sh_164 (Nat.le_of_ble_eq_true rfl) (Nat.le_of_ble_eq_true rfl) h (fun m159 hG h => ?_)
              refine mm_iinc (pc := 162) (j := 3) (v := y2 + 1) (lv' := [(2, .int (y2 + 1)), (3, .int (M.1 239 y2.toNatClampNeg)), (0, .ref 164), (1, .int y1)]) dX12_qTold_162 rfl rfl (by decide) rfl ?_
              refine mm_goto (pc := 165) (tgt := 7) dX12_qTold_165 (by decide) ?_
              exact mm_sub [2, 3, 0] rfl h
            · have h := mm_ift hc h
              refine mm_aload_n (pc := 130) (j := 1) dX12_qTold_130 rfl rfl ?_
              refine mm_getR (pc := 131) (ci := 12) (N := 116) (r := 241) dX12_qTold_131 fX12_249 sh_164 rfl (g_164_110 hG) ?_
              refine mm_aload_n (pc := 134) (j := 1) dX12_qTold_134 rfl rfl ?_
              refine mm_getI (pc := 135) (ci := 12) (N := 116) dX12_qTold_135 fX12_422 sh_164 rfl ?_
              refine mm_iconst (pc := 138) (x := 1) dX12_qTold_138 rfl ?_
              refine mm_isub (pc := 139) dX12_qTold_139 ?_
              refine mm_lconst (pc := 140) (x := 1) dX12_qTold_140 rfl ?_
              refine mm_aload_n (pc := 141) (j := 1) dX12_qTold_141 rfl rfl ?_
              refine mm_getR (pc := 142) (ci := 12) (N := 116) (r := 241) dX12_qTold_142 fX12_249 sh_164 rfl (g_164_110 hG) ?_
              refine mm_aload_n (pc := 145) (j := 1) dX12_qTold_145 rfl rfl ?_
              refine mm_getI (pc := 146) (ci := 12) (N := 116) dX12_qTold_146 fX12_422 sh_164 rfl ?_
              refine mm_iconst (pc := 149) (x := 1) dX12_qTold_149 rfl ?_
              refine mm_isub (pc := 150) dX12_qTold_150 ?_
              obtain ⟨hi151, h⟩ := h
              refine mm_laload (pc := 151) (N := 1700) dX12_qTold_151 sh_241 hi151 ?_
              refine mm_lsub (pc := 152) dX12_qTold_152 ?_
              obtain ⟨hi153, h⟩ := h
              refine mm_lastore (pc := 153) (N := 1700) dX12_qTold_153 sh_241 hi153 ?_
              refine mm_goto (pc := 154) (tgt := 162) dX12_qTold_154 (by decide) ?_
              refine mm_iinc (pc := 162) (j := 3) (v := y2 + 1) (lv' := [(2, .int (y2 + 1)), (3, .int (M.1 239 y2.toNatClampNeg)), (0, .ref 164), (1, .int y1)]) dX12_qTold_162 rfl rfl (by decide) rfl ?_
              refine mm_goto (pc := 165) (tgt := 7) dX12_qTold_165 (by decide) ?_
              exact mm_sub [2, 3, 0] rfl h
          · have h := mm_ift hc h
            refine mm_aload_n (pc := 116) (j := 1) dX12_qTold_116 rfl rfl ?_
            refine mm_lconst (pc := 117) (x := 1) dX12_qTold_117 rfl ?_
            refine mm_kVV (pc := 118) [.long 1] dX12_qTold_118 kX12_425 rfl sh_164 (Nat.le_of_ble_eq_true rfl) (Nat.le_of_ble_eq_true rfl) h (fun m118 hG h => ?_)
            refine mm_goto (pc := 121) (tgt := 162) dX12_qTold_121 (by decide) ?_
            refine mm_iinc (pc := 162) (j := 3) (v := y2 + 1) (lv' := [(2, .int (y2 + 1)), (3, .int (M.1 239 y2.toNatClampNeg)), (0, .ref 164), (1, .int y1)]) dX12_qTold_162 rfl rfl (by decide) rfl ?_
            refine mm_goto (pc := 165) (tgt := 7) dX12_qTold_165 (by decide) ?_
            exact mm_sub [2, 3, 0] rfl h
        · have h := mm_iff hc h
          refine mm_aload_n (pc := 91) (j := 1) dX12_qTold_91 rfl rfl ?_
          refine mm_aload_n (pc := 92) (j := 1) dX12_qTold_92 rfl rfl ?_
          refine mm_iload_n (pc := 93) (j := 0) dX12_qTold_93 rfl rfl ?_
          refine mm_bipush (pc := 94) (x := 40) dX12_qTold_94 rfl ?_
          refine mm_isub (pc := 96) dX12_qTold_96 ?_
          refine mm_iload_n (pc := 97) (j := 2) dX12_qTold_97 rfl rfl ?_
          refine mm_kVL (pc := 98) [.int ((M.1 239 y2.toNatClampNeg) - 40), .int y1] dX12_qTold_98 kX12_432 rfl sh_164 (Nat.le_of_ble_eq_true rfl) (Nat.le_of_ble_eq_true rfl) h (fun z98 m98 hG h => ?_)
          refine mm_kSL (pc := 101) [.long z98] dX12_qTold_101 kX12_700 rfl (Nat.le_of_ble_eq_true rfl) (Nat.le_of_ble_eq_true rfl) h (fun z101 m101 hG h => ?_)
          refine mm_kVV (pc := 104) [.long z101] dX12_qTold_104 kX12_425 rfl sh_164 (Nat.le_of_ble_eq_true rfl) (Nat.le_of_ble_eq_true rfl) h (fun m104 hG h => ?_)
          refine mm_goto (pc := 107) (tgt := 162) dX12_qTold_107 (by decide) ?_
          refine mm_iinc (pc := 162) (j := 3) (v := y2 + 1) (lv' := [(2, .int (y2 + 1)), (3, .int (M.1 239 y2.toNatClampNeg)), (0, .ref 164), (1, .int y1)]) dX12_qTold_162 rfl rfl (by decide) rfl ?_
          refine mm_goto (pc := 165) (tgt := 7) dX12_qTold_165 (by decide) ?_
          exact mm_sub [2, 3, 0] rfl h
      · have h := mm_iff hc h
        refine mm_aload_n (pc := 48) (j := 1) dX12_qTold_48 rfl rfl ?_
        refine mm_getR (pc := 49) (ci := 12) (N := 116) (r := 241) dX12_qTold_49 fX12_249 sh_164 rfl (g_164_110 hG) ?_
        refine mm_aload_n (pc := 52) (j := 1) dX12_qTold_52 rfl rfl ?_
        refine mm_getI (pc := 53) (ci := 12) (N := 116) dX12_qTold_53 fX12_422 sh_164 rfl ?_
        refine mm_iconst (pc := 56) (x := 1) dX12_qTold_56 rfl ?_
        refine mm_isub (pc := 57) dX12_qTold_57 ?_
        refine mm_aload_n (pc := 58) (j := 1) dX12_qTold_58 rfl rfl ?_
        refine mm_iload_n (pc := 59) (j := 0) dX12_qTold_59 rfl rfl ?_
        refine mm_bipush (pc := 60) (x := 60) dX12_qTold_60 rfl ?_
        refine mm_isub (pc := 62) dX12_qTold_62 ?_
        refine mm_aload_n (pc := 63) (j := 1) dX12_qTold_63 rfl rfl ?_
        refine mm_getR (pc := 64) (ci := 12) (N := 116) (r := 241) dX12_qTold_64 fX12_249 sh_164 rfl (g_164_110 hG) ?_
        refine mm_aload_n (pc := 67) (j := 1) dX12_qTold_67 rfl rfl ?_
        refine mm_getI (pc := 68) (ci := 12) (N := 116) dX12_qTold_68 fX12_422 sh_164 rfl ?_
        refine mm_iconst (pc := 71) (x := 1) dX12_qTold_71 rfl ?_
        refine mm_isub (pc := 72) dX12_qTold_72 ?_
        obtain ⟨hi73, h⟩ := h
        refine mm_laload (pc := 73) (N := 1700) dX12_qTold_73 sh_241 hi73 ?_
        refine mm_iload_n (pc := 74) (j := 2) dX12_qTold_74 rfl rfl ?_
        refine mm_kVL (pc := 75) [.int ((M.1 239 y2.toNatClampNeg) - 60), .long (M.2.1 241 ((M.1 164 111) - 1).toNatClampNeg), .int y1] dX12_qTold_75 kX12_708 rfl sh_164 (Nat.le_of_ble_eq_true rfl) (Nat.le_of_ble_eq_true rfl) h (fun z75 m75 hG h => ?_)
        refine mm_kSL (pc := 78) [.long z75] dX12_qTold_78 kX12_700 rfl (Nat.le_of_ble_eq_true rfl) (Nat.le_of_ble_eq_true rfl) h (fun z78 m78 hG h => ?_)
        obtain ⟨hi81, h⟩ := h
        refine mm_lastore (pc := 81) (N := 1700) dX12_qTold_81 sh_241 hi81 ?_
        refine mm_goto (pc := 82) (tgt := 162) dX12_qTold_82 (by decide) ?_
        refine mm_iinc (pc := 162) (j := 3) (v := y2 + 1) (lv' := [(2, .int (y2 + 1)), (3, .int (M.1 239 y2.toNatClampNeg)), (0, .ref 164), (1, .int y1)]) dX12_qTold_162 rfl rfl (by decide) rfl ?_
        refine mm_goto (pc := 165) (tgt := 7) dX12_qTold_165 (by decide) ?_
        exact mm_sub [2, 3, 0] rfl h
    · have h := mm_iff hc h
      refine mm_aload_n (pc := 29) (j := 1) dX12_qTold_29 rfl rfl ?_
      refine mm_iload_n (pc := 30) (j := 0) dX12_qTold_30 rfl rfl ?_
      refine mm_sipush (pc := 31) (x := 1000) dX12_qTold_31 rfl ?_
      refine mm_isub (pc := 34) dX12_qTold_34 ?_
      refine mm_i2l (pc := 35) dX12_qTold_35 ?_
      refine mm_kVV (pc := 36) [.long (((M.1 239 y2.toNatClampNeg) - 1000).toInt64)] dX12_qTold_36 kX12_425 rfl sh_164 (Nat.le_of_ble_eq_true rfl) (Nat.le_of_ble_eq_true rfl) h (fun m36 hG h => ?_)
      refine mm_goto (pc := 39) (tgt := 162) dX12_qTold_39 (by decide) ?_
      refine mm_iinc (pc := 162) (j := 3) (v := y2 + 1) (lv' := [(2, .int (y2 + 1)), (3, .int (M.1 239 y2.toNatClampNeg)), (0, .ref 164), (1, .int y1)]) dX12_qTold_162 rfl rfl (by decide) rfl ?_
      refine mm_goto (pc := 165) (tgt := 7) dX12_qTold_165 (by decide) ?_
      exact mm_sub [2, 3, 0] rfl h
set_option maxRecDepth 100000 in
set_option maxHeartbeats 4000000 in
theorem rX12_qKind {d : Nat} {M : mm_M} {K : Int32 → mm_M → Prop} (hG : mm_G M.2.2) (h : mm_CI mX12_takes d [.ref 164, .ref 217] M (fun z5 m5 => if z5 = 0 then (mm_CI mX12_takes d [.ref 164, .ref 218] m5 (fun z20 m20 => if z20 = 0 then (mm_CI mX12_takes d [.ref 164, .ref 219] m20 (fun z35 m35 => if z35 = 0 then (mm_CI mX12_takes d [.ref 164, .ref 220] m35 (fun z50 m50 => if z50 = 0 then (mm_CI mX12_takes d [.ref 164, .ref 221] m50 (fun z65 m65 => if z65 = 0 then (mm_CV mX12_asks d [.ref 164, .ref 222] m65 (fun m87 => K 5 m87)) else (K 4 m65))) else (K 3 m50))) else (K 2 m35))) else (K 1 m20))) else (K 0 m5))) : mm_CI mX12_qKind (d + 1) [.ref 164] M K := by
  show mm_W mX12_qKind (d + 1) 0 0 0 [(0, .ref 164)] [] mm_SH M 0 0 (mm_PI K)
  refine mm_aload_n (pc := 0) (j := 0) dX12_qKind_0 rfl rfl ?_
  refine mm_aload_n (pc := 1) (j := 0) dX12_qKind_1 rfl rfl ?_
  refine mm_getR (pc := 2) (ci := 12) (N := 116) (r := 217) dX12_qKind_2 fX12_177 sh_164 rfl (g_164_82 hG) ?_
  refine mm_kVI (pc := 5) [.ref 217] dX12_qKind_5 kX12_287 rfl sh_164 (Nat.le_of_ble_eq_true rfl) (Nat.le_of_ble_eq_true rfl) h (fun z5 m5 hG h => ?_)
  refine mm_if_eq (pc := 8) (tgt := 15) dX12_qKind_8 (by decide) (fun hc => ?_) (fun hc => ?_)
  · have h := mm_ift hc h
    refine mm_aload_n (pc := 15) (j := 0) dX12_qKind_15 rfl rfl ?_
    refine mm_aload_n (pc := 16) (j := 0) dX12_qKind_16 rfl rfl ?_
    refine mm_getR (pc := 17) (ci := 12) (N := 116) (r := 218) dX12_qKind_17 fX12_180 sh_164 rfl (g_164_83 hG) ?_
    refine mm_kVI (pc := 20) [.ref 218] dX12_qKind_20 kX12_287 rfl sh_164 (Nat.le_of_ble_eq_true rfl) (Nat.le_of_ble_eq_true rfl) h (fun z20 m20 hG h => ?_)
    refine mm_if_eq (pc := 23) (tgt := 30) dX12_qKind_23 (by decide) (fun hc => ?_) (fun hc => ?_)
    · have h := mm_ift hc h
      refine mm_aload_n (pc := 30) (j := 0) dX12_qKind_30 rfl rfl ?_
      refine mm_aload_n (pc := 31) (j := 0) dX12_qKind_31 rfl rfl ?_
      refine mm_getR (pc := 32) (ci := 12) (N := 116) (r := 219) dX12_qKind_32 fX12_183 sh_164 rfl (g_164_84 hG) ?_
      refine mm_kVI (pc := 35) [.ref 219] dX12_qKind_35 kX12_287 rfl sh_164 (Nat.le_of_ble_eq_true rfl) (Nat.le_of_ble_eq_true rfl) h (fun z35 m35 hG h => ?_)
      refine mm_if_eq (pc := 38) (tgt := 45) dX12_qKind_38 (by decide) (fun hc => ?_) (fun hc => ?_)
      · have h := mm_ift hc h
        refine mm_aload_n (pc := 45) (j := 0) dX12_qKind_45 rfl rfl ?_
        refine mm_aload_n (pc := 46) (j := 0) dX12_qKind_46 rfl rfl ?_
        refine mm_getR (pc := 47) (ci := 12) (N := 116) (r := 220) dX12_qKind_47 fX12_186 sh_164 rfl (g_164_85 hG) ?_
        refine mm_kVI (pc := 50) [.ref 220] dX12_qKind_50 kX12_287 rfl sh_164 (Nat.le_of_ble_eq_true rfl) (Nat.le_of_ble_eq_true rfl) h (fun z50 m50 hG h => ?_)
        refine mm_if_eq (pc := 53) (tgt := 60) dX12_qKind_53 (by decide) (fun hc => ?_) (fun hc => ?_)
        · have h := mm_ift hc h
          refine mm_aload_n (pc := 60) (j := 0) dX12_qKind_60 rfl rfl ?_
          refine mm_aload_n (pc := 61) (j := 0) dX12_qKind_61 rfl rfl ?_
          refine mm_getR (pc := 62) (ci := 12) (N := 116) (r := 221) dX12_qKind_62 fX12_189 sh_164 rfl (g_164_86 hG) ?_
          refine mm_kVI (pc := 65) [.ref 221] dX12_qKind_65 kX12_287 rfl sh_164 (Nat.le_of_ble_eq_true rfl) (Nat.le_of_ble_eq_true rfl) h (fun z65 m65 hG h => ?_)
          refine mm_if_eq (pc := 68) (tgt := 75) dX12_qKind_68 (by decide) (fun hc => ?_) (fun hc => ?_)
          · have h := mm_ift hc h
            refine mm_iconst (pc := 75) (x := 5) dX12_qKind_75 rfl ?_
            refine mm_istore_n (pc := 76) (lv' := [(1, .int 5), (0, .ref 164)]) dX12_qKind_76 rfl (by decide) rfl ?_
            refine mm_iload_n (pc := 77) (j := 0) dX12_qKind_77 rfl rfl ?_
            refine mm_iconst (pc := 78) (x := 5) dX12_qKind_78 rfl ?_
            refine mm_icmp_ne (pc := 79) (tgt := 90) dX12_qKind_79 (by decide) (fun hc => ?_) (fun hc => ?_)
            · exact absurd hc (by decide)
            · refine mm_aload_n (pc := 82) (j := 1) dX12_qKind_82 rfl rfl ?_
              refine mm_aload_n (pc := 83) (j := 1) dX12_qKind_83 rfl rfl ?_
              refine mm_getR (pc := 84) (ci := 12) (N := 116) (r := 222) dX12_qKind_84 fX12_192 sh_164 rfl (g_164_87 hG) ?_
              refine mm_kVV (pc := 87) [.ref 222] dX12_qKind_87 kX12_325 rfl sh_164 (Nat.le_of_ble_eq_true rfl) (Nat.le_of_ble_eq_true rfl) h (fun m87 hG h => ?_)
              refine mm_iload_n (pc := 90) (j := 0) dX12_qKind_90 rfl rfl ?_
              exact mm_iret (pc := 91) dX12_qKind_91 rfl (Nat.le_refl 0) (Nat.le_refl 0) ⟨_, rfl, rfl, hG, h⟩
          · have h := mm_iff hc h
            refine mm_iconst (pc := 71) (x := 4) dX12_qKind_71 rfl ?_
            refine mm_goto (pc := 72) (tgt := 76) dX12_qKind_72 (by decide) ?_
            refine mm_istore_n (pc := 76) (lv' := [(1, .int 4), (0, .ref 164)]) dX12_qKind_76 rfl (by decide) rfl ?_
            refine mm_iload_n (pc := 77) (j := 0) dX12_qKind_77 rfl rfl ?_
            refine mm_iconst (pc := 78) (x := 5) dX12_qKind_78 rfl ?_
            refine mm_icmp_ne (pc := 79) (tgt := 90) dX12_qKind_79 (by decide) (fun hc => ?_) (fun hc => ?_)
            · refine mm_iload_n (pc := 90) (j := 0) dX12_qKind_90 rfl rfl ?_
              exact mm_iret (pc := 91) dX12_qKind_91 rfl (Nat.le_refl 0) (Nat.le_refl 0) ⟨_, rfl, rfl, hG, h⟩
            · exact absurd hc (by decide)
        · have h := mm_iff hc h
          refine mm_iconst (pc := 56) (x := 3) dX12_qKind_56 rfl ?_
          refine mm_goto (pc := 57) (tgt := 76) dX12_qKind_57 (by decide) ?_
          refine mm_istore_n (pc := 76) (lv' := [(1, .int 3), (0, .ref 164)]) dX12_qKind_76 rfl (by decide) rfl ?_
          refine mm_iload_n (pc := 77) (j := 0) dX12_qKind_77 rfl rfl ?_
          refine mm_iconst (pc := 78) (x := 5) dX12_qKind_78 rfl ?_
          refine mm_icmp_ne (pc := 79) (tgt := 90) dX12_qKind_79 (by decide) (fun hc => ?_) (fun hc => ?_)
          · refine mm_iload_n (pc := 90) (j := 0) dX12_qKind_90 rfl rfl ?_
            exact mm_iret (pc := 91) dX12_qKind_91 rfl (Nat.le_refl 0) (Nat.le_refl 0) ⟨_, rfl, rfl, hG, h⟩
          · exact absurd hc (by decide)
      · have h := mm_iff hc h
        refine mm_iconst (pc := 41) (x := 2) dX12_qKind_41 rfl ?_
        refine mm_goto (pc := 42) (tgt := 76) dX12_qKind_42 (by decide) ?_
        refine mm_istore_n (pc := 76) (lv' := [(1, .int 2), (0, .ref 164)]) dX12_qKind_76 rfl (by decide) rfl ?_
        refine mm_iload_n (pc := 77) (j := 0) dX12_qKind_77 rfl rfl ?_
        refine mm_iconst (pc := 78) (x := 5) dX12_qKind_78 rfl ?_
        refine mm_icmp_ne (pc := 79) (tgt := 90) dX12_qKind_79 (by decide) (fun hc => ?_) (fun hc => ?_)
        · refine mm_iload_n (pc := 90) (j := 0) dX12_qKind_90 rfl rfl ?_
          exact mm_iret (pc := 91) dX12_qKind_91 rfl (Nat.le_refl 0) (Nat.le_refl 0) ⟨_, rfl, rfl, hG, h⟩
        · exact absurd hc (by decide)
    · have h := mm_iff hc h
      refine mm_iconst (pc := 26) (x := 1) dX12_qKind_26 rfl ?_
      refine mm_goto (pc := 27) (tgt := 76) dX12_qKind_27 (by decide) ?_
      refine mm_istore_n (pc := 76) (lv' := [(1, .int 1), (0, .ref 164)]) dX12_qKind_76 rfl (by decide) rfl ?_
      refine mm_iload_n (pc := 77) (j := 0) dX12_qKind_77 rfl rfl ?_
      refine mm_iconst (pc := 78) (x := 5) dX12_qKind_78 rfl ?_
      refine mm_icmp_ne (pc := 79) (tgt := 90) dX12_qKind_79 (by decide) (fun hc => ?_) (fun hc => ?_)
      · refine mm_iload_n (pc := 90) (j := 0) dX12_qKind_90 rfl rfl ?_
        exact mm_iret (pc := 91) dX12_qKind_91 rfl (Nat.le_refl 0) (Nat.le_refl 0) ⟨_, rfl, rfl, hG, h⟩
      · exact absurd hc (by decide)
  · have h := mm_iff hc h
    refine mm_iconst (pc := 11) (x := 0) dX12_qKind_11 rfl ?_
    refine mm_goto (pc := 12) (tgt := 76) dX12_qKind_12 (by decide) ?_
    refine mm_istore_n (pc := 76) (lv' := [(1, .int 0), (0, .ref 164)]) dX12_qKind_76 rfl (by decide) rfl ?_
    refine mm_iload_n (pc := 77) (j := 0) dX12_qKind_77 rfl rfl ?_
    refine mm_iconst (pc := 78) (x := 5) dX12_qKind_78 rfl ?_
    refine mm_icmp_ne (pc := 79) (tgt := 90) dX12_qKind_79 (by decide) (fun hc => ?_) (fun hc => ?_)
    · refine mm_iload_n (pc := 90) (j := 0) dX12_qKind_90 rfl rfl ?_
      exact mm_iret (pc := 91) dX12_qKind_91 rfl (Nat.le_refl 0) (Nat.le_refl 0) ⟨_, rfl, rfl, hG, h⟩
    · exact absurd hc (by decide)
def jX12_qTakes_16 (d : Nat) (x1 : Int32) (x2 : Int64) (x4 : Int32) (M : mm_M) (K : mm_M → Prop) (y1 : Int32) (y2 : Int64) (y4 : Int32) (u0 : Int32) : Prop := mm_W mX12_qTakes d 0 0 16 [(0, .ref 164), (1, .int y1), (2, .long y2), (4, .int y4)] [.int u0] mm_SH M 0 0 (mm_PV K)
def jX12_qTakes_55 (d : Nat) (x1 : Int32) (x2 : Int64) (x4 : Int32) (M : mm_M) (K : mm_M → Prop) (y1 : Int32) (y2 : Int64) (y5 : Int32) : Prop := mm_W mX12_qTakes d 0 0 55 [(0, .ref 164), (1, .int y1), (2, .long y2), (5, .int y5)] [] mm_SH M 0 0 (mm_PV K)
def jX12_qTakes_90 (d : Nat) (x1 : Int32) (x2 : Int64) (x4 : Int32) (M : mm_M) (K : mm_M → Prop) (y1 : Int32) (y2 : Int64) : Prop := mm_W mX12_qTakes d 0 0 90 [(0, .ref 164), (1, .int y1), (2, .long y2)] [] mm_SH M 0 0 (mm_PV K)
set_option maxRecDepth 100000 in
set_option maxHeartbeats 4000000 in
theorem rX12_qTakes {d : Nat} {x1 : Int32} {x2 : Int64} {x4 : Int32} {M : mm_M} {K : mm_M → Prop} (hG : mm_G M.2.2) (h : if 3 ≤ x1 then (jX12_qTakes_16 d x1 x2 x4 M K x1 x2 x4 0) else (if x2 = 1 then (jX12_qTakes_16 d x1 x2 x4 M K x1 x2 x4 1) else (jX12_qTakes_16 d x1 x2 x4 M K x1 x2 x4 0))) : mm_CV mX12_qTakes d [.ref 164, .int x1, .long x2, .int x4] M K := by
  show mm_W mX12_qTakes d 0 0 0 [(0, .ref 164), (1, .int x1), (2, .long x2), (4, .int x4)] [] mm_SH M 0 0 (mm_PV K)
  refine mm_iload_n (pc := 0) (j := 1) dX12_qTakes_0 rfl rfl ?_
  refine mm_iconst (pc := 1) (x := 3) dX12_qTakes_1 rfl ?_
  refine mm_icmp_ge (pc := 2) (tgt := 15) dX12_qTakes_2 (by decide) (fun hc => ?_) (fun hc => ?_)
  · have h := mm_ift hc h
    refine mm_iconst (pc := 15) (x := 0) dX12_qTakes_15 rfl ?_
    exact h
  · have h := mm_iff hc h
    refine mm_lload_n (pc := 5) (j := 2) dX12_qTakes_5 rfl rfl ?_
    refine mm_lconst (pc := 6) (x := 1) dX12_qTakes_6 rfl ?_
    refine mm_lcmp (pc := 7) dX12_qTakes_7 ?_
    refine mm_if_ne (pc := 8) (tgt := 15) dX12_qTakes_8 (by decide) (fun hc => ?_) (fun hc => ?_)
    · have h := mm_iff (fun q => hc (lgc_eq.mpr q)) h
      refine mm_iconst (pc := 15) (x := 0) dX12_qTakes_15 rfl ?_
      exact h
    · have h := mm_ift (lgc_eq.mp hc) h
      refine mm_iconst (pc := 11) (x := 1) dX12_qTakes_11 rfl ?_
      refine mm_goto (pc := 12) (tgt := 16) dX12_qTakes_12 (by decide) ?_
      exact h
set_option maxRecDepth 100000 in
set_option maxHeartbeats 4000000 in
theorem lX12_qTakes_16 {d : Nat} {x1 : Int32} {x2 : Int64} {x4 : Int32} {M : mm_M} {K : mm_M → Prop} {y1 : Int32} {y2 : Int64} {y4 : Int32} {u0 : Int32} (hG : mm_G M.2.2) (h : if y1 = 0 then (if u0 = 0 then (if y1 = 1 then (if u0 = 0 then (jX12_qTakes_55 d x1 x2 x4 M K y1 y2 u0) else (jX12_qTakes_55 d x1 x2 x4 (mm_uL M 164 112 y4.toInt64) K y1 y2 u0)) else (jX12_qTakes_55 d x1 x2 x4 M K y1 y2 u0)) else (if (M.2.1 164 112) = (-1) then (jX12_qTakes_55 d x1 x2 x4 (mm_uL M 164 112 y4.toInt64) K y1 y2 u0) else (if y1 = 1 then (if u0 = 0 then (jX12_qTakes_55 d x1 x2 x4 M K y1 y2 u0) else (jX12_qTakes_55 d x1 x2 x4 (mm_uL M 164 112 y4.toInt64) K y1 y2 u0)) else (jX12_qTakes_55 d x1 x2 x4 M K y1 y2 u0)))) else (if y1 = 1 then (if u0 = 0 then (jX12_qTakes_55 d x1 x2 x4 M K y1 y2 u0) else (jX12_qTakes_55 d x1 x2 x4 (mm_uL M 164 112 y4.toInt64) K y1 y2 u0)) else (jX12_qTakes_55 d x1 x2 x4 M K y1 y2 u0))) : jX12_qTakes_16 d x1 x2 x4 M K y1 y2 y4 u0 := by
  unfold jX12_qTakes_16
  refine mm_istore (pc := 16) (lv' := [(5, .int u0), (0, .ref 164), (1, .int y1), (2, .long y2), (4, .int y4)]) dX12_qTakes_16 (by decide) rfl ?_
  refine mm_iload_n (pc := 18) (j := 2) dX12_qTakes_18 rfl rfl ?_
  refine mm_if_ne (pc := 19) (tgt := 38) dX12_qTakes_19 (by decide) (fun hc => ?_) (fun hc => ?_)
  · have h := mm_iff hc h
    refine mm_iload_n (pc := 38) (j := 2) dX12_qTakes_38 rfl rfl ?_
    refine mm_iconst (pc := 39) (x := 1) dX12_qTakes_39 rfl ?_
    refine mm_icmp_ne (pc := 40) (tgt := 55) dX12_qTakes_40 (by decide) (fun hc => ?_) (fun hc => ?_)
    · have h := mm_iff hc h
      exact mm_sub [1, 2, 3, 0] rfl h
    · have h := mm_ift hc h
      refine mm_iload (pc := 43) (j := 0) dX12_qTakes_43 rfl ?_
      refine mm_if_eq (pc := 45) (tgt := 55) dX12_qTakes_45 (by decide) (fun hc => ?_) (fun hc => ?_)
      · have h := mm_ift hc h
        exact mm_sub [1, 2, 3, 0] rfl h
      · have h := mm_iff hc h
        refine mm_aload_n (pc := 48) (j := 1) dX12_qTakes_48 rfl rfl ?_
        refine mm_iload (pc := 49) (j := 4) dX12_qTakes_49 rfl ?_
        refine mm_i2l (pc := 51) dX12_qTakes_51 ?_
        refine mm_putL (pc := 52) (ci := 12) (N := 116) dX12_qTakes_52 fX12_712 sh_164 (by decide +kernel) rfl ?_
        exact mm_sub [1, 2, 3, 0] rfl h
  · have h := mm_ift hc h
    refine mm_iload (pc := 22) (j := 0) dX12_qTakes_22 rfl ?_
    refine mm_if_eq (pc := 24) (tgt := 38) dX12_qTakes_24 (by decide) (fun hc => ?_) (fun hc => ?_)
    · have h := mm_ift hc h
      refine mm_iload_n (pc := 38) (j := 2) dX12_qTakes_38 rfl rfl ?_
      refine mm_iconst (pc := 39) (x := 1) dX12_qTakes_39 rfl ?_
      refine mm_icmp_ne (pc := 40) (tgt := 55) dX12_qTakes_40 (by decide) (fun hc => ?_) (fun hc => ?_)
      · have h := mm_iff hc h
        exact mm_sub [1, 2, 3, 0] rfl h
      · have h := mm_ift hc h
        refine mm_iload (pc := 43) (j := 0) dX12_qTakes_43 rfl ?_
        refine mm_if_eq (pc := 45) (tgt := 55) dX12_qTakes_45 (by decide) (fun hc => ?_) (fun hc => ?_)
        · have h := mm_ift hc h
          exact mm_sub [1, 2, 3, 0] rfl h
        · have h := mm_iff hc h
          refine mm_aload_n (pc := 48) (j := 1) dX12_qTakes_48 rfl rfl ?_
          refine mm_iload (pc := 49) (j := 4) dX12_qTakes_49 rfl ?_
          refine mm_i2l (pc := 51) dX12_qTakes_51 ?_
          refine mm_putL (pc := 52) (ci := 12) (N := 116) dX12_qTakes_52 fX12_712 sh_164 (by decide +kernel) rfl ?_
          exact mm_sub [1, 2, 3, 0] rfl h
    · have h := mm_iff hc h
      refine mm_aload_n (pc := 27) (j := 1) dX12_qTakes_27 rfl rfl ?_
      refine mm_getL (pc := 28) (ci := 12) (N := 116) dX12_qTakes_28 fX12_712 sh_164 rfl ?_
      refine mm_ldc2 (pc := 31) (x := (-1)) dX12_qTakes_31 cX12_587 ?_
      refine mm_lcmp (pc := 34) dX12_qTakes_34 ?_
      refine mm_if_eq (pc := 35) (tgt := 48) dX12_qTakes_35 (by decide) (fun hc => ?_) (fun hc => ?_)
      · have h := mm_ift (lgc_eq.mp hc) h
        refine mm_aload_n (pc := 48) (j := 1) dX12_qTakes_48 rfl rfl ?_
        refine mm_iload (pc := 49) (j := 4) dX12_qTakes_49 rfl ?_
        refine mm_i2l (pc := 51) dX12_qTakes_51 ?_
        refine mm_putL (pc := 52) (ci := 12) (N := 116) dX12_qTakes_52 fX12_712 sh_164 (by decide +kernel) rfl ?_
        exact mm_sub [1, 2, 3, 0] rfl h
      · have h := mm_iff (fun q => hc (lgc_eq.mpr q)) h
        refine mm_iload_n (pc := 38) (j := 2) dX12_qTakes_38 rfl rfl ?_
        refine mm_iconst (pc := 39) (x := 1) dX12_qTakes_39 rfl ?_
        refine mm_icmp_ne (pc := 40) (tgt := 55) dX12_qTakes_40 (by decide) (fun hc => ?_) (fun hc => ?_)
        · have h := mm_iff hc h
          exact mm_sub [1, 2, 3, 0] rfl h
        · have h := mm_ift hc h
          refine mm_iload (pc := 43) (j := 0) dX12_qTakes_43 rfl ?_
          refine mm_if_eq (pc := 45) (tgt := 55) dX12_qTakes_45 (by decide) (fun hc => ?_) (fun hc => ?_)
          · have h := mm_ift hc h
            exact mm_sub [1, 2, 3, 0] rfl h
          · have h := mm_iff hc h
            refine mm_aload_n (pc := 48) (j := 1) dX12_qTakes_48 rfl rfl ?_
            refine mm_iload (pc := 49) (j := 4) dX12_qTakes_49 rfl ?_
            refine mm_i2l (pc := 51) dX12_qTakes_51 ?_
            refine mm_putL (pc := 52) (ci := 12) (N := 116) dX12_qTakes_52 fX12_712 sh_164 (by decide +kernel) rfl ?_
            exact mm_sub [1, 2, 3, 0] rfl h
set_option maxRecDepth 100000 in
set_option maxHeartbeats 4000000 in
theorem lX12_qTakes_55 {d : Nat} {x1 : Int32} {x2 : Int64} {x4 : Int32} {M : mm_M} {K : mm_M → Prop} {y1 : Int32} {y2 : Int64} {y5 : Int32} (hG : mm_G M.2.2) (h : if y1 = 2 then (if y5 = 0 then (if y1 = 3 then (jX12_qTakes_90 d x1 x2 x4 (mm_uL M 164 112 ((M.2.1 164 112) + y2)) K y1 y2) else (jX12_qTakes_90 d x1 x2 x4 M K y1 y2)) else (if y1 = 3 then (jX12_qTakes_90 d x1 x2 x4 (mm_uL (mm_uL M 164 112 ((M.2.1 164 112) + 1)) 164 112 (((mm_uL M 164 112 ((M.2.1 164 112) + 1)).2.1 164 112) + y2)) K y1 y2) else (jX12_qTakes_90 d x1 x2 x4 (mm_uL M 164 112 ((M.2.1 164 112) + 1)) K y1 y2))) else (if y1 = 3 then (jX12_qTakes_90 d x1 x2 x4 (mm_uL M 164 112 ((M.2.1 164 112) + y2)) K y1 y2) else (jX12_qTakes_90 d x1 x2 x4 M K y1 y2))) : jX12_qTakes_55 d x1 x2 x4 M K y1 y2 y5 := by
  unfold jX12_qTakes_55
  refine mm_iload_n (pc := 55) (j := 1) dX12_qTakes_55 rfl rfl ?_
  refine mm_iconst (pc := 56) (x := 2) dX12_qTakes_56 rfl ?_
  refine mm_icmp_ne (pc := 57) (tgt := 75) dX12_qTakes_57 (by decide) (fun hc => ?_) (fun hc => ?_)
  · have h := mm_iff hc h
    refine mm_iload_n (pc := 75) (j := 1) dX12_qTakes_75 rfl rfl ?_
    refine mm_iconst (pc := 76) (x := 3) dX12_qTakes_76 rfl ?_
    refine mm_icmp_ne (pc := 77) (tgt := 90) dX12_qTakes_77 (by decide) (fun hc => ?_) (fun hc => ?_)
    · have h := mm_iff hc h
      exact mm_sub [0, 1, 2] rfl h
    · have h := mm_ift hc h
      refine mm_aload_n (pc := 80) (j := 0) dX12_qTakes_80 rfl rfl ?_
      refine mm_dup (pc := 81) dX12_qTakes_81 rfl ?_
      refine mm_getL (pc := 82) (ci := 12) (N := 116) dX12_qTakes_82 fX12_712 sh_164 rfl ?_
      refine mm_lload_n (pc := 85) (j := 2) dX12_qTakes_85 rfl rfl ?_
      refine mm_ladd (pc := 86) dX12_qTakes_86 ?_
      refine mm_putL (pc := 87) (ci := 12) (N := 116) dX12_qTakes_87 fX12_712 sh_164 (by decide +kernel) rfl ?_
      exact mm_sub [0, 1, 2] rfl h
  · have h := mm_ift hc h
    refine mm_iload (pc := 60) (j := 3) dX12_qTakes_60 rfl ?_
    refine mm_if_eq (pc := 62) (tgt := 75) dX12_qTakes_62 (by decide) (fun hc => ?_) (fun hc => ?_)
    · have h := mm_ift hc h
      refine mm_iload_n (pc := 75) (j := 1) dX12_qTakes_75 rfl rfl ?_
      refine mm_iconst (pc := 76) (x := 3) dX12_qTakes_76 rfl ?_
      refine mm_icmp_ne (pc := 77) (tgt := 90) dX12_qTakes_77 (by decide) (fun hc => ?_) (fun hc => ?_)
      · have h := mm_iff hc h
        exact mm_sub [0, 1, 2] rfl h
      · have h := mm_ift hc h
        refine mm_aload_n (pc := 80) (j := 0) dX12_qTakes_80 rfl rfl ?_
        refine mm_dup (pc := 81) dX12_qTakes_81 rfl ?_
        refine mm_getL (pc := 82) (ci := 12) (N := 116) dX12_qTakes_82 fX12_712 sh_164 rfl ?_
        refine mm_lload_n (pc := 85) (j := 2) dX12_qTakes_85 rfl rfl ?_
        refine mm_ladd (pc := 86) dX12_qTakes_86 ?_
        refine mm_putL (pc := 87) (ci := 12) (N := 116) dX12_qTakes_87 fX12_712 sh_164 (by decide +kernel) rfl ?_
        exact mm_sub [0, 1, 2] rfl h
    · have h := mm_iff hc h
      refine mm_aload_n (pc := 65) (j := 0) dX12_qTakes_65 rfl rfl ?_
      refine mm_dup (pc := 66) dX12_qTakes_66 rfl ?_
      refine mm_getL (pc := 67) (ci := 12) (N := 116) dX12_qTakes_67 fX12_712 sh_164 rfl ?_
      refine mm_lconst (pc := 70) (x := 1) dX12_qTakes_70 rfl ?_
      refine mm_ladd (pc := 71) dX12_qTakes_71 ?_
      refine mm_putL (pc := 72) (ci := 12) (N := 116) dX12_qTakes_72 fX12_712 sh_164 (by decide +kernel) rfl ?_
      refine mm_iload_n (pc := 75) (j := 1) dX12_qTakes_75 rfl rfl ?_
      refine mm_iconst (pc := 76) (x := 3) dX12_qTakes_76 rfl ?_
      refine mm_icmp_ne (pc := 77) (tgt := 90) dX12_qTakes_77 (by decide) (fun hc => ?_) (fun hc => ?_)
      · have h := mm_iff hc h
        exact mm_sub [0, 1, 2] rfl h
      · have h := mm_ift hc h
        refine mm_aload_n (pc := 80) (j := 0) dX12_qTakes_80 rfl rfl ?_
        refine mm_dup (pc := 81) dX12_qTakes_81 rfl ?_
        refine mm_getL (pc := 82) (ci := 12) (N := 116) dX12_qTakes_82 fX12_712 sh_164 rfl ?_
        refine mm_lload_n (pc := 85) (j := 2) dX12_qTakes_85 rfl rfl ?_
        refine mm_ladd (pc := 86) dX12_qTakes_86 ?_
        refine mm_putL (pc := 87) (ci := 12) (N := 116) dX12_qTakes_87 fX12_712 sh_164 (by decide +kernel) rfl ?_
        exact mm_sub [0, 1, 2] rfl h
set_option maxRecDepth 100000 in
set_option maxHeartbeats 4000000 in
theorem lX12_qTakes_90 {d : Nat} {x1 : Int32} {x2 : Int64} {x4 : Int32} {M : mm_M} {K : mm_M → Prop} {y1 : Int32} {y2 : Int64} (hG : mm_G M.2.2) (h : if y1 ≤ 3 then (K (mm_uI M 164 113 0)) else (if (M.1 164 113) = 0 then (if y1 = 4 then (if y2 ≤ (M.2.1 164 112) then (K (mm_uI M 164 113 0)) else (K (mm_uI (mm_uL M 164 112 y2) 164 113 0))) else (if (M.2.1 164 112) ≤ y2 then (K (mm_uI M 164 113 0)) else (K (mm_uI (mm_uL M 164 112 y2) 164 113 0)))) else (K (mm_uI (mm_uL M 164 112 y2) 164 113 0)))) : jX12_qTakes_90 d x1 x2 x4 M K y1 y2 := by
  unfold jX12_qTakes_90
  refine mm_iload_n (pc := 90) (j := 1) dX12_qTakes_90 rfl rfl ?_
  refine mm_iconst (pc := 91) (x := 3) dX12_qTakes_91 rfl ?_
  refine mm_icmp_le (pc := 92) (tgt := 133) dX12_qTakes_92 (by decide) (fun hc => ?_) (fun hc => ?_)
  · have h := mm_ift hc h
    refine mm_aload_n (pc := 133) (j := 0) dX12_qTakes_133 rfl rfl ?_
    refine mm_iconst (pc := 134) (x := 0) dX12_qTakes_134 rfl ?_
    refine mm_putI (pc := 135) (ci := 12) (N := 116) dX12_qTakes_135 fX12_715 sh_164 (by decide +kernel) rfl rfl rfl ?_
    exact mm_vret (pc := 138) dX12_qTakes_138 rfl (Nat.le_refl 0) (Nat.le_refl 0) ⟨rfl, rfl, hG, h⟩
  · have h := mm_iff hc h
    refine mm_aload_n (pc := 95) (j := 0) dX12_qTakes_95 rfl rfl ?_
    refine mm_getI (pc := 96) (ci := 12) (N := 116) dX12_qTakes_96 fX12_715 sh_164 rfl ?_
    refine mm_if_ne (pc := 99) (tgt := 128) dX12_qTakes_99 (by decide) (fun hc => ?_) (fun hc => ?_)
    · have h := mm_iff hc h
      refine mm_aload_n (pc := 128) (j := 0) dX12_qTakes_128 rfl rfl ?_
      refine mm_lload_n (pc := 129) (j := 2) dX12_qTakes_129 rfl rfl ?_
      refine mm_putL (pc := 130) (ci := 12) (N := 116) dX12_qTakes_130 fX12_712 sh_164 (by decide +kernel) rfl ?_
      refine mm_aload_n (pc := 133) (j := 0) dX12_qTakes_133 rfl rfl ?_
      refine mm_iconst (pc := 134) (x := 0) dX12_qTakes_134 rfl ?_
      refine mm_putI (pc := 135) (ci := 12) (N := 116) dX12_qTakes_135 fX12_715 sh_164 (by decide +kernel) rfl rfl rfl ?_
      exact mm_vret (pc := 138) dX12_qTakes_138 rfl (Nat.le_refl 0) (Nat.le_refl 0) ⟨rfl, rfl, hG, h⟩
    · have h := mm_ift hc h
      refine mm_iload_n (pc := 102) (j := 1) dX12_qTakes_102 rfl rfl ?_
      refine mm_iconst (pc := 103) (x := 4) dX12_qTakes_103 rfl ?_
      refine mm_icmp_ne (pc := 104) (tgt := 119) dX12_qTakes_104 (by decide) (fun hc => ?_) (fun hc => ?_)
      · have h := mm_iff hc h
        refine mm_lload_n (pc := 119) (j := 2) dX12_qTakes_119 rfl rfl ?_
        refine mm_aload_n (pc := 120) (j := 0) dX12_qTakes_120 rfl rfl ?_
        refine mm_getL (pc := 121) (ci := 12) (N := 116) dX12_qTakes_121 fX12_712 sh_164 rfl ?_
        refine mm_lcmp (pc := 124) dX12_qTakes_124 ?_
        refine mm_if_ge (pc := 125) (tgt := 133) dX12_qTakes_125 (by decide) (fun hc => ?_) (fun hc => ?_)
        · have h := mm_ift (lgc_ge.mp hc) h
          refine mm_aload_n (pc := 133) (j := 0) dX12_qTakes_133 rfl rfl ?_
          refine mm_iconst (pc := 134) (x := 0) dX12_qTakes_134 rfl ?_
          refine mm_putI (pc := 135) (ci := 12) (N := 116) dX12_qTakes_135 fX12_715 sh_164 (by decide +kernel) rfl rfl rfl ?_
          exact mm_vret (pc := 138) dX12_qTakes_138 rfl (Nat.le_refl 0) (Nat.le_refl 0) ⟨rfl, rfl, hG, h⟩
        · have h := mm_iff (fun q => hc (lgc_ge.mpr q)) h
          refine mm_aload_n (pc := 128) (j := 0) dX12_qTakes_128 rfl rfl ?_
          refine mm_lload_n (pc := 129) (j := 2) dX12_qTakes_129 rfl rfl ?_
          refine mm_putL (pc := 130) (ci := 12) (N := 116) dX12_qTakes_130 fX12_712 sh_164 (by decide +kernel) rfl ?_
          refine mm_aload_n (pc := 133) (j := 0) dX12_qTakes_133 rfl rfl ?_
          refine mm_iconst (pc := 134) (x := 0) dX12_qTakes_134 rfl ?_
          refine mm_putI (pc := 135) (ci := 12) (N := 116) dX12_qTakes_135 fX12_715 sh_164 (by decide +kernel) rfl rfl rfl ?_
          exact mm_vret (pc := 138) dX12_qTakes_138 rfl (Nat.le_refl 0) (Nat.le_refl 0) ⟨rfl, rfl, hG, h⟩
      · have h := mm_ift hc h
        refine mm_lload_n (pc := 107) (j := 2) dX12_qTakes_107 rfl rfl ?_
        refine mm_aload_n (pc := 108) (j := 0) dX12_qTakes_108 rfl rfl ?_
        refine mm_getL (pc := 109) (ci := 12) (N := 116) dX12_qTakes_109 fX12_712 sh_164 rfl ?_
        refine mm_lcmp (pc := 112) dX12_qTakes_112 ?_
        refine mm_if_le (pc := 113) (tgt := 133) dX12_qTakes_113 (by decide) (fun hc => ?_) (fun hc => ?_)
        · have h := mm_ift (lgc_le.mp hc) h
          refine mm_aload_n (pc := 133) (j := 0) dX12_qTakes_133 rfl rfl ?_
          refine mm_iconst (pc := 134) (x := 0) dX12_qTakes_134 rfl ?_
          refine mm_putI (pc := 135) (ci := 12) (N := 116) dX12_qTakes_135 fX12_715 sh_164 (by decide +kernel) rfl rfl rfl ?_
          exact mm_vret (pc := 138) dX12_qTakes_138 rfl (Nat.le_refl 0) (Nat.le_refl 0) ⟨rfl, rfl, hG, h⟩
        · have h := mm_iff (fun q => hc (lgc_le.mpr q)) h
          refine mm_goto (pc := 116) (tgt := 128) dX12_qTakes_116 (by decide) ?_
          refine mm_aload_n (pc := 128) (j := 0) dX12_qTakes_128 rfl rfl ?_
          refine mm_lload_n (pc := 129) (j := 2) dX12_qTakes_129 rfl rfl ?_
          refine mm_putL (pc := 130) (ci := 12) (N := 116) dX12_qTakes_130 fX12_712 sh_164 (by decide +kernel) rfl ?_
          refine mm_aload_n (pc := 133) (j := 0) dX12_qTakes_133 rfl rfl ?_
          refine mm_iconst (pc := 134) (x := 0) dX12_qTakes_134 rfl ?_
          refine mm_putI (pc := 135) (ci := 12) (N := 116) dX12_qTakes_135 fX12_715 sh_164 (by decide +kernel) rfl rfl rfl ?_
          exact mm_vret (pc := 138) dX12_qTakes_138 rfl (Nat.le_refl 0) (Nat.le_refl 0) ⟨rfl, rfl, hG, h⟩
def jX12_ask_109 (d : Nat) (M : mm_M) (K : Int64 → mm_M → Prop) (y1 : Int32) : Prop := mm_W mX12_ask (d + 1) 0 0 109 [(0, .ref 164), (1, .int y1)] [] mm_SH M 0 0 (mm_PL K)
def jX12_ask_133 (d : Nat) (M : mm_M) (K : Int64 → mm_M → Prop) (y1 : Int32) : Prop := mm_W mX12_ask (d + 1) 0 0 133 [(0, .ref 164), (1, .int y1)] [] mm_SH M 0 0 (mm_PL K)
def jX12_ask_183 (d : Nat) (M : mm_M) (K : Int64 → mm_M → Prop) (y1 : Int32) (y2 : Int32) : Prop := mm_W mX12_ask (d + 1) 0 0 183 [(0, .ref 164), (1, .int y1), (2, .int y2)] [] mm_SH M 0 0 (mm_PL K)
def jX12_ask_253 (d : Nat) (M : mm_M) (K : Int64 → mm_M → Prop) (y1 : Int32) (y2 : Int32) : Prop := mm_W mX12_ask (d + 1) 0 0 253 [(0, .ref 164), (1, .int y1), (2, .int y2)] [] mm_SH M 0 0 (mm_PL K)
def jX12_ask_193 (d : Nat) (M : mm_M) (K : Int64 → mm_M → Prop) (y1 : Int32) (y2 : Int32) (y3 : Int32) : Prop := mm_W mX12_ask (d + 1) 0 0 193 [(0, .ref 164), (1, .int y1), (2, .int y2), (3, .int y3)] [] mm_SH M 0 0 (mm_PL K)
set_option maxRecDepth 100000 in
set_option maxHeartbeats 4000000 in
theorem rX12_ask {d : Nat} {M : mm_M} {K : Int64 → mm_M → Prop} (hG : mm_G M.2.2) (h : if (M.1 164 48) = 0 then (K (-1000000000000000) (mm_uI M 164 1 0)) else (mm_CI mX12_qKind d [.ref 164] (mm_uI (mm_uI (mm_uI (mm_uI (mm_uI (mm_uI (mm_uI (mm_uI (mm_uI (mm_uI (mm_uI M 164 3 (M.1 164 1)) 164 1 0) 164 2 0) 164 4 (-1)) 164 5 0) 164 6 (-1)) 164 49 3) 164 105 0) 164 107 0) 164 108 0) 164 109 0) (fun z75 m75 => if (m75.1 164 5) = 0 then (if 3 ≤ z75 then (if (m75.1 164 5) = 0 then (mm_CV mX12_qSums d [.ref 164] m75 (fun m106 => jX12_ask_109 d m106 K z75)) else (jX12_ask_109 d m75 K z75)) else (mm_CV mX12_qTest d [.ref 164] m75 (fun m92 => jX12_ask_109 d m92 K z75))) else (if (m75.1 164 5) = 0 then (mm_CV mX12_qSums d [.ref 164] m75 (fun m106 => jX12_ask_109 d m106 K z75)) else (jX12_ask_109 d m75 K z75))))) : mm_CL mX12_ask (d + 1) [.ref 164] M K := by
  show mm_W mX12_ask (d + 1) 0 0 0 [(0, .ref 164)] [] mm_SH M 0 0 (mm_PL K)
  refine mm_aload_n (pc := 0) (j := 0) dX12_ask_0 rfl rfl ?_
  refine mm_getI (pc := 1) (ci := 12) (N := 116) dX12_ask_1 fX12_399 sh_164 rfl ?_
  refine mm_if_ne (pc := 4) (tgt := 16) dX12_ask_4 (by decide) (fun hc => ?_) (fun hc => ?_)
  · have h := mm_iff hc h
    refine mm_aload_n (pc := 16) (j := 0) dX12_ask_16 rfl rfl ?_
    refine mm_aload_n (pc := 17) (j := 0) dX12_ask_17 rfl rfl ?_
    refine mm_getI (pc := 18) (ci := 12) (N := 116) dX12_ask_18 fX12_257 sh_164 rfl ?_
    refine mm_putI (pc := 21) (ci := 12) (N := 116) dX12_ask_21 fX12_269 sh_164 (by decide +kernel) rfl rfl rfl ?_
    refine mm_aload_n (pc := 24) (j := 0) dX12_ask_24 rfl rfl ?_
    refine mm_iconst (pc := 25) (x := 0) dX12_ask_25 rfl ?_
    refine mm_putI (pc := 26) (ci := 12) (N := 116) dX12_ask_26 fX12_257 sh_164 (by decide +kernel) rfl rfl rfl ?_
    refine mm_aload_n (pc := 29) (j := 0) dX12_ask_29 rfl rfl ?_
    refine mm_iconst (pc := 30) (x := 0) dX12_ask_30 rfl ?_
    refine mm_putI (pc := 31) (ci := 12) (N := 116) dX12_ask_31 fX12_266 sh_164 (by decide +kernel) rfl rfl rfl ?_
    refine mm_aload_n (pc := 34) (j := 0) dX12_ask_34 rfl rfl ?_
    refine mm_iconst (pc := 35) (x := (-1)) dX12_ask_35 rfl ?_
    refine mm_putI (pc := 36) (ci := 12) (N := 116) dX12_ask_36 fX12_280 sh_164 (by decide +kernel) rfl rfl rfl ?_
    refine mm_aload_n (pc := 39) (j := 0) dX12_ask_39 rfl rfl ?_
    refine mm_iconst (pc := 40) (x := 0) dX12_ask_40 rfl ?_
    refine mm_putI (pc := 41) (ci := 12) (N := 116) dX12_ask_41 fX12_260 sh_164 (by decide +kernel) rfl rfl rfl ?_
    refine mm_aload_n (pc := 44) (j := 0) dX12_ask_44 rfl rfl ?_
    refine mm_iconst (pc := 45) (x := (-1)) dX12_ask_45 rfl ?_
    refine mm_putI (pc := 46) (ci := 12) (N := 116) dX12_ask_46 fX12_263 sh_164 (by decide +kernel) rfl rfl rfl ?_
    refine mm_aload_n (pc := 49) (j := 0) dX12_ask_49 rfl rfl ?_
    refine mm_iconst (pc := 50) (x := 3) dX12_ask_50 rfl ?_
    refine mm_putI (pc := 51) (ci := 12) (N := 116) dX12_ask_51 fX12_318 sh_164 (by decide +kernel) rfl rfl rfl ?_
    refine mm_aload_n (pc := 54) (j := 0) dX12_ask_54 rfl rfl ?_
    refine mm_iconst (pc := 55) (x := 0) dX12_ask_55 rfl ?_
    refine mm_putI (pc := 56) (ci := 12) (N := 116) dX12_ask_56 fX12_354 sh_164 (by decide +kernel) rfl rfl rfl ?_
    refine mm_aload_n (pc := 59) (j := 0) dX12_ask_59 rfl rfl ?_
    refine mm_iconst (pc := 60) (x := 0) dX12_ask_60 rfl ?_
    refine mm_putI (pc := 61) (ci := 12) (N := 116) dX12_ask_61 fX12_357 sh_164 (by decide +kernel) rfl rfl rfl ?_
    refine mm_aload_n (pc := 64) (j := 0) dX12_ask_64 rfl rfl ?_
    refine mm_iconst (pc := 65) (x := 0) dX12_ask_65 rfl ?_
    refine mm_putI (pc := 66) (ci := 12) (N := 116) dX12_ask_66 fX12_360 sh_164 (by decide +kernel) rfl rfl rfl ?_
    refine mm_aload_n (pc := 69) (j := 0) dX12_ask_69 rfl rfl ?_
    refine mm_iconst (pc := 70) (x := 0) dX12_ask_70 rfl ?_
    refine mm_putI (pc := 71) (ci := 12) (N := 116) dX12_ask_71 fX12_363 sh_164 (by decide +kernel) rfl rfl rfl ?_
    refine mm_aload_n (pc := 74) (j := 0) dX12_ask_74 rfl rfl ?_
    refine mm_kVI (pc := 75) [] dX12_ask_75 kX12_720 rfl sh_164 (Nat.le_of_ble_eq_true rfl) (Nat.le_of_ble_eq_true rfl) h (fun z75 m75 hG h => ?_)
    refine mm_istore_n (pc := 78) (lv' := [(1, .int z75), (0, .ref 164)]) dX12_ask_78 rfl (by decide) rfl ?_
    refine mm_aload_n (pc := 79) (j := 1) dX12_ask_79 rfl rfl ?_
    refine mm_getI (pc := 80) (ci := 12) (N := 116) dX12_ask_80 fX12_260 sh_164 rfl ?_
    refine mm_if_ne (pc := 83) (tgt := 98) dX12_ask_83 (by decide) (fun hc => ?_) (fun hc => ?_)
    · have h := mm_iff hc h
      refine mm_aload_n (pc := 98) (j := 1) dX12_ask_98 rfl rfl ?_
      refine mm_getI (pc := 99) (ci := 12) (N := 116) dX12_ask_99 fX12_260 sh_164 rfl ?_
      refine mm_if_ne (pc := 102) (tgt := 109) dX12_ask_102 (by decide) (fun hc => ?_) (fun hc => ?_)
      · have h := mm_iff hc h
        exact mm_sub [1, 0] rfl h
      · have h := mm_ift hc h
        refine mm_aload_n (pc := 105) (j := 1) dX12_ask_105 rfl rfl ?_
        refine mm_kVV (pc := 106) [] dX12_ask_106 kX12_369 rfl sh_164 (Nat.le_of_ble_eq_true rfl) (Nat.le_of_ble_eq_true rfl) h (fun m106 hG h => ?_)
        exact mm_sub [1, 0] rfl h
    · have h := mm_ift hc h
      refine mm_iload_n (pc := 86) (j := 0) dX12_ask_86 rfl rfl ?_
      refine mm_iconst (pc := 87) (x := 3) dX12_ask_87 rfl ?_
      refine mm_icmp_ge (pc := 88) (tgt := 98) dX12_ask_88 (by decide) (fun hc => ?_) (fun hc => ?_)
      · have h := mm_ift hc h
        refine mm_aload_n (pc := 98) (j := 1) dX12_ask_98 rfl rfl ?_
        refine mm_getI (pc := 99) (ci := 12) (N := 116) dX12_ask_99 fX12_260 sh_164 rfl ?_
        refine mm_if_ne (pc := 102) (tgt := 109) dX12_ask_102 (by decide) (fun hc => ?_) (fun hc => ?_)
        · have h := mm_iff hc h
          exact mm_sub [1, 0] rfl h
        · have h := mm_ift hc h
          refine mm_aload_n (pc := 105) (j := 1) dX12_ask_105 rfl rfl ?_
          refine mm_kVV (pc := 106) [] dX12_ask_106 kX12_369 rfl sh_164 (Nat.le_of_ble_eq_true rfl) (Nat.le_of_ble_eq_true rfl) h (fun m106 hG h => ?_)
          exact mm_sub [1, 0] rfl h
      · have h := mm_iff hc h
        refine mm_aload_n (pc := 91) (j := 1) dX12_ask_91 rfl rfl ?_
        refine mm_kVV (pc := 92) [] dX12_ask_92 kX12_366 rfl sh_164 (Nat.le_of_ble_eq_true rfl) (Nat.le_of_ble_eq_true rfl) h (fun m92 hG h => ?_)
        refine mm_goto (pc := 95) (tgt := 109) dX12_ask_95 (by decide) ?_
        exact mm_sub [1, 0] rfl h
  · have h := mm_ift hc h
    refine mm_aload_n (pc := 7) (j := 0) dX12_ask_7 rfl rfl ?_
    refine mm_iconst (pc := 8) (x := 0) dX12_ask_8 rfl ?_
    refine mm_putI (pc := 9) (ci := 12) (N := 116) dX12_ask_9 fX12_257 sh_164 (by decide +kernel) rfl rfl rfl ?_
    refine mm_ldc2 (pc := 12) (x := (-1000000000000000)) dX12_ask_12 cX12_718 ?_
    exact mm_lret (pc := 15) dX12_ask_15 rfl (Nat.le_refl 0) (Nat.le_refl 0) ⟨_, rfl, rfl, hG, h⟩
set_option maxRecDepth 100000 in
set_option maxHeartbeats 4000000 in
theorem lX12_ask_109 {d : Nat} {M : mm_M} {K : Int64 → mm_M → Prop} {y1 : Int32} (hG : mm_G M.2.2) (h : if (M.1 164 5) = 0 then (mm_CI mX12_look d [.ref 164] M (fun z117 m117 => if z117 = (-1) then (jX12_ask_133 d m117 K y1) else (mm_CV mX12_fail d [.ref 164, .int 1, .int (m117.1 164 2)] m117 (fun m130 => jX12_ask_133 d m130 K y1)))) else (jX12_ask_133 d M K y1)) : jX12_ask_109 d  M K y1 := by
  unfold jX12_ask_109
  refine mm_aload_n (pc := 109) (j := 0) dX12_ask_109 rfl rfl ?_
  refine mm_getI (pc := 110) (ci := 12) (N := 116) dX12_ask_110 fX12_260 sh_164 rfl ?_
  refine mm_if_ne (pc := 113) (tgt := 133) dX12_ask_113 (by decide) (fun hc => ?_) (fun hc => ?_)
  · have h := mm_iff hc h
    exact h
  · have h := mm_ift hc h
    refine mm_aload_n (pc := 116) (j := 0) dX12_ask_116 rfl rfl ?_
    refine mm_kVI (pc := 117) [] dX12_ask_117 kX12_272 rfl sh_164 (Nat.le_of_ble_eq_true rfl) (Nat.le_of_ble_eq_true rfl) h (fun z117 m117 hG h => ?_)
    refine mm_iconst (pc := 120) (x := (-1)) dX12_ask_120 rfl ?_
    refine mm_icmp_eq (pc := 121) (tgt := 133) dX12_ask_121 (by decide) (fun hc => ?_) (fun hc => ?_)
    · have h := mm_ift hc h
      exact h
    · have h := mm_iff hc h
      refine mm_aload_n (pc := 124) (j := 0) dX12_ask_124 rfl rfl ?_
      refine mm_iconst (pc := 125) (x := 1) dX12_ask_125 rfl ?_
      refine mm_aload_n (pc := 126) (j := 0) dX12_ask_126 rfl rfl ?_
      refine mm_getI (pc := 127) (ci := 12) (N := 116) dX12_ask_127 fX12_266 sh_164 rfl ?_
      refine mm_kVV (pc := 130) [.int 1, .int (m117.1 164 2)] dX12_ask_130 kX12_290 rfl sh_164 (Nat.le_of_ble_eq_true rfl) (Nat.le_of_ble_eq_true rfl) h (fun m130 hG h => ?_)
      exact h
set_option maxRecDepth 100000 in
set_option maxHeartbeats 4000000 in
theorem lX12_ask_133 {d : Nat} {M : mm_M} {K : Int64 → mm_M → Prop} {y1 : Int32} (hG : mm_G M.2.2) (h : if ((mm_uI (mm_uI M 164 7 (M.1 164 5)) 164 8 ((mm_uI M 164 7 (M.1 164 5)).1 164 6)).1 164 5) = 0 then (if 2 ≤ y1 then (jX12_ask_183 d (mm_uI (mm_uL (mm_uI (mm_uI M 164 7 (M.1 164 5)) 164 8 ((mm_uI M 164 7 (M.1 164 5)).1 164 6)) 164 112 0) 164 113 1) K y1 0) else (jX12_ask_183 d (mm_uI (mm_uL (mm_uI (mm_uI M 164 7 (M.1 164 5)) 164 8 ((mm_uI M 164 7 (M.1 164 5)).1 164 6)) 164 112 (-1)) 164 113 1) K y1 0)) else (K (-1000000000000000) (mm_uI (mm_uI M 164 7 (M.1 164 5)) 164 8 ((mm_uI M 164 7 (M.1 164 5)).1 164 6)))) : jX12_ask_133 d  M K y1 := by
  unfold jX12_ask_133
  refine mm_aload_n (pc := 133) (j := 0) dX12_ask_133 rfl rfl ?_
  refine mm_aload_n (pc := 134) (j := 0) dX12_ask_134 rfl rfl ?_
  refine mm_getI (pc := 135) (ci := 12) (N := 116) dX12_ask_135 fX12_260 sh_164 rfl ?_
  refine mm_putI (pc := 138) (ci := 12) (N := 116) dX12_ask_138 fX12_393 sh_164 (by decide +kernel) rfl rfl rfl ?_
  refine mm_aload_n (pc := 141) (j := 0) dX12_ask_141 rfl rfl ?_
  refine mm_aload_n (pc := 142) (j := 0) dX12_ask_142 rfl rfl ?_
  refine mm_getI (pc := 143) (ci := 12) (N := 116) dX12_ask_143 fX12_263 sh_164 rfl ?_
  refine mm_putI (pc := 146) (ci := 12) (N := 116) dX12_ask_146 fX12_13 sh_164 (by decide +kernel) rfl rfl rfl ?_
  refine mm_aload_n (pc := 149) (j := 0) dX12_ask_149 rfl rfl ?_
  refine mm_getI (pc := 150) (ci := 12) (N := 116) dX12_ask_150 fX12_260 sh_164 rfl ?_
  refine mm_if_eq (pc := 153) (tgt := 160) dX12_ask_153 (by decide) (fun hc => ?_) (fun hc => ?_)
  · have h := mm_ift hc h
    refine mm_aload_n (pc := 160) (j := 0) dX12_ask_160 rfl rfl ?_
    refine mm_iload_n (pc := 161) (j := 1) dX12_ask_161 rfl rfl ?_
    refine mm_iconst (pc := 162) (x := 2) dX12_ask_162 rfl ?_
    refine mm_icmp_ge (pc := 163) (tgt := 172) dX12_ask_163 (by decide) (fun hc => ?_) (fun hc => ?_)
    · have h := mm_ift hc h
      refine mm_lconst (pc := 172) (x := 0) dX12_ask_172 rfl ?_
      refine mm_putL (pc := 173) (ci := 12) (N := 116) dX12_ask_173 fX12_712 sh_164 (by decide +kernel) rfl ?_
      refine mm_aload_n (pc := 176) (j := 0) dX12_ask_176 rfl rfl ?_
      refine mm_iconst (pc := 177) (x := 1) dX12_ask_177 rfl ?_
      refine mm_putI (pc := 178) (ci := 12) (N := 116) dX12_ask_178 fX12_715 sh_164 (by decide +kernel) rfl rfl rfl ?_
      refine mm_iconst (pc := 181) (x := 0) dX12_ask_181 rfl ?_
      refine mm_istore_n (pc := 182) (lv' := [(2, .int 0), (0, .ref 164), (1, .int y1)]) dX12_ask_182 rfl (by decide) rfl ?_
      exact mm_sub [1, 2, 0] rfl h
    · have h := mm_iff hc h
      refine mm_ldc2 (pc := 166) (x := (-1)) dX12_ask_166 cX12_587 ?_
      refine mm_goto (pc := 169) (tgt := 173) dX12_ask_169 (by decide) ?_
      refine mm_putL (pc := 173) (ci := 12) (N := 116) dX12_ask_173 fX12_712 sh_164 (by decide +kernel) rfl ?_
      refine mm_aload_n (pc := 176) (j := 0) dX12_ask_176 rfl rfl ?_
      refine mm_iconst (pc := 177) (x := 1) dX12_ask_177 rfl ?_
      refine mm_putI (pc := 178) (ci := 12) (N := 116) dX12_ask_178 fX12_715 sh_164 (by decide +kernel) rfl rfl rfl ?_
      refine mm_iconst (pc := 181) (x := 0) dX12_ask_181 rfl ?_
      refine mm_istore_n (pc := 182) (lv' := [(2, .int 0), (0, .ref 164), (1, .int y1)]) dX12_ask_182 rfl (by decide) rfl ?_
      exact mm_sub [1, 2, 0] rfl h
  · have h := mm_iff hc h
    refine mm_ldc2 (pc := 156) (x := (-1000000000000000)) dX12_ask_156 cX12_718 ?_
    exact mm_lret (pc := 159) dX12_ask_159 rfl (Nat.le_refl 0) (Nat.le_refl 0) ⟨_, rfl, rfl, hG, h⟩
set_option maxRecDepth 100000 in
set_option maxHeartbeats 4000000 in
theorem lX12_ask_183 {d : Nat} {M : mm_M} {K : Int64 → mm_M → Prop} {y1 : Int32} {y2 : Int32} (hG : mm_G M.2.2) (h : mm_CI mX12_houseMany d [.ref 164] M (fun z185 m185 => if z185 ≤ y2 then (jX12_ask_253 d (mm_uI m185 164 49 3) K y1 0) else (jX12_ask_193 d m185 K y1 y2 0))) : jX12_ask_183 d  M K y1 y2 := by
  unfold jX12_ask_183
  refine mm_iload_n (pc := 183) (j := 2) dX12_ask_183 rfl rfl ?_
  refine mm_aload_n (pc := 184) (j := 0) dX12_ask_184 rfl rfl ?_
  refine mm_kVI (pc := 185) [] dX12_ask_185 kX12_412 rfl sh_164 (Nat.le_of_ble_eq_true rfl) (Nat.le_of_ble_eq_true rfl) h (fun z185 m185 hG h => ?_)
  refine mm_icmp_ge (pc := 188) (tgt := 246) dX12_ask_188 (by decide) (fun hc => ?_) (fun hc => ?_)
  · have h := mm_ift hc h
    refine mm_aload_n (pc := 246) (j := 0) dX12_ask_246 rfl rfl ?_
    refine mm_iconst (pc := 247) (x := 3) dX12_ask_247 rfl ?_
    refine mm_putI (pc := 248) (ci := 12) (N := 116) dX12_ask_248 fX12_318 sh_164 (by decide +kernel) rfl rfl rfl ?_
    refine mm_iconst (pc := 251) (x := 0) dX12_ask_251 rfl ?_
    refine mm_istore_n (pc := 252) (lv' := [(2, .int 0), (0, .ref 164), (1, .int y1)]) dX12_ask_252 rfl (by decide) rfl ?_
    exact mm_sub [1, 2, 0] rfl h
  · have h := mm_iff hc h
    refine mm_iconst (pc := 191) (x := 0) dX12_ask_191 rfl ?_
    refine mm_istore_n (pc := 192) (lv' := [(3, .int 0), (0, .ref 164), (1, .int y1), (2, .int y2)]) dX12_ask_192 rfl (by decide) rfl ?_
    exact mm_sub [1, 2, 3, 0] rfl h
set_option maxRecDepth 100000 in
set_option maxHeartbeats 4000000 in
theorem lX12_ask_253 {d : Nat} {M : mm_M} {K : Int64 → mm_M → Prop} {y1 : Int32} {y2 : Int32} (hG : mm_G M.2.2) (h : mm_CI mX12_houseMany d [.ref 164] M (fun z255 m255 => if z255 ≤ y2 then (K (m255.2.1 164 112) m255) else (mm_CI mX12_isThere d [.ref 164, .int y2] m255 (fun z263 m263 => if z263 = 0 then (jX12_ask_253 d m263 K y1 (y2 + 1)) else (mm_CL mX12_qTold d [.ref 164, .int y2] (mm_uI (mm_uI m263 164 52 y2) 164 53 y2) (fun z286 m286 => mm_CV mX12_qTakes d [.ref 164, .int y1, .long z286, .int y2] m286 (fun m290 => jX12_ask_253 d m290 K y1 (y2 + 1)))))))) : jX12_ask_253 d  M K y1 y2 := by
  unfold jX12_ask_253
  refine mm_iload_n (pc := 253) (j := 2) dX12_ask_253 rfl rfl ?_
  refine mm_aload_n (pc := 254) (j := 0) dX12_ask_254 rfl rfl ?_
  refine mm_kVI (pc := 255) [] dX12_ask_255 kX12_412 rfl sh_164 (Nat.le_of_ble_eq_true rfl) (Nat.le_of_ble_eq_true rfl) h (fun z255 m255 hG h => ?_)
  refine mm_icmp_ge (pc := 258) (tgt := 299) dX12_ask_258 (by decide) (fun hc => ?_) (fun hc => ?_)
  · have h := mm_ift hc h
    refine mm_aload_n (pc := 299) (j := 0) dX12_ask_299 rfl rfl ?_
    refine mm_getL (pc := 300) (ci := 12) (N := 116) dX12_ask_300 fX12_712 sh_164 rfl ?_
    exact mm_lret (pc := 303) dX12_ask_303 rfl (Nat.le_refl 0) (Nat.le_refl 0) ⟨_, rfl, rfl, hG, h⟩
  · have h := mm_iff hc h
    refine mm_aload_n (pc := 261) (j := 0) dX12_ask_261 rfl rfl ?_
    refine mm_iload_n (pc := 262) (j := 2) dX12_ask_262 rfl rfl ?_
    refine mm_kVI (pc := 263) [.int y2] dX12_ask_263 kX12_462 rfl sh_164 (Nat.le_of_ble_eq_true rfl) (Nat.le_of_ble_eq_true rfl) h (fun z263 m263 hG h => ?_)
    refine mm_if_ne (pc := 266) (tgt := 272) dX12_ask_266 (by decide) (fun hc => ?_) (fun hc => ?_)
    · have h := mm_iff hc h
      refine mm_aload_n (pc := 272) (j := 0) dX12_ask_272 rfl rfl ?_
      refine mm_iload_n (pc := 273) (j := 2) dX12_ask_273 rfl rfl ?_
      refine mm_putI (pc := 274) (ci := 12) (N := 116) dX12_ask_274 fX12_429 sh_164 (by decide +kernel) rfl rfl rfl ?_
      refine mm_aload_n (pc := 277) (j := 0) dX12_ask_277 rfl rfl ?_
      refine mm_iload_n (pc := 278) (j := 2) dX12_ask_278 rfl rfl ?_
      refine mm_putI (pc := 279) (ci := 12) (N := 116) dX12_ask_279 fX12_439 sh_164 (by decide +kernel) rfl rfl rfl ?_
      refine mm_aload_n (pc := 282) (j := 0) dX12_ask_282 rfl rfl ?_
      refine mm_iload_n (pc := 283) (j := 1) dX12_ask_283 rfl rfl ?_
      refine mm_aload_n (pc := 284) (j := 0) dX12_ask_284 rfl rfl ?_
      refine mm_iload_n (pc := 285) (j := 2) dX12_ask_285 rfl rfl ?_
      refine mm_kVL (pc := 286) [.int y2] dX12_ask_286 kX12_723 rfl sh_164 (Nat.le_of_ble_eq_true rfl) (Nat.le_of_ble_eq_true rfl) h (fun z286 m286 hG h => ?_)
      refine mm_iload_n (pc := 289) (j := 2) dX12_ask_289 rfl rfl ?_
      refine mm_kVV (pc := 290) [.int y1, .long z286, .int y2] dX12_ask_290 kX12_726 rfl sh_164 (Nat.le_of_ble_eq_true rfl) (Nat.le_of_ble_eq_true rfl) h (fun m290 hG h => ?_)
      refine mm_iinc (pc := 293) (j := 2) (v := y2 + 1) (lv' := [(2, .int (y2 + 1)), (0, .ref 164), (1, .int y1)]) dX12_ask_293 rfl rfl (by decide) rfl ?_
      refine mm_goto (pc := 296) (tgt := 253) dX12_ask_296 (by decide) ?_
      exact mm_sub [1, 2, 0] rfl h
    · have h := mm_ift hc h
      refine mm_goto (pc := 269) (tgt := 293) dX12_ask_269 (by decide) ?_
      refine mm_iinc (pc := 293) (j := 2) (v := y2 + 1) (lv' := [(2, .int (y2 + 1)), (0, .ref 164), (1, .int y1)]) dX12_ask_293 rfl rfl (by decide) rfl ?_
      refine mm_goto (pc := 296) (tgt := 253) dX12_ask_296 (by decide) ?_
      exact mm_sub [1, 2, 0] rfl h
set_option maxRecDepth 100000 in
set_option maxHeartbeats 4000000 in
theorem lX12_ask_193 {d : Nat} {M : mm_M} {K : Int64 → mm_M → Prop} {y1 : Int32} {y2 : Int32} {y3 : Int32} (hG : mm_G M.2.2) (h : mm_CI mX12_houseMany d [.ref 164] M (fun z195 m195 => if z195 ≤ y3 then (jX12_ask_183 d m195 K y1 (y2 + 1)) else (mm_CI mX12_areEnemies d [.ref 164, .int y2, .int y3] m195 (fun z214 m214 => if z214 = 0 then (vp_in ((7 * y2) + y3) 49 ∧ jX12_ask_193 d (mm_uL m214 201 ((7 * y2) + y3).toNatClampNeg (-1)) K y1 y2 (y3 + 1)) else (mm_CI mX12_tasteOf d [.ref 164, .int y3, .int y2] m214 (fun z223 m223 => vp_in ((7 * y2) + y3) 49 ∧ jX12_ask_193 d (mm_uL m223 201 ((7 * y2) + y3).toNatClampNeg z223.toInt64) K y1 y2 (y3 + 1))))))) : jX12_ask_193 d  M K y1 y2 y3 := by
  unfold jX12_ask_193
  refine mm_iload_n (pc := 193) (j := 3) dX12_ask_193 rfl rfl ?_
  refine mm_aload_n (pc := 194) (j := 0) dX12_ask_194 rfl rfl ?_
  refine mm_kVI (pc := 195) [] dX12_ask_195 kX12_412 rfl sh_164 (Nat.le_of_ble_eq_true rfl) (Nat.le_of_ble_eq_true rfl) h (fun z195 m195 hG h => ?_)
  refine mm_icmp_ge (pc := 198) (tgt := 240) dX12_ask_198 (by decide) (fun hc => ?_) (fun hc => ?_)
  · have h := mm_ift hc h
    refine mm_iinc (pc := 240) (j := 2) (v := y2 + 1) (lv' := [(2, .int (y2 + 1)), (0, .ref 164), (1, .int y1), (3, .int y3)]) dX12_ask_240 rfl rfl (by decide) rfl ?_
    refine mm_goto (pc := 243) (tgt := 183) dX12_ask_243 (by decide) ?_
    exact mm_sub [1, 2, 0] rfl h
  · have h := mm_iff hc h
    refine mm_aload_n (pc := 201) (j := 0) dX12_ask_201 rfl rfl ?_
    refine mm_getR (pc := 202) (ci := 12) (N := 116) (r := 201) dX12_ask_202 fX12_124 sh_164 rfl (g_164_56 hG) ?_
    refine mm_bipush (pc := 205) (x := 7) dX12_ask_205 rfl ?_
    refine mm_iload_n (pc := 207) (j := 2) dX12_ask_207 rfl rfl ?_
    refine mm_imul (pc := 208) dX12_ask_208 ?_
    refine mm_iload_n (pc := 209) (j := 3) dX12_ask_209 rfl rfl ?_
    refine mm_iadd (pc := 210) dX12_ask_210 ?_
    refine mm_aload_n (pc := 211) (j := 0) dX12_ask_211 rfl rfl ?_
    refine mm_iload_n (pc := 212) (j := 2) dX12_ask_212 rfl rfl ?_
    refine mm_iload_n (pc := 213) (j := 3) dX12_ask_213 rfl rfl ?_
    refine mm_kVI (pc := 214) [.int y2, .int y3] dX12_ask_214 kX12_418 rfl sh_164 (Nat.le_of_ble_eq_true rfl) (Nat.le_of_ble_eq_true rfl) h (fun z214 m214 hG h => ?_)
    refine mm_if_eq (pc := 217) (tgt := 230) dX12_ask_217 (by decide) (fun hc => ?_) (fun hc => ?_)
    · have h := mm_ift hc h
      refine mm_ldc2 (pc := 230) (x := (-1)) dX12_ask_230 cX12_587 ?_
      obtain ⟨hi233, h⟩ := h
      refine mm_lastore (pc := 233) (N := 49) dX12_ask_233 sh_201 hi233 ?_
      refine mm_iinc (pc := 234) (j := 3) (v := y3 + 1) (lv' := [(3, .int (y3 + 1)), (0, .ref 164), (1, .int y1), (2, .int y2)]) dX12_ask_234 rfl rfl (by decide) rfl ?_
      refine mm_goto (pc := 237) (tgt := 193) dX12_ask_237 (by decide) ?_
      exact mm_sub [1, 2, 3, 0] rfl h
    · have h := mm_iff hc h
      refine mm_aload_n (pc := 220) (j := 0) dX12_ask_220 rfl rfl ?_
      refine mm_iload_n (pc := 221) (j := 3) dX12_ask_221 rfl rfl ?_
      refine mm_iload_n (pc := 222) (j := 2) dX12_ask_222 rfl rfl ?_
      refine mm_kVI (pc := 223) [.int y3, .int y2] dX12_ask_223 kX12_486 rfl sh_164 (Nat.le_of_ble_eq_true rfl) (Nat.le_of_ble_eq_true rfl) h (fun z223 m223 hG h => ?_)
      refine mm_i2l (pc := 226) dX12_ask_226 ?_
      refine mm_goto (pc := 227) (tgt := 233) dX12_ask_227 (by decide) ?_
      obtain ⟨hi233, h⟩ := h
      refine mm_lastore (pc := 233) (N := 49) dX12_ask_233 sh_201 hi233 ?_
      refine mm_iinc (pc := 234) (j := 3) (v := y3 + 1) (lv' := [(3, .int (y3 + 1)), (0, .ref 164), (1, .int y1), (2, .int y2)]) dX12_ask_234 rfl rfl (by decide) rfl ?_
      refine mm_goto (pc := 237) (tgt := 193) dX12_ask_237 (by decide) ?_
      exact mm_sub [1, 2, 3, 0] rfl h
def jX12_checked_6 (d : Nat) (r0 : Nat) (n0 : Nat) (x1 : Int32) (M : mm_M) (K : Int32 → mm_M → Prop) (y1 : Int32) (y2 : Int32) (y3 : Int32) : Prop := mm_W mX12_checked d 0 0 6 [(0, .ref r0), (1, .int y1), (2, .int y2), (3, .int y3)] [] mm_SH M 0 0 (mm_PI K)
set_option maxRecDepth 100000 in
set_option maxHeartbeats 4000000 in
theorem rX12_checked {d : Nat} {r0 : Nat} {n0 : Nat} {x1 : Int32} {M : mm_M} {K : Int32 → mm_M → Prop} (hr0 : mm_SH[r0]? = some (0, n0)) (hG : mm_G M.2.2) (h : jX12_checked_6 d r0 n0 x1 M K x1 233 0) : mm_CI mX12_checked d [.ref r0, .int x1] M K := by
  show mm_W mX12_checked d 0 0 0 [(0, .ref r0), (1, .int x1)] [] mm_SH M 0 0 (mm_PI K)
  refine mm_sipush (pc := 0) (x := 233) dX12_checked_0 rfl ?_
  refine mm_istore_n (pc := 3) (lv' := [(2, .int 233), (0, .ref r0), (1, .int x1)]) dX12_checked_3 rfl (by decide) rfl ?_
  refine mm_iconst (pc := 4) (x := 0) dX12_checked_4 rfl ?_
  refine mm_istore_n (pc := 5) (lv' := [(3, .int 0), (2, .int 233), (0, .ref r0), (1, .int x1)]) dX12_checked_5 rfl (by decide) rfl ?_
  exact mm_sub [2, 3, 1, 0] rfl h
set_option maxRecDepth 100000 in
set_option maxHeartbeats 4000000 in
theorem lX12_checked_6 {d : Nat} {r0 : Nat} {n0 : Nat} {x1 : Int32} {M : mm_M} {K : Int32 → mm_M → Prop} {y1 : Int32} {y2 : Int32} {y3 : Int32} (hr0 : mm_SH[r0]? = some (0, n0)) (hG : mm_G M.2.2) (h : if y1 ≤ y3 then (K y2 M) else (vp_in y3 n0 ∧ jX12_checked_6 d r0 n0 x1 M K y1 (((3 * y2) + (M.1 r0 y3.toNatClampNeg)) - ((3 * y2) + (M.1 r0 y3.toNatClampNeg)) / 251 * 251) (y3 + 1))) : jX12_checked_6 d r0 n0 x1 M K y1 y2 y3 := by
  unfold jX12_checked_6
  refine mm_iload_n (pc := 6) (j := 3) dX12_checked_6 rfl rfl ?_
  refine mm_iload_n (pc := 7) (j := 1) dX12_checked_7 rfl rfl ?_
  refine mm_icmp_ge (pc := 8) (tgt := 29) dX12_checked_8 (by decide) (fun hc => ?_) (fun hc => ?_)
  · have h := mm_ift hc h
    refine mm_iload_n (pc := 29) (j := 2) dX12_checked_29 rfl rfl ?_
    exact mm_iret (pc := 30) dX12_checked_30 rfl (Nat.le_refl 0) (Nat.le_refl 0) ⟨_, rfl, rfl, hG, h⟩
  · have h := mm_iff hc h
    refine mm_iconst (pc := 11) (x := 3) dX12_checked_11 rfl ?_
    refine mm_iload_n (pc := 12) (j := 2) dX12_checked_12 rfl rfl ?_
    refine mm_imul (pc := 13) dX12_checked_13 ?_
    refine mm_aload_n (pc := 14) (j := 0) dX12_checked_14 rfl rfl ?_
    refine mm_iload_n (pc := 15) (j := 3) dX12_checked_15 rfl rfl ?_
    obtain ⟨hi16, h⟩ := h
    refine mm_iaload (pc := 16) (N := n0) dX12_checked_16 hr0 hi16 ?_
    refine mm_iadd (pc := 17) dX12_checked_17 ?_
    refine mm_sipush (pc := 18) (x := 251) dX12_checked_18 rfl ?_
    refine mm_irem (pc := 21) dX12_checked_21 (by decide) ?_
    refine mm_istore_n (pc := 22) (lv' := [(2, .int (((3 * y2) + (M.1 r0 y3.toNatClampNeg)) - ((3 * y2) + (M.1 r0 y3.toNatClampNeg)) / 251 * 251)), (0, .ref r0), (1, .int y1), (3, .int y3)]) dX12_checked_22 rfl (by decide) rfl ?_
    refine mm_iinc (pc := 23) (j := 3) (v := y3 + 1) (lv' := [(3, .int (y3 + 1)), (2, .int (((3 * y2) + (M.1 r0 y3.toNatClampNeg)) - ((3 * y2) + (M.1 r0 y3.toNatClampNeg)) / 251 * 251)), (0, .ref r0), (1, .int y1)]) dX12_checked_23 rfl rfl (by decide) rfl ?_
    refine mm_goto (pc := 26) (tgt := 6) dX12_checked_26 (by decide) ?_
    exact mm_sub [2, 3, 1, 0] rfl h
set_option maxRecDepth 100000 in
set_option maxHeartbeats 4000000 in
theorem rX12_writes {d : Nat} {x1 : Int32} {M : mm_M} {K : mm_M → Prop} (hG : mm_G M.2.2) (h : vp_in (M.1 164 115) 45 ∧ K (mm_uI (mm_uI M 242 (M.1 164 115).toNatClampNeg x1) 164 115 (((mm_uI M 242 (M.1 164 115).toNatClampNeg x1).1 164 115) + 1))) : mm_CV mX12_writes d [.ref 164, .int x1] M K := by
  show mm_W mX12_writes d 0 0 0 [(0, .ref 164), (1, .int x1)] [] mm_SH M 0 0 (mm_PV K)
  refine mm_aload_n (pc := 0) (j := 0) dX12_writes_0 rfl rfl ?_
  refine mm_getR (pc := 1) (ci := 12) (N := 116) (r := 242) dX12_writes_1 fX12_252 sh_164 rfl (g_164_114 hG) ?_
  refine mm_aload_n (pc := 4) (j := 0) dX12_writes_4 rfl rfl ?_
  refine mm_getI (pc := 5) (ci := 12) (N := 116) dX12_writes_5 fX12_730 sh_164 rfl ?_
  refine mm_iload_n (pc := 8) (j := 1) dX12_writes_8 rfl rfl ?_
  obtain ⟨hi9, h⟩ := h
  refine mm_iastore (pc := 9) (N := 45) dX12_writes_9 sh_242 hi9 ?_
  refine mm_aload_n (pc := 10) (j := 0) dX12_writes_10 rfl rfl ?_
  refine mm_dup (pc := 11) dX12_writes_11 rfl ?_
  refine mm_getI (pc := 12) (ci := 12) (N := 116) dX12_writes_12 fX12_730 sh_164 rfl ?_
  refine mm_iconst (pc := 15) (x := 1) dX12_writes_15 rfl ?_
  refine mm_iadd (pc := 16) dX12_writes_16 ?_
  refine mm_putI (pc := 17) (ci := 12) (N := 116) dX12_writes_17 fX12_730 sh_164 (by decide +kernel) rfl rfl rfl ?_
  exact mm_vret (pc := 20) dX12_writes_20 rfl (Nat.le_refl 0) (Nat.le_refl 0) ⟨rfl, rfl, hG, h⟩
def jX12_image_35 (d : Nat) (M : mm_M) (K : Int32 → mm_M → Prop) (y1 : Int32) : Prop := mm_W mX12_image (d + 1) 0 0 35 [(0, .ref 164), (1, .int y1)] [] mm_SH M 0 0 (mm_PI K)
def jX12_image_65 (d : Nat) (M : mm_M) (K : Int32 → mm_M → Prop) (y1 : Int32) : Prop := mm_W mX12_image (d + 1) 0 0 65 [(0, .ref 164), (1, .int y1)] [] mm_SH M 0 0 (mm_PI K)
def jX12_image_77 (d : Nat) (M : mm_M) (K : Int32 → mm_M → Prop) (y1 : Int32) (y2 : Int32) : Prop := mm_W mX12_image (d + 1) 0 0 77 [(0, .ref 164), (1, .int y1), (2, .int y2)] [] mm_SH M 0 0 (mm_PI K)
set_option maxRecDepth 100000 in
set_option maxHeartbeats 4000000 in
theorem rX12_image {d : Nat} {M : mm_M} {K : Int32 → mm_M → Prop} (hG : mm_G M.2.2) (h : mm_CV mX12_writes d [.ref 164, .int (((mm_uI M 164 115 0).1 199 (0 : Int32).toNatClampNeg) / 256)] (mm_uI M 164 115 0) (fun m16 => mm_CV mX12_writes d [.ref 164, .int ((m16.1 199 (0 : Int32).toNatClampNeg) - (m16.1 199 (0 : Int32).toNatClampNeg) / 256 * 256)] m16 (fun m30 => jX12_image_35 d m30 K 0))) : mm_CI mX12_image (d + 1) [.ref 164] M K := by
  show mm_W mX12_image (d + 1) 0 0 0 [(0, .ref 164)] [] mm_SH M 0 0 (mm_PI K)
  refine mm_aload_n (pc := 0) (j := 0) dX12_image_0 rfl rfl ?_
  refine mm_iconst (pc := 1) (x := 0) dX12_image_1 rfl ?_
  refine mm_putI (pc := 2) (ci := 12) (N := 116) dX12_image_2 fX12_730 sh_164 (by decide +kernel) rfl rfl rfl ?_
  refine mm_aload_n (pc := 5) (j := 0) dX12_image_5 rfl rfl ?_
  refine mm_aload_n (pc := 6) (j := 0) dX12_image_6 rfl rfl ?_
  refine mm_getR (pc := 7) (ci := 12) (N := 116) (r := 199) dX12_image_7 fX12_118 sh_164 rfl (g_164_50 hG) ?_
  refine mm_iconst (pc := 10) (x := 0) dX12_image_10 rfl ?_
  refine mm_iaload (pc := 11) (N := 204) dX12_image_11 sh_199 (mm_vin (k := 0) rfl (by decide) (by decide)) ?_
  refine mm_sipush (pc := 12) (x := 256) dX12_image_12 rfl ?_
  refine mm_idiv (pc := 15) dX12_image_15 (by decide) ?_
  refine mm_kVV (pc := 16) [.int (((mm_uI M 164 115 0).1 199 (0 : Int32).toNatClampNeg) / 256)] dX12_image_16 kX12_733 rfl sh_164 (Nat.le_of_ble_eq_true rfl) (Nat.le_of_ble_eq_true rfl) h (fun m16 hG h => ?_)
  refine mm_aload_n (pc := 19) (j := 0) dX12_image_19 rfl rfl ?_
  refine mm_aload_n (pc := 20) (j := 0) dX12_image_20 rfl rfl ?_
  refine mm_getR (pc := 21) (ci := 12) (N := 116) (r := 199) dX12_image_21 fX12_118 sh_164 rfl (g_164_50 hG) ?_
  refine mm_iconst (pc := 24) (x := 0) dX12_image_24 rfl ?_
  refine mm_iaload (pc := 25) (N := 204) dX12_image_25 sh_199 (mm_vin (k := 0) rfl (by decide) (by decide)) ?_
  refine mm_sipush (pc := 26) (x := 256) dX12_image_26 rfl ?_
  refine mm_irem (pc := 29) dX12_image_29 (by decide) ?_
  refine mm_kVV (pc := 30) [.int ((m16.1 199 (0 : Int32).toNatClampNeg) - (m16.1 199 (0 : Int32).toNatClampNeg) / 256 * 256)] dX12_image_30 kX12_733 rfl sh_164 (Nat.le_of_ble_eq_true rfl) (Nat.le_of_ble_eq_true rfl) h (fun m30 hG h => ?_)
  refine mm_iconst (pc := 33) (x := 0) dX12_image_33 rfl ?_
  refine mm_istore_n (pc := 34) (lv' := [(1, .int 0), (0, .ref 164)]) dX12_image_34 rfl (by decide) rfl ?_
  exact mm_sub [1, 0] rfl h
set_option maxRecDepth 100000 in
set_option maxHeartbeats 4000000 in
theorem lX12_image_35 {d : Nat} {M : mm_M} {K : Int32 → mm_M → Prop} {y1 : Int32} (hG : mm_G M.2.2) (h : mm_CI mX12_houseMany d [.ref 164] M (fun z38 m38 => if (3 * z38) ≤ y1 then (jX12_image_65 d m38 K 0) else (vp_in (1 + y1) 204 ∧ mm_CV mX12_writes d [.ref 164, .int (m38.1 199 (1 + y1).toNatClampNeg)] m38 (fun m54 => jX12_image_35 d m54 K (y1 + 1))))) : jX12_image_35 d  M K y1 := by
  unfold jX12_image_35
  refine mm_iload_n (pc := 35) (j := 1) dX12_image_35 rfl rfl ?_
  refine mm_iconst (pc := 36) (x := 3) dX12_image_36 rfl ?_
  refine mm_aload_n (pc := 37) (j := 0) dX12_image_37 rfl rfl ?_
  refine mm_kVI (pc := 38) [] dX12_image_38 kX12_412 rfl sh_164 (Nat.le_of_ble_eq_true rfl) (Nat.le_of_ble_eq_true rfl) h (fun z38 m38 hG h => ?_)
  refine mm_imul (pc := 41) dX12_image_41 ?_
  refine mm_icmp_ge (pc := 42) (tgt := 63) dX12_image_42 (by decide) (fun hc => ?_) (fun hc => ?_)
  · have h := mm_ift hc h
    refine mm_iconst (pc := 63) (x := 0) dX12_image_63 rfl ?_
    refine mm_istore_n (pc := 64) (lv' := [(1, .int 0), (0, .ref 164)]) dX12_image_64 rfl (by decide) rfl ?_
    exact mm_sub [1, 0] rfl h
  · have h := mm_iff hc h
    refine mm_aload_n (pc := 45) (j := 0) dX12_image_45 rfl rfl ?_
    refine mm_aload_n (pc := 46) (j := 0) dX12_image_46 rfl rfl ?_
    refine mm_getR (pc := 47) (ci := 12) (N := 116) (r := 199) dX12_image_47 fX12_118 sh_164 rfl (g_164_50 hG) ?_
    refine mm_iconst (pc := 50) (x := 1) dX12_image_50 rfl ?_
    refine mm_iload_n (pc := 51) (j := 1) dX12_image_51 rfl rfl ?_
    refine mm_iadd (pc := 52) dX12_image_52 ?_
    obtain ⟨hi53, h⟩ := h
    refine mm_iaload (pc := 53) (N := 204) dX12_image_53 sh_199 hi53 ?_
    refine mm_kVV (pc := 54) [.int (m38.1 199 (1 + y1).toNatClampNeg)] dX12_image_54 kX12_733 rfl sh_164 (Nat.le_of_ble_eq_true rfl) (Nat.le_of_ble_eq_true rfl) h (fun m54 hG h => ?_)
    refine mm_iinc (pc := 57) (j := 1) (v := y1 + 1) (lv' := [(1, .int (y1 + 1)), (0, .ref 164)]) dX12_image_57 rfl rfl (by decide) rfl ?_
    refine mm_goto (pc := 60) (tgt := 35) dX12_image_60 (by decide) ?_
    exact mm_sub [1, 0] rfl h
set_option maxRecDepth 100000 in
set_option maxHeartbeats 4000000 in
theorem lX12_image_65 {d : Nat} {M : mm_M} {K : Int32 → mm_M → Prop} {y1 : Int32} (hG : mm_G M.2.2) (h : mm_CI mX12_houseMany d [.ref 164] M (fun z67 m67 => if z67 ≤ y1 then (mm_CI mX12_checked d [.ref 242, .int (m67.1 164 115)] m67 (fun z116 m116 => mm_CV mX12_writes d [.ref 164, .int z116] m116 (fun m119 => K (m119.1 164 115) m119))) else (jX12_image_77 d m67 K y1 (y1 + 1)))) : jX12_image_65 d  M K y1 := by
  unfold jX12_image_65
  refine mm_iload_n (pc := 65) (j := 1) dX12_image_65 rfl rfl ?_
  refine mm_aload_n (pc := 66) (j := 0) dX12_image_66 rfl rfl ?_
  refine mm_kVI (pc := 67) [] dX12_image_67 kX12_412 rfl sh_164 (Nat.le_of_ble_eq_true rfl) (Nat.le_of_ble_eq_true rfl) h (fun z67 m67 hG h => ?_)
  refine mm_icmp_ge (pc := 70) (tgt := 107) dX12_image_70 (by decide) (fun hc => ?_) (fun hc => ?_)
  · have h := mm_ift hc h
    refine mm_aload_n (pc := 107) (j := 0) dX12_image_107 rfl rfl ?_
    refine mm_aload_n (pc := 108) (j := 0) dX12_image_108 rfl rfl ?_
    refine mm_getR (pc := 109) (ci := 12) (N := 116) (r := 242) dX12_image_109 fX12_252 sh_164 rfl (g_164_114 hG) ?_
    refine mm_aload_n (pc := 112) (j := 0) dX12_image_112 rfl rfl ?_
    refine mm_getI (pc := 113) (ci := 12) (N := 116) dX12_image_113 fX12_730 sh_164 rfl ?_
    refine mm_kSI (pc := 116) [.ref 242, .int (m67.1 164 115)] dX12_image_116 kX12_736 rfl (Nat.le_of_ble_eq_true rfl) (Nat.le_of_ble_eq_true rfl) h (fun z116 m116 hG h => ?_)
    refine mm_kVV (pc := 119) [.int z116] dX12_image_119 kX12_733 rfl sh_164 (Nat.le_of_ble_eq_true rfl) (Nat.le_of_ble_eq_true rfl) h (fun m119 hG h => ?_)
    refine mm_aload_n (pc := 122) (j := 0) dX12_image_122 rfl rfl ?_
    refine mm_getI (pc := 123) (ci := 12) (N := 116) dX12_image_123 fX12_730 sh_164 rfl ?_
    exact mm_iret (pc := 126) dX12_image_126 rfl (Nat.le_refl 0) (Nat.le_refl 0) ⟨_, rfl, rfl, hG, h⟩
  · have h := mm_iff hc h
    refine mm_iload_n (pc := 73) (j := 1) dX12_image_73 rfl rfl ?_
    refine mm_iconst (pc := 74) (x := 1) dX12_image_74 rfl ?_
    refine mm_iadd (pc := 75) dX12_image_75 ?_
    refine mm_istore_n (pc := 76) (lv' := [(2, .int (y1 + 1)), (0, .ref 164), (1, .int y1)]) dX12_image_76 rfl (by decide) rfl ?_
    exact mm_sub [1, 2, 0] rfl h
set_option maxRecDepth 100000 in
set_option maxHeartbeats 4000000 in
theorem lX12_image_77 {d : Nat} {M : mm_M} {K : Int32 → mm_M → Prop} {y1 : Int32} {y2 : Int32} (hG : mm_G M.2.2) (h : mm_CI mX12_houseMany d [.ref 164] M (fun z79 m79 => if z79 ≤ y2 then (jX12_image_65 d m79 K (y1 + 1)) else (mm_CI mX12_hateOf d [.ref 164, .int y1, .int y2] m79 (fun z89 m89 => mm_CV mX12_writes d [.ref 164, .int z89] m89 (fun m92 => jX12_image_77 d m92 K y1 (y2 + 1)))))) : jX12_image_77 d  M K y1 y2 := by
  unfold jX12_image_77
  refine mm_iload_n (pc := 77) (j := 2) dX12_image_77 rfl rfl ?_
  refine mm_aload_n (pc := 78) (j := 0) dX12_image_78 rfl rfl ?_
  refine mm_kVI (pc := 79) [] dX12_image_79 kX12_412 rfl sh_164 (Nat.le_of_ble_eq_true rfl) (Nat.le_of_ble_eq_true rfl) h (fun z79 m79 hG h => ?_)
  refine mm_icmp_ge (pc := 82) (tgt := 101) dX12_image_82 (by decide) (fun hc => ?_) (fun hc => ?_)
  · have h := mm_ift hc h
    refine mm_iinc (pc := 101) (j := 1) (v := y1 + 1) (lv' := [(1, .int (y1 + 1)), (0, .ref 164), (2, .int y2)]) dX12_image_101 rfl rfl (by decide) rfl ?_
    refine mm_goto (pc := 104) (tgt := 65) dX12_image_104 (by decide) ?_
    exact mm_sub [1, 0] rfl h
  · have h := mm_iff hc h
    refine mm_aload_n (pc := 85) (j := 0) dX12_image_85 rfl rfl ?_
    refine mm_aload_n (pc := 86) (j := 0) dX12_image_86 rfl rfl ?_
    refine mm_iload_n (pc := 87) (j := 1) dX12_image_87 rfl rfl ?_
    refine mm_iload_n (pc := 88) (j := 2) dX12_image_88 rfl rfl ?_
    refine mm_kVI (pc := 89) [.int y1, .int y2] dX12_image_89 kX12_415 rfl sh_164 (Nat.le_of_ble_eq_true rfl) (Nat.le_of_ble_eq_true rfl) h (fun z89 m89 hG h => ?_)
    refine mm_kVV (pc := 92) [.int z89] dX12_image_92 kX12_733 rfl sh_164 (Nat.le_of_ble_eq_true rfl) (Nat.le_of_ble_eq_true rfl) h (fun m92 hG h => ?_)
    refine mm_iinc (pc := 95) (j := 2) (v := y2 + 1) (lv' := [(2, .int (y2 + 1)), (0, .ref 164), (1, .int y1)]) dX12_image_95 rfl rfl (by decide) rfl ?_
    refine mm_goto (pc := 98) (tgt := 77) dX12_image_98 (by decide) ?_
    exact mm_sub [1, 2, 0] rfl h
set_option maxRecDepth 100000 in
set_option maxHeartbeats 4000000 in
theorem rX12_octet {d : Nat} {x1 : Int32} {M : mm_M} {K : Int32 → mm_M → Prop} (hG : mm_G M.2.2) (h : if x1 < 0 then (K (-1) M) else (if (M.1 164 115) ≤ x1 then (K (-1) M) else (vp_in x1 45 ∧ K (M.1 242 x1.toNatClampNeg) M))) : mm_CI mX12_octet d [.ref 164, .int x1] M K := by
  show mm_W mX12_octet d 0 0 0 [(0, .ref 164), (1, .int x1)] [] mm_SH M 0 0 (mm_PI K)
  refine mm_iload_n (pc := 0) (j := 1) dX12_octet_0 rfl rfl ?_
  refine mm_if_lt (pc := 1) (tgt := 21) dX12_octet_1 (by decide) (fun hc => ?_) (fun hc => ?_)
  · have h := mm_ift hc h
    refine mm_iconst (pc := 21) (x := (-1)) dX12_octet_21 rfl ?_
    exact mm_iret (pc := 22) dX12_octet_22 rfl (Nat.le_refl 0) (Nat.le_refl 0) ⟨_, rfl, rfl, hG, h⟩
  · have h := mm_iff hc h
    refine mm_iload_n (pc := 4) (j := 1) dX12_octet_4 rfl rfl ?_
    refine mm_aload_n (pc := 5) (j := 0) dX12_octet_5 rfl rfl ?_
    refine mm_getI (pc := 6) (ci := 12) (N := 116) dX12_octet_6 fX12_730 sh_164 rfl ?_
    refine mm_icmp_ge (pc := 9) (tgt := 21) dX12_octet_9 (by decide) (fun hc => ?_) (fun hc => ?_)
    · have h := mm_ift hc h
      refine mm_iconst (pc := 21) (x := (-1)) dX12_octet_21 rfl ?_
      exact mm_iret (pc := 22) dX12_octet_22 rfl (Nat.le_refl 0) (Nat.le_refl 0) ⟨_, rfl, rfl, hG, h⟩
    · have h := mm_iff hc h
      refine mm_aload_n (pc := 12) (j := 0) dX12_octet_12 rfl rfl ?_
      refine mm_getR (pc := 13) (ci := 12) (N := 116) (r := 242) dX12_octet_13 fX12_252 sh_164 rfl (g_164_114 hG) ?_
      refine mm_iload_n (pc := 16) (j := 1) dX12_octet_16 rfl rfl ?_
      obtain ⟨hi17, h⟩ := h
      refine mm_iaload (pc := 17) (N := 45) dX12_octet_17 sh_242 hi17 ?_
      refine mm_goto (pc := 18) (tgt := 22) dX12_octet_18 (by decide) ?_
      exact mm_iret (pc := 22) dX12_octet_22 rfl (Nat.le_refl 0) (Nat.le_refl 0) ⟨_, rfl, rfl, hG, h⟩
def jX12_isImage_82 (d : Nat) (x1 : Int32) (M : mm_M) (K : Int32 → mm_M → Prop) (y2 : Int32) (y3 : Int32) (y4 : Int32) : Prop := mm_W mX12_isImage (d + 1) 0 0 82 [(0, .ref 164), (2, .int y2), (3, .int y3), (4, .int y4)] [] mm_SH M 0 0 (mm_PI K)
def jX12_isImage_141 (d : Nat) (x1 : Int32) (M : mm_M) (K : Int32 → mm_M → Prop) (y2 : Int32) (y4 : Int32) (y5 : Int32) : Prop := mm_W mX12_isImage (d + 1) 0 0 141 [(0, .ref 164), (2, .int y2), (4, .int y4), (5, .int y5)] [] mm_SH M 0 0 (mm_PI K)
def jX12_isImage_153 (d : Nat) (x1 : Int32) (M : mm_M) (K : Int32 → mm_M → Prop) (y2 : Int32) (y4 : Int32) (y5 : Int32) (y6 : Int32) : Prop := mm_W mX12_isImage (d + 1) 0 0 153 [(0, .ref 164), (2, .int y2), (4, .int y4), (5, .int y5), (6, .int y6)] [] mm_SH M 0 0 (mm_PI K)
def jX12_isImage_194 (d : Nat) (x1 : Int32) (M : mm_M) (K : Int32 → mm_M → Prop) (y2 : Int32) (y4 : Int32) (y5 : Int32) (y6 : Int32) (u0 : Int32) : Prop := mm_W mX12_isImage (d + 1) 0 0 194 [(0, .ref 164), (2, .int y2), (4, .int y4), (5, .int y5), (6, .int y6)] [.int u0] mm_SH M 0 0 (mm_PI K)
set_option maxRecDepth 100000 in
set_option maxHeartbeats 4000000 in
theorem rX12_isImage {d : Nat} {x1 : Int32} {M : mm_M} {K : Int32 → mm_M → Prop} (hG : mm_G M.2.2) (h : mm_CI mX12_houseMany d [.ref 164] M (fun z1 m1 => if (m1.1 164 48) = 0 then (K 0 m1) else (if x1 = (((2 + (3 * z1)) + ((z1 * (z1 - 1)) / 2)) + 1) then (vp_in (x1 - 1) 1600 ∧ mm_CI mX12_checked d [.ref 165, .int (x1 - 1)] m1 (fun z48 m48 => if (m1.1 165 (x1 - 1).toNatClampNeg) = z48 then (if ((256 * (m48.1 165 (0 : Int32).toNatClampNeg)) + (m48.1 165 (1 : Int32).toNatClampNeg)) ≤ 999 then (jX12_isImage_82 d x1 m48 K z1 (2 + (3 * z1)) 2) else (K 0 m48)) else (K 0 m48))) else (K 0 m1)))) : mm_CI mX12_isImage (d + 1) [.ref 164, .int x1] M K := by
  show mm_W mX12_isImage (d + 1) 0 0 0 [(0, .ref 164), (1, .int x1)] [] mm_SH M 0 0 (mm_PI K)
  refine mm_aload_n (pc := 0) (j := 0) dX12_isImage_0 rfl rfl ?_
  refine mm_kVI (pc := 1) [] dX12_isImage_1 kX12_412 rfl sh_164 (Nat.le_of_ble_eq_true rfl) (Nat.le_of_ble_eq_true rfl) h (fun z1 m1 hG h => ?_)
  refine mm_istore_n (pc := 4) (lv' := [(2, .int z1), (0, .ref 164), (1, .int x1)]) dX12_isImage_4 rfl (by decide) rfl ?_
  refine mm_iconst (pc := 5) (x := 2) dX12_isImage_5 rfl ?_
  refine mm_iconst (pc := 6) (x := 3) dX12_isImage_6 rfl ?_
  refine mm_iload_n (pc := 7) (j := 0) dX12_isImage_7 rfl rfl ?_
  refine mm_imul (pc := 8) dX12_isImage_8 ?_
  refine mm_iadd (pc := 9) dX12_isImage_9 ?_
  refine mm_istore_n (pc := 10) (lv' := [(3, .int (2 + (3 * z1))), (2, .int z1), (0, .ref 164), (1, .int x1)]) dX12_isImage_10 rfl (by decide) rfl ?_
  refine mm_aload_n (pc := 11) (j := 2) dX12_isImage_11 rfl rfl ?_
  refine mm_getI (pc := 12) (ci := 12) (N := 116) dX12_isImage_12 fX12_399 sh_164 rfl ?_
  refine mm_if_eq (pc := 15) (tgt := 77) dX12_isImage_15 (by decide) (fun hc => ?_) (fun hc => ?_)
  · have h := mm_ift hc h
    refine mm_iconst (pc := 77) (x := 0) dX12_isImage_77 rfl ?_
    exact mm_zret (pc := 78) dX12_isImage_78 rfl rfl (Nat.le_refl 0) (Nat.le_refl 0) ⟨_, rfl, rfl, hG, h⟩
  · have h := mm_iff hc h
    refine mm_iload_n (pc := 18) (j := 3) dX12_isImage_18 rfl rfl ?_
    refine mm_iload_n (pc := 19) (j := 0) dX12_isImage_19 rfl rfl ?_
    refine mm_iload_n (pc := 20) (j := 1) dX12_isImage_20 rfl rfl ?_
    refine mm_iload_n (pc := 21) (j := 1) dX12_isImage_21 rfl rfl ?_
    refine mm_iconst (pc := 22) (x := 1) dX12_isImage_22 rfl ?_
    refine mm_isub (pc := 23) dX12_isImage_23 ?_
    refine mm_imul (pc := 24) dX12_isImage_24 ?_
    refine mm_iconst (pc := 25) (x := 2) dX12_isImage_25 rfl ?_
    refine mm_idiv (pc := 26) dX12_isImage_26 (by decide) ?_
    refine mm_iadd (pc := 27) dX12_isImage_27 ?_
    refine mm_iconst (pc := 28) (x := 1) dX12_isImage_28 rfl ?_
    refine mm_iadd (pc := 29) dX12_isImage_29 ?_
    refine mm_icmp_ne (pc := 30) (tgt := 77) dX12_isImage_30 (by decide) (fun hc => ?_) (fun hc => ?_)
    · have h := mm_iff hc h
      refine mm_iconst (pc := 77) (x := 0) dX12_isImage_77 rfl ?_
      exact mm_zret (pc := 78) dX12_isImage_78 rfl rfl (Nat.le_refl 0) (Nat.le_refl 0) ⟨_, rfl, rfl, hG, h⟩
    · have h := mm_ift hc h
      refine mm_aload_n (pc := 33) (j := 2) dX12_isImage_33 rfl rfl ?_
      refine mm_getR (pc := 34) (ci := 12) (N := 116) (r := 165) dX12_isImage_34 fX12_7 sh_164 rfl (g_164_0 hG) ?_
      refine mm_iload_n (pc := 37) (j := 3) dX12_isImage_37 rfl rfl ?_
      refine mm_iconst (pc := 38) (x := 1) dX12_isImage_38 rfl ?_
      refine mm_isub (pc := 39) dX12_isImage_39 ?_
      obtain ⟨hi40, h⟩ := h
      refine mm_iaload (pc := 40) (N := 1600) dX12_isImage_40 sh_165 hi40 ?_
      refine mm_aload_n (pc := 41) (j := 2) dX12_isImage_41 rfl rfl ?_
      refine mm_getR (pc := 42) (ci := 12) (N := 116) (r := 165) dX12_isImage_42 fX12_7 sh_164 rfl (g_164_0 hG) ?_
      refine mm_iload_n (pc := 45) (j := 3) dX12_isImage_45 rfl rfl ?_
      refine mm_iconst (pc := 46) (x := 1) dX12_isImage_46 rfl ?_
      refine mm_isub (pc := 47) dX12_isImage_47 ?_
      refine mm_kSI (pc := 48) [.ref 165, .int (x1 - 1)] dX12_isImage_48 kX12_736 rfl (Nat.le_of_ble_eq_true rfl) (Nat.le_of_ble_eq_true rfl) h (fun z48 m48 hG h => ?_)
      refine mm_icmp_ne (pc := 51) (tgt := 77) dX12_isImage_51 (by decide) (fun hc => ?_) (fun hc => ?_)
      · have h := mm_iff hc h
        refine mm_iconst (pc := 77) (x := 0) dX12_isImage_77 rfl ?_
        exact mm_zret (pc := 78) dX12_isImage_78 rfl rfl (Nat.le_refl 0) (Nat.le_refl 0) ⟨_, rfl, rfl, hG, h⟩
      · have h := mm_ift hc h
        refine mm_sipush (pc := 54) (x := 256) dX12_isImage_54 rfl ?_
        refine mm_aload_n (pc := 57) (j := 2) dX12_isImage_57 rfl rfl ?_
        refine mm_getR (pc := 58) (ci := 12) (N := 116) (r := 165) dX12_isImage_58 fX12_7 sh_164 rfl (g_164_0 hG) ?_
        refine mm_iconst (pc := 61) (x := 0) dX12_isImage_61 rfl ?_
        refine mm_iaload (pc := 62) (N := 1600) dX12_isImage_62 sh_165 (mm_vin (k := 0) rfl (by decide) (by decide)) ?_
        refine mm_imul (pc := 63) dX12_isImage_63 ?_
        refine mm_aload_n (pc := 64) (j := 2) dX12_isImage_64 rfl rfl ?_
        refine mm_getR (pc := 65) (ci := 12) (N := 116) (r := 165) dX12_isImage_65 fX12_7 sh_164 rfl (g_164_0 hG) ?_
        refine mm_iconst (pc := 68) (x := 1) dX12_isImage_68 rfl ?_
        refine mm_iaload (pc := 69) (N := 1600) dX12_isImage_69 sh_165 (mm_vin (k := 1) rfl (by decide) (by decide)) ?_
        refine mm_iadd (pc := 70) dX12_isImage_70 ?_
        refine mm_sipush (pc := 71) (x := 999) dX12_isImage_71 rfl ?_
        refine mm_icmp_le (pc := 74) (tgt := 79) dX12_isImage_74 (by decide) (fun hc => ?_) (fun hc => ?_)
        · have h := mm_ift hc h
          refine mm_iconst (pc := 79) (x := 2) dX12_isImage_79 rfl ?_
          refine mm_istore (pc := 80) (lv' := [(4, .int 2), (3, .int (2 + (3 * z1))), (2, .int z1), (0, .ref 164), (1, .int x1)]) dX12_isImage_80 (by decide) rfl ?_
          exact mm_sub [3, 2, 1, 0] rfl h
        · have h := mm_iff hc h
          refine mm_iconst (pc := 77) (x := 0) dX12_isImage_77 rfl ?_
          exact mm_zret (pc := 78) dX12_isImage_78 rfl rfl (Nat.le_refl 0) (Nat.le_refl 0) ⟨_, rfl, rfl, hG, h⟩
set_option maxRecDepth 100000 in
set_option maxHeartbeats 4000000 in
theorem lX12_isImage_82 {d : Nat} {x1 : Int32} {M : mm_M} {K : Int32 → mm_M → Prop} {y2 : Int32} {y3 : Int32} {y4 : Int32} (hG : mm_G M.2.2) (h : if y3 ≤ y4 then (jX12_isImage_141 d x1 M K y2 y3 0) else (vp_in y4 1600 ∧ if 1 < (M.1 165 y4.toNatClampNeg) then (K 0 M) else (vp_in (y4 + 1) 1600 ∧ if 99 < (M.1 165 (y4 + 1).toNatClampNeg) then (K 0 M) else (vp_in (y4 + 2) 1600 ∧ if (M.1 165 (y4 + 2).toNatClampNeg) ≤ 9 then (jX12_isImage_82 d x1 M K y2 y3 (y4 + 3)) else (K 0 M))))) : jX12_isImage_82 d x1 M K y2 y3 y4 := by
  unfold jX12_isImage_82
  refine mm_iload (pc := 82) (j := 3) dX12_isImage_82 rfl ?_
  refine mm_iload_n (pc := 84) (j := 2) dX12_isImage_84 rfl rfl ?_
  refine mm_icmp_ge (pc := 85) (tgt := 135) dX12_isImage_85 (by decide) (fun hc => ?_) (fun hc => ?_)
  · have h := mm_ift hc h
    refine mm_iload_n (pc := 135) (j := 2) dX12_isImage_135 rfl rfl ?_
    refine mm_istore (pc := 136) (lv' := [(4, .int y3), (0, .ref 164), (2, .int y2), (3, .int y3)]) dX12_isImage_136 (by decide) rfl ?_
    refine mm_iconst (pc := 138) (x := 0) dX12_isImage_138 rfl ?_
    refine mm_istore (pc := 139) (lv' := [(5, .int 0), (4, .int y3), (0, .ref 164), (2, .int y2), (3, .int y3)]) dX12_isImage_139 (by decide) rfl ?_
    exact mm_sub [2, 3, 1, 0] rfl h
  · have h := mm_iff hc h
    refine mm_aload_n (pc := 88) (j := 0) dX12_isImage_88 rfl rfl ?_
    refine mm_getR (pc := 89) (ci := 12) (N := 116) (r := 165) dX12_isImage_89 fX12_7 sh_164 rfl (g_164_0 hG) ?_
    refine mm_iload (pc := 92) (j := 3) dX12_isImage_92 rfl ?_
    obtain ⟨hi94, h⟩ := h
    refine mm_iaload (pc := 94) (N := 1600) dX12_isImage_94 sh_165 hi94 ?_
    refine mm_iconst (pc := 95) (x := 1) dX12_isImage_95 rfl ?_
    refine mm_icmp_gt (pc := 96) (tgt := 127) dX12_isImage_96 (by decide) (fun hc => ?_) (fun hc => ?_)
    · have h := mm_ift hc h
      refine mm_iconst (pc := 127) (x := 0) dX12_isImage_127 rfl ?_
      exact mm_zret (pc := 128) dX12_isImage_128 rfl rfl (Nat.le_refl 0) (Nat.le_refl 0) ⟨_, rfl, rfl, hG, h⟩
    · have h := mm_iff hc h
      refine mm_aload_n (pc := 99) (j := 0) dX12_isImage_99 rfl rfl ?_
      refine mm_getR (pc := 100) (ci := 12) (N := 116) (r := 165) dX12_isImage_100 fX12_7 sh_164 rfl (g_164_0 hG) ?_
      refine mm_iload (pc := 103) (j := 3) dX12_isImage_103 rfl ?_
      refine mm_iconst (pc := 105) (x := 1) dX12_isImage_105 rfl ?_
      refine mm_iadd (pc := 106) dX12_isImage_106 ?_
      obtain ⟨hi107, h⟩ := h
      refine mm_iaload (pc := 107) (N := 1600) dX12_isImage_107 sh_165 hi107 ?_
      refine mm_bipush (pc := 108) (x := 99) dX12_isImage_108 rfl ?_
      refine mm_icmp_gt (pc := 110) (tgt := 127) dX12_isImage_110 (by decide) (fun hc => ?_) (fun hc => ?_)
      · have h := mm_ift hc h
        refine mm_iconst (pc := 127) (x := 0) dX12_isImage_127 rfl ?_
        exact mm_zret (pc := 128) dX12_isImage_128 rfl rfl (Nat.le_refl 0) (Nat.le_refl 0) ⟨_, rfl, rfl, hG, h⟩
      · have h := mm_iff hc h
        refine mm_aload_n (pc := 113) (j := 0) dX12_isImage_113 rfl rfl ?_
        refine mm_getR (pc := 114) (ci := 12) (N := 116) (r := 165) dX12_isImage_114 fX12_7 sh_164 rfl (g_164_0 hG) ?_
        refine mm_iload (pc := 117) (j := 3) dX12_isImage_117 rfl ?_
        refine mm_iconst (pc := 119) (x := 2) dX12_isImage_119 rfl ?_
        refine mm_iadd (pc := 120) dX12_isImage_120 ?_
        obtain ⟨hi121, h⟩ := h
        refine mm_iaload (pc := 121) (N := 1600) dX12_isImage_121 sh_165 hi121 ?_
        refine mm_bipush (pc := 122) (x := 9) dX12_isImage_122 rfl ?_
        refine mm_icmp_le (pc := 124) (tgt := 129) dX12_isImage_124 (by decide) (fun hc => ?_) (fun hc => ?_)
        · have h := mm_ift hc h
          refine mm_iinc (pc := 129) (j := 3) (v := y4 + 3) (lv' := [(4, .int (y4 + 3)), (0, .ref 164), (2, .int y2), (3, .int y3)]) dX12_isImage_129 rfl rfl (by decide) rfl ?_
          refine mm_goto (pc := 132) (tgt := 82) dX12_isImage_132 (by decide) ?_
          exact mm_sub [1, 2, 3, 0] rfl h
        · have h := mm_iff hc h
          refine mm_iconst (pc := 127) (x := 0) dX12_isImage_127 rfl ?_
          exact mm_zret (pc := 128) dX12_isImage_128 rfl rfl (Nat.le_refl 0) (Nat.le_refl 0) ⟨_, rfl, rfl, hG, h⟩
set_option maxRecDepth 100000 in
set_option maxHeartbeats 4000000 in
theorem lX12_isImage_141 {d : Nat} {x1 : Int32} {M : mm_M} {K : Int32 → mm_M → Prop} {y2 : Int32} {y4 : Int32} {y5 : Int32} (hG : mm_G M.2.2) (h : if y2 ≤ y5 then (K 1 M) else (jX12_isImage_153 d x1 M K y2 y4 y5 (y5 + 1))) : jX12_isImage_141 d x1 M K y2 y4 y5 := by
  unfold jX12_isImage_141
  refine mm_iload (pc := 141) (j := 3) dX12_isImage_141 rfl ?_
  refine mm_iload_n (pc := 143) (j := 1) dX12_isImage_143 rfl rfl ?_
  refine mm_icmp_ge (pc := 144) (tgt := 234) dX12_isImage_144 (by decide) (fun hc => ?_) (fun hc => ?_)
  · have h := mm_ift hc h
    refine mm_iconst (pc := 234) (x := 1) dX12_isImage_234 rfl ?_
    exact mm_zret (pc := 235) dX12_isImage_235 rfl rfl (Nat.le_refl 0) (Nat.le_refl 0) ⟨_, rfl, rfl, hG, h⟩
  · have h := mm_iff hc h
    refine mm_iload (pc := 147) (j := 3) dX12_isImage_147 rfl ?_
    refine mm_iconst (pc := 149) (x := 1) dX12_isImage_149 rfl ?_
    refine mm_iadd (pc := 150) dX12_isImage_150 ?_
    refine mm_istore (pc := 151) (lv' := [(6, .int (y5 + 1)), (0, .ref 164), (2, .int y2), (4, .int y4), (5, .int y5)]) dX12_isImage_151 (by decide) rfl ?_
    exact mm_sub [1, 2, 3, 4, 0] rfl h
set_option maxRecDepth 100000 in
set_option maxHeartbeats 4000000 in
theorem lX12_isImage_153 {d : Nat} {x1 : Int32} {M : mm_M} {K : Int32 → mm_M → Prop} {y2 : Int32} {y4 : Int32} {y5 : Int32} {y6 : Int32} (hG : mm_G M.2.2) (h : if y2 ≤ y6 then (jX12_isImage_141 d x1 M K y2 y4 (y5 + 1)) else (vp_in (2 + (3 * y5)) 1600 ∧ if (M.1 165 (2 + (3 * y5)).toNatClampNeg) = 1 then (vp_in (2 + (3 * y6)) 1600 ∧ if (M.1 165 (2 + (3 * y6)).toNatClampNeg) = 1 then (jX12_isImage_194 d x1 M K y2 y4 y5 y6 1) else (jX12_isImage_194 d x1 M K y2 y4 y5 y6 0)) else (jX12_isImage_194 d x1 M K y2 y4 y5 y6 0))) : jX12_isImage_153 d x1 M K y2 y4 y5 y6 := by
  unfold jX12_isImage_153
  refine mm_iload (pc := 153) (j := 4) dX12_isImage_153 rfl ?_
  refine mm_iload_n (pc := 155) (j := 1) dX12_isImage_155 rfl rfl ?_
  refine mm_icmp_ge (pc := 156) (tgt := 228) dX12_isImage_156 (by decide) (fun hc => ?_) (fun hc => ?_)
  · have h := mm_ift hc h
    refine mm_iinc (pc := 228) (j := 3) (v := y5 + 1) (lv' := [(5, .int (y5 + 1)), (0, .ref 164), (2, .int y2), (4, .int y4), (6, .int y6)]) dX12_isImage_228 rfl rfl (by decide) rfl ?_
    refine mm_goto (pc := 231) (tgt := 141) dX12_isImage_231 (by decide) ?_
    exact mm_sub [1, 2, 3, 0] rfl h
  · have h := mm_iff hc h
    refine mm_aload_n (pc := 159) (j := 0) dX12_isImage_159 rfl rfl ?_
    refine mm_getR (pc := 160) (ci := 12) (N := 116) (r := 165) dX12_isImage_160 fX12_7 sh_164 rfl (g_164_0 hG) ?_
    refine mm_iconst (pc := 163) (x := 2) dX12_isImage_163 rfl ?_
    refine mm_iconst (pc := 164) (x := 3) dX12_isImage_164 rfl ?_
    refine mm_iload (pc := 165) (j := 3) dX12_isImage_165 rfl ?_
    refine mm_imul (pc := 167) dX12_isImage_167 ?_
    refine mm_iadd (pc := 168) dX12_isImage_168 ?_
    obtain ⟨hi169, h⟩ := h
    refine mm_iaload (pc := 169) (N := 1600) dX12_isImage_169 sh_165 hi169 ?_
    refine mm_iconst (pc := 170) (x := 1) dX12_isImage_170 rfl ?_
    refine mm_icmp_ne (pc := 171) (tgt := 193) dX12_isImage_171 (by decide) (fun hc => ?_) (fun hc => ?_)
    · have h := mm_iff hc h
      refine mm_iconst (pc := 193) (x := 0) dX12_isImage_193 rfl ?_
      exact h
    · have h := mm_ift hc h
      refine mm_aload_n (pc := 174) (j := 0) dX12_isImage_174 rfl rfl ?_
      refine mm_getR (pc := 175) (ci := 12) (N := 116) (r := 165) dX12_isImage_175 fX12_7 sh_164 rfl (g_164_0 hG) ?_
      refine mm_iconst (pc := 178) (x := 2) dX12_isImage_178 rfl ?_
      refine mm_iconst (pc := 179) (x := 3) dX12_isImage_179 rfl ?_
      refine mm_iload (pc := 180) (j := 4) dX12_isImage_180 rfl ?_
      refine mm_imul (pc := 182) dX12_isImage_182 ?_
      refine mm_iadd (pc := 183) dX12_isImage_183 ?_
      obtain ⟨hi184, h⟩ := h
      refine mm_iaload (pc := 184) (N := 1600) dX12_isImage_184 sh_165 hi184 ?_
      refine mm_iconst (pc := 185) (x := 1) dX12_isImage_185 rfl ?_
      refine mm_icmp_ne (pc := 186) (tgt := 193) dX12_isImage_186 (by decide) (fun hc => ?_) (fun hc => ?_)
      · have h := mm_iff hc h
        refine mm_iconst (pc := 193) (x := 0) dX12_isImage_193 rfl ?_
        exact h
      · have h := mm_ift hc h
        refine mm_iconst (pc := 189) (x := 1) dX12_isImage_189 rfl ?_
        refine mm_goto (pc := 190) (tgt := 194) dX12_isImage_190 (by decide) ?_
        exact h
set_option maxRecDepth 100000 in
set_option maxHeartbeats 4000000 in
theorem lX12_isImage_194 {d : Nat} {x1 : Int32} {M : mm_M} {K : Int32 → mm_M → Prop} {y2 : Int32} {y4 : Int32} {y5 : Int32} {y6 : Int32} {u0 : Int32} (hG : mm_G M.2.2) (h : vp_in y4 1600 ∧ if u0 = 0 then (if (M.1 165 y4.toNatClampNeg) ≤ 0 then (jX12_isImage_153 d x1 M K y2 (y4 + 1) y5 (y6 + 1)) else (K 0 M)) else (if (M.1 165 y4.toNatClampNeg) ≤ 99 then (jX12_isImage_153 d x1 M K y2 (y4 + 1) y5 (y6 + 1)) else (K 0 M))) : jX12_isImage_194 d x1 M K y2 y4 y5 y6 u0 := by
  unfold jX12_isImage_194
  refine mm_istore (pc := 194) (lv' := [(7, .int u0), (0, .ref 164), (2, .int y2), (4, .int y4), (5, .int y5), (6, .int y6)]) dX12_isImage_194 (by decide) rfl ?_
  refine mm_aload_n (pc := 196) (j := 1) dX12_isImage_196 rfl rfl ?_
  refine mm_getR (pc := 197) (ci := 12) (N := 116) (r := 165) dX12_isImage_197 fX12_7 sh_164 rfl (g_164_0 hG) ?_
  refine mm_iload (pc := 200) (j := 3) dX12_isImage_200 rfl ?_
  obtain ⟨hi202, h⟩ := h
  refine mm_iaload (pc := 202) (N := 1600) dX12_isImage_202 sh_165 hi202 ?_
  refine mm_iload (pc := 203) (j := 0) dX12_isImage_203 rfl ?_
  refine mm_if_eq (pc := 205) (tgt := 213) dX12_isImage_205 (by decide) (fun hc => ?_) (fun hc => ?_)
  · have h := mm_ift hc h
    refine mm_iconst (pc := 213) (x := 0) dX12_isImage_213 rfl ?_
    refine mm_icmp_le (pc := 214) (tgt := 219) dX12_isImage_214 (by decide) (fun hc => ?_) (fun hc => ?_)
    · have h := mm_ift hc h
      refine mm_iinc (pc := 219) (j := 3) (v := y4 + 1) (lv' := [(4, .int (y4 + 1)), (7, .int u0), (0, .ref 164), (2, .int y2), (5, .int y5), (6, .int y6)]) dX12_isImage_219 rfl rfl (by decide) rfl ?_
      refine mm_iinc (pc := 222) (j := 5) (v := y6 + 1) (lv' := [(6, .int (y6 + 1)), (4, .int (y4 + 1)), (7, .int u0), (0, .ref 164), (2, .int y2), (5, .int y5)]) dX12_isImage_222 rfl rfl (by decide) rfl ?_
      refine mm_goto (pc := 225) (tgt := 153) dX12_isImage_225 (by decide) ?_
      exact mm_sub [3, 4, 1, 5, 0] rfl h
    · have h := mm_iff hc h
      refine mm_iconst (pc := 217) (x := 0) dX12_isImage_217 rfl ?_
      exact mm_zret (pc := 218) dX12_isImage_218 rfl rfl (Nat.le_refl 0) (Nat.le_refl 0) ⟨_, rfl, rfl, hG, h⟩
  · have h := mm_iff hc h
    refine mm_bipush (pc := 208) (x := 99) dX12_isImage_208 rfl ?_
    refine mm_goto (pc := 210) (tgt := 214) dX12_isImage_210 (by decide) ?_
    refine mm_icmp_le (pc := 214) (tgt := 219) dX12_isImage_214 (by decide) (fun hc => ?_) (fun hc => ?_)
    · have h := mm_ift hc h
      refine mm_iinc (pc := 219) (j := 3) (v := y4 + 1) (lv' := [(4, .int (y4 + 1)), (7, .int u0), (0, .ref 164), (2, .int y2), (5, .int y5), (6, .int y6)]) dX12_isImage_219 rfl rfl (by decide) rfl ?_
      refine mm_iinc (pc := 222) (j := 5) (v := y6 + 1) (lv' := [(6, .int (y6 + 1)), (4, .int (y4 + 1)), (7, .int u0), (0, .ref 164), (2, .int y2), (5, .int y5)]) dX12_isImage_222 rfl rfl (by decide) rfl ?_
      refine mm_goto (pc := 225) (tgt := 153) dX12_isImage_225 (by decide) ?_
      exact mm_sub [3, 4, 1, 5, 0] rfl h
    · have h := mm_iff hc h
      refine mm_iconst (pc := 217) (x := 0) dX12_isImage_217 rfl ?_
      exact mm_zret (pc := 218) dX12_isImage_218 rfl rfl (Nat.le_refl 0) (Nat.le_refl 0) ⟨_, rfl, rfl, hG, h⟩
def jX12_on_60 (d : Nat) (M : mm_M) (K : Int32 → mm_M → Prop) (y2 : Int32) (y3 : Int32) : Prop := mm_W mX12_on (d + 1) 0 0 60 [(0, .ref 164), (2, .int y2), (3, .int y3)] [] mm_SH M 0 0 (mm_PI K)
def jX12_on_98 (d : Nat) (M : mm_M) (K : Int32 → mm_M → Prop) (y2 : Int32) (y3 : Int32) (y4 : Int32) : Prop := mm_W mX12_on (d + 1) 0 0 98 [(0, .ref 164), (2, .int y2), (3, .int y3), (4, .int y4)] [] mm_SH M 0 0 (mm_PI K)
def jX12_on_110 (d : Nat) (M : mm_M) (K : Int32 → mm_M → Prop) (y2 : Int32) (y3 : Int32) (y4 : Int32) (y5 : Int32) : Prop := mm_W mX12_on (d + 1) 0 0 110 [(0, .ref 164), (2, .int y2), (3, .int y3), (4, .int y4), (5, .int y5)] [] mm_SH M 0 0 (mm_PI K)
set_option maxRecDepth 100000 in
set_option maxHeartbeats 4000000 in
theorem rX12_on {d : Nat} {M : mm_M} {K : Int32 → mm_M → Prop} (hG : mm_G M.2.2) (h : mm_CI mX12_isImage d [.ref 164, .int (M.1 164 1)] (mm_uI M 164 1 0) (fun z12 m12 => if z12 = 0 then (K 0 (mm_uI m12 166 (5 : Int32).toNatClampNeg ((m12.1 166 (5 : Int32).toNatClampNeg) + 1))) else (mm_CI mX12_houseMany d [.ref 164] m12 (fun z31 m31 => jX12_on_60 d (mm_uI m31 199 (0 : Int32).toNatClampNeg ((256 * (m31.1 165 (0 : Int32).toNatClampNeg)) + (m31.1 165 (1 : Int32).toNatClampNeg))) K z31 0)))) : mm_CI mX12_on (d + 1) [.ref 164] M K := by
  show mm_W mX12_on (d + 1) 0 0 0 [(0, .ref 164)] [] mm_SH M 0 0 (mm_PI K)
  refine mm_aload_n (pc := 0) (j := 0) dX12_on_0 rfl rfl ?_
  refine mm_getI (pc := 1) (ci := 12) (N := 116) dX12_on_1 fX12_257 sh_164 rfl ?_
  refine mm_istore_n (pc := 4) (lv' := [(1, .int (M.1 164 1)), (0, .ref 164)]) dX12_on_4 rfl (by decide) rfl ?_
  refine mm_aload_n (pc := 5) (j := 1) dX12_on_5 rfl rfl ?_
  refine mm_iconst (pc := 6) (x := 0) dX12_on_6 rfl ?_
  refine mm_putI (pc := 7) (ci := 12) (N := 116) dX12_on_7 fX12_257 sh_164 (by decide +kernel) rfl rfl rfl ?_
  refine mm_aload_n (pc := 10) (j := 1) dX12_on_10 rfl rfl ?_
  refine mm_iload_n (pc := 11) (j := 0) dX12_on_11 rfl rfl ?_
  refine mm_kVI (pc := 12) [.int (M.1 164 1)] dX12_on_12 kX12_740 rfl sh_164 (Nat.le_of_ble_eq_true rfl) (Nat.le_of_ble_eq_true rfl) h (fun z12 m12 hG h => ?_)
  refine mm_if_ne (pc := 15) (tgt := 30) dX12_on_15 (by decide) (fun hc => ?_) (fun hc => ?_)
  · have h := mm_iff hc h
    refine mm_aload_n (pc := 30) (j := 1) dX12_on_30 rfl rfl ?_
    refine mm_kVI (pc := 31) [] dX12_on_31 kX12_412 rfl sh_164 (Nat.le_of_ble_eq_true rfl) (Nat.le_of_ble_eq_true rfl) h (fun z31 m31 hG h => ?_)
    refine mm_istore_n (pc := 34) (lv' := [(2, .int z31), (1, .int (M.1 164 1)), (0, .ref 164)]) dX12_on_34 rfl (by decide) rfl ?_
    refine mm_aload_n (pc := 35) (j := 2) dX12_on_35 rfl rfl ?_
    refine mm_getR (pc := 36) (ci := 12) (N := 116) (r := 199) dX12_on_36 fX12_118 sh_164 rfl (g_164_50 hG) ?_
    refine mm_iconst (pc := 39) (x := 0) dX12_on_39 rfl ?_
    refine mm_sipush (pc := 40) (x := 256) dX12_on_40 rfl ?_
    refine mm_aload_n (pc := 43) (j := 2) dX12_on_43 rfl rfl ?_
    refine mm_getR (pc := 44) (ci := 12) (N := 116) (r := 165) dX12_on_44 fX12_7 sh_164 rfl (g_164_0 hG) ?_
    refine mm_iconst (pc := 47) (x := 0) dX12_on_47 rfl ?_
    refine mm_iaload (pc := 48) (N := 1600) dX12_on_48 sh_165 (mm_vin (k := 0) rfl (by decide) (by decide)) ?_
    refine mm_imul (pc := 49) dX12_on_49 ?_
    refine mm_aload_n (pc := 50) (j := 2) dX12_on_50 rfl rfl ?_
    refine mm_getR (pc := 51) (ci := 12) (N := 116) (r := 165) dX12_on_51 fX12_7 sh_164 rfl (g_164_0 hG) ?_
    refine mm_iconst (pc := 54) (x := 1) dX12_on_54 rfl ?_
    refine mm_iaload (pc := 55) (N := 1600) dX12_on_55 sh_165 (mm_vin (k := 1) rfl (by decide) (by decide)) ?_
    refine mm_iadd (pc := 56) dX12_on_56 ?_
    refine mm_iastore (pc := 57) (N := 204) dX12_on_57 sh_199 (mm_vin (k := 0) rfl (by decide) (by decide)) ?_
    refine mm_iconst (pc := 58) (x := 0) dX12_on_58 rfl ?_
    refine mm_istore_n (pc := 59) (lv' := [(3, .int 0), (2, .int z31), (1, .int (M.1 164 1)), (0, .ref 164)]) dX12_on_59 rfl (by decide) rfl ?_
    exact mm_sub [3, 1, 0] rfl h
  · have h := mm_ift hc h
    refine mm_aload_n (pc := 18) (j := 1) dX12_on_18 rfl rfl ?_
    refine mm_getR (pc := 19) (ci := 12) (N := 116) (r := 166) dX12_on_19 fX12_17 sh_164 rfl (g_164_9 hG) ?_
    refine mm_iconst (pc := 22) (x := 5) dX12_on_22 rfl ?_
    refine mm_dup2 (pc := 23) dX12_on_23 rfl rfl ?_
    refine mm_iaload (pc := 24) (N := 6) dX12_on_24 sh_166 (mm_vin (k := 5) rfl (by decide) (by decide)) ?_
    refine mm_iconst (pc := 25) (x := 1) dX12_on_25 rfl ?_
    refine mm_iadd (pc := 26) dX12_on_26 ?_
    refine mm_iastore (pc := 27) (N := 6) dX12_on_27 sh_166 (mm_vin (k := 5) rfl (by decide) (by decide)) ?_
    refine mm_iconst (pc := 28) (x := 0) dX12_on_28 rfl ?_
    exact mm_zret (pc := 29) dX12_on_29 rfl rfl (Nat.le_refl 0) (Nat.le_refl 0) ⟨_, rfl, rfl, hG, h⟩
set_option maxRecDepth 100000 in
set_option maxHeartbeats 4000000 in
theorem lX12_on_60 {d : Nat} {M : mm_M} {K : Int32 → mm_M → Prop} {y2 : Int32} {y3 : Int32} (hG : mm_G M.2.2) (h : if (3 * y2) ≤ y3 then (jX12_on_98 d M K y2 (2 + (3 * y2)) 0) else (vp_in (2 + y3) 1600 ∧ vp_in (1 + y3) 204 ∧ jX12_on_60 d (mm_uI M 199 (1 + y3).toNatClampNeg (M.1 165 (2 + y3).toNatClampNeg)) K y2 (y3 + 1))) : jX12_on_60 d  M K y2 y3 := by
  unfold jX12_on_60
  refine mm_iload_n (pc := 60) (j := 2) dX12_on_60 rfl rfl ?_
  refine mm_iconst (pc := 61) (x := 3) dX12_on_61 rfl ?_
  refine mm_iload_n (pc := 62) (j := 1) dX12_on_62 rfl rfl ?_
  refine mm_imul (pc := 63) dX12_on_63 ?_
  refine mm_icmp_ge (pc := 64) (tgt := 89) dX12_on_64 (by decide) (fun hc => ?_) (fun hc => ?_)
  · have h := mm_ift hc h
    refine mm_iconst (pc := 89) (x := 2) dX12_on_89 rfl ?_
    refine mm_iconst (pc := 90) (x := 3) dX12_on_90 rfl ?_
    refine mm_iload_n (pc := 91) (j := 1) dX12_on_91 rfl rfl ?_
    refine mm_imul (pc := 92) dX12_on_92 ?_
    refine mm_iadd (pc := 93) dX12_on_93 ?_
    refine mm_istore_n (pc := 94) (lv' := [(3, .int (2 + (3 * y2))), (0, .ref 164), (2, .int y2)]) dX12_on_94 rfl (by decide) rfl ?_
    refine mm_iconst (pc := 95) (x := 0) dX12_on_95 rfl ?_
    refine mm_istore (pc := 96) (lv' := [(4, .int 0), (3, .int (2 + (3 * y2))), (0, .ref 164), (2, .int y2)]) dX12_on_96 (by decide) rfl ?_
    exact mm_sub [2, 3, 1, 0] rfl h
  · have h := mm_iff hc h
    refine mm_aload_n (pc := 67) (j := 0) dX12_on_67 rfl rfl ?_
    refine mm_getR (pc := 68) (ci := 12) (N := 116) (r := 199) dX12_on_68 fX12_118 sh_164 rfl (g_164_50 hG) ?_
    refine mm_iconst (pc := 71) (x := 1) dX12_on_71 rfl ?_
    refine mm_iload_n (pc := 72) (j := 2) dX12_on_72 rfl rfl ?_
    refine mm_iadd (pc := 73) dX12_on_73 ?_
    refine mm_aload_n (pc := 74) (j := 0) dX12_on_74 rfl rfl ?_
    refine mm_getR (pc := 75) (ci := 12) (N := 116) (r := 165) dX12_on_75 fX12_7 sh_164 rfl (g_164_0 hG) ?_
    refine mm_iconst (pc := 78) (x := 2) dX12_on_78 rfl ?_
    refine mm_iload_n (pc := 79) (j := 2) dX12_on_79 rfl rfl ?_
    refine mm_iadd (pc := 80) dX12_on_80 ?_
    obtain ⟨hi81, h⟩ := h
    refine mm_iaload (pc := 81) (N := 1600) dX12_on_81 sh_165 hi81 ?_
    obtain ⟨hi82, h⟩ := h
    refine mm_iastore (pc := 82) (N := 204) dX12_on_82 sh_199 hi82 ?_
    refine mm_iinc (pc := 83) (j := 2) (v := y3 + 1) (lv' := [(3, .int (y3 + 1)), (0, .ref 164), (2, .int y2)]) dX12_on_83 rfl rfl (by decide) rfl ?_
    refine mm_goto (pc := 86) (tgt := 60) dX12_on_86 (by decide) ?_
    exact mm_sub [1, 2, 0] rfl h
set_option maxRecDepth 100000 in
set_option maxHeartbeats 4000000 in
theorem lX12_on_98 {d : Nat} {M : mm_M} {K : Int32 → mm_M → Prop} {y2 : Int32} {y3 : Int32} {y4 : Int32} (hG : mm_G M.2.2) (h : if y2 ≤ y4 then (K 1 (mm_uI (mm_uI M 199 (43 : Int32).toNatClampNeg 0) 164 79 0)) else (jX12_on_110 d M K y2 y3 y4 (y4 + 1))) : jX12_on_98 d  M K y2 y3 y4 := by
  unfold jX12_on_98
  refine mm_iload (pc := 98) (j := 3) dX12_on_98 rfl ?_
  refine mm_iload_n (pc := 100) (j := 1) dX12_on_100 rfl rfl ?_
  refine mm_icmp_ge (pc := 101) (tgt := 152) dX12_on_101 (by decide) (fun hc => ?_) (fun hc => ?_)
  · have h := mm_ift hc h
    refine mm_aload_n (pc := 152) (j := 0) dX12_on_152 rfl rfl ?_
    refine mm_getR (pc := 153) (ci := 12) (N := 116) (r := 199) dX12_on_153 fX12_118 sh_164 rfl (g_164_50 hG) ?_
    refine mm_bipush (pc := 156) (x := 43) dX12_on_156 rfl ?_
    refine mm_iconst (pc := 158) (x := 0) dX12_on_158 rfl ?_
    refine mm_iastore (pc := 159) (N := 204) dX12_on_159 sh_199 (mm_vin (k := 43) rfl (by decide) (by decide)) ?_
    refine mm_aload_n (pc := 160) (j := 0) dX12_on_160 rfl rfl ?_
    refine mm_iconst (pc := 161) (x := 0) dX12_on_161 rfl ?_
    refine mm_putI (pc := 162) (ci := 12) (N := 116) dX12_on_162 fX12_406 sh_164 (by decide +kernel) rfl rfl rfl ?_
    refine mm_iconst (pc := 165) (x := 1) dX12_on_165 rfl ?_
    exact mm_zret (pc := 166) dX12_on_166 rfl rfl (Nat.le_refl 0) (Nat.le_refl 0) ⟨_, rfl, rfl, hG, h⟩
  · have h := mm_iff hc h
    refine mm_iload (pc := 104) (j := 3) dX12_on_104 rfl ?_
    refine mm_iconst (pc := 106) (x := 1) dX12_on_106 rfl ?_
    refine mm_iadd (pc := 107) dX12_on_107 ?_
    refine mm_istore (pc := 108) (lv' := [(5, .int (y4 + 1)), (0, .ref 164), (2, .int y2), (3, .int y3), (4, .int y4)]) dX12_on_108 (by decide) rfl ?_
    exact mm_sub [1, 2, 3, 4, 0] rfl h
set_option maxRecDepth 100000 in
set_option maxHeartbeats 4000000 in
theorem lX12_on_110 {d : Nat} {M : mm_M} {K : Int32 → mm_M → Prop} {y2 : Int32} {y3 : Int32} {y4 : Int32} {y5 : Int32} (hG : mm_G M.2.2) (h : if y2 ≤ y5 then (jX12_on_98 d M K y2 y3 (y4 + 1)) else (mm_CI mX12_pairOf d [.int y4, .int y5] M (fun z126 m126 => vp_in y3 1600 ∧ vp_in (22 + z126) 204 ∧ jX12_on_110 d (mm_uI m126 199 (22 + z126).toNatClampNeg (m126.1 165 y3.toNatClampNeg)) K y2 (y3 + 1) y4 (y5 + 1)))) : jX12_on_110 d  M K y2 y3 y4 y5 := by
  unfold jX12_on_110
  refine mm_iload (pc := 110) (j := 4) dX12_on_110 rfl ?_
  refine mm_iload_n (pc := 112) (j := 1) dX12_on_112 rfl rfl ?_
  refine mm_icmp_ge (pc := 113) (tgt := 146) dX12_on_113 (by decide) (fun hc => ?_) (fun hc => ?_)
  · have h := mm_ift hc h
    refine mm_iinc (pc := 146) (j := 3) (v := y4 + 1) (lv' := [(4, .int (y4 + 1)), (0, .ref 164), (2, .int y2), (3, .int y3), (5, .int y5)]) dX12_on_146 rfl rfl (by decide) rfl ?_
    refine mm_goto (pc := 149) (tgt := 98) dX12_on_149 (by decide) ?_
    exact mm_sub [1, 2, 3, 0] rfl h
  · have h := mm_iff hc h
    refine mm_aload_n (pc := 116) (j := 0) dX12_on_116 rfl rfl ?_
    refine mm_getR (pc := 117) (ci := 12) (N := 116) (r := 199) dX12_on_117 fX12_118 sh_164 rfl (g_164_50 hG) ?_
    refine mm_bipush (pc := 120) (x := 22) dX12_on_120 rfl ?_
    refine mm_iload (pc := 122) (j := 3) dX12_on_122 rfl ?_
    refine mm_iload (pc := 124) (j := 4) dX12_on_124 rfl ?_
    refine mm_kSI (pc := 126) [.int y4, .int y5] dX12_on_126 kX12_347 rfl (Nat.le_of_ble_eq_true rfl) (Nat.le_of_ble_eq_true rfl) h (fun z126 m126 hG h => ?_)
    refine mm_iadd (pc := 129) dX12_on_129 ?_
    refine mm_aload_n (pc := 130) (j := 0) dX12_on_130 rfl rfl ?_
    refine mm_getR (pc := 131) (ci := 12) (N := 116) (r := 165) dX12_on_131 fX12_7 sh_164 rfl (g_164_0 hG) ?_
    refine mm_iload_n (pc := 134) (j := 2) dX12_on_134 rfl rfl ?_
    obtain ⟨hi135, h⟩ := h
    refine mm_iaload (pc := 135) (N := 1600) dX12_on_135 sh_165 hi135 ?_
    obtain ⟨hi136, h⟩ := h
    refine mm_iastore (pc := 136) (N := 204) dX12_on_136 sh_199 hi136 ?_
    refine mm_iinc (pc := 137) (j := 2) (v := y3 + 1) (lv' := [(3, .int (y3 + 1)), (0, .ref 164), (2, .int y2), (4, .int y4), (5, .int y5)]) dX12_on_137 rfl rfl (by decide) rfl ?_
    refine mm_iinc (pc := 140) (j := 4) (v := y5 + 1) (lv' := [(5, .int (y5 + 1)), (3, .int (y3 + 1)), (0, .ref 164), (2, .int y2), (4, .int y4)]) dX12_on_140 rfl rfl (by decide) rfl ?_
    refine mm_goto (pc := 143) (tgt := 110) dX12_on_143 (by decide) ?_
    exact mm_sub [2, 3, 1, 4, 0] rfl h
set_option maxRecDepth 100000 in
set_option maxHeartbeats 4000000 in
theorem rX12_status {d : Nat} {x1 : Int32} {M : mm_M} {K : Int32 → mm_M → Prop} (hG : mm_G M.2.2) (h : mm_CI mX12_isIn d [.long x1.toInt64, .long 0, .long 5] M (fun z6 m6 => if z6 = 0 then (K (-1) m6) else (vp_in x1 6 ∧ K (m6.1 166 x1.toNatClampNeg) m6))) : mm_CI mX12_status (d + 1) [.ref 164, .int x1] M K := by
  show mm_W mX12_status (d + 1) 0 0 0 [(0, .ref 164), (1, .int x1)] [] mm_SH M 0 0 (mm_PI K)
  refine mm_iload_n (pc := 0) (j := 1) dX12_status_0 rfl rfl ?_
  refine mm_i2l (pc := 1) dX12_status_1 ?_
  refine mm_lconst (pc := 2) (x := 0) dX12_status_2 rfl ?_
  refine mm_ldc2 (pc := 3) (x := 5) dX12_status_3 cX12_323 ?_
  refine mm_kSI (pc := 6) [.long x1.toInt64, .long 0, .long 5] dX12_status_6 kX12_303 rfl (Nat.le_of_ble_eq_true rfl) (Nat.le_of_ble_eq_true rfl) h (fun z6 m6 hG h => ?_)
  refine mm_if_eq (pc := 9) (tgt := 21) dX12_status_9 (by decide) (fun hc => ?_) (fun hc => ?_)
  · have h := mm_ift hc h
    refine mm_iconst (pc := 21) (x := (-1)) dX12_status_21 rfl ?_
    exact mm_iret (pc := 22) dX12_status_22 rfl (Nat.le_refl 0) (Nat.le_refl 0) ⟨_, rfl, rfl, hG, h⟩
  · have h := mm_iff hc h
    refine mm_aload_n (pc := 12) (j := 0) dX12_status_12 rfl rfl ?_
    refine mm_getR (pc := 13) (ci := 12) (N := 116) (r := 166) dX12_status_13 fX12_17 sh_164 rfl (g_164_9 hG) ?_
    refine mm_iload_n (pc := 16) (j := 1) dX12_status_16 rfl rfl ?_
    obtain ⟨hi17, h⟩ := h
    refine mm_iaload (pc := 17) (N := 6) dX12_status_17 sh_166 hi17 ?_
    refine mm_goto (pc := 18) (tgt := 22) dX12_status_18 (by decide) ?_
    exact mm_iret (pc := 22) dX12_status_22 rfl (Nat.le_refl 0) (Nat.le_refl 0) ⟨_, rfl, rfl, hG, h⟩
