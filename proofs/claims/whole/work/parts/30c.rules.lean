set_option maxRecDepth 100000 in
set_option maxHeartbeats 4000000 in
theorem rX12_canServe {d : Nat} {x1 : Int32} {x2 : Int32} {M : mm_M} {K : Int32 → mm_M → Prop} (hG : mm_G M.2.2) (h : if x1 = x2 then (K 0 M) else (mm_CI mX12_isThere d [.ref 164, .int x1] M (fun z7 m7 => if z7 = 0 then (K 0 m7) else (mm_CI mX12_flourOf d [.ref 164, .int x1] m7 (fun z15 m15 => if (m15.1 191 (2 : Int32).toNatClampNeg) ≤ z15 then (mm_CI mX12_areEnemies d [.ref 164, .int x1, .int x2] m15 (fun z32 m32 => if z32 = 0 then (mm_CI mX12_pairOf d [.int x1, .int x2] m32 (fun z44 m44 => if (((m32.1 164 66) >>> (z44 &&& 31)) &&& 1) = 1 then (K 1 m44) else (K 0 m44))) else (K 1 m32))) else (K 0 m15)))))) : mm_CI mX12_canServe (d + 1) [.ref 164, .int x1, .int x2] M K := by
  show mm_W mX12_canServe (d + 1) 0 0 0 [(0, .ref 164), (1, .int x1), (2, .int x2)] [] mm_SH M 0 0 (mm_PI K)
  refine mm_iload_n (pc := 0) (j := 1) dX12_canServe_0 rfl rfl ?_
  refine mm_iload_n (pc := 1) (j := 2) dX12_canServe_1 rfl rfl ?_
  refine mm_icmp_eq (pc := 2) (tgt := 27) dX12_canServe_2 (by decide) (fun hc => ?_) (fun hc => ?_)
  · have h := mm_ift hc h
    refine mm_iconst (pc := 27) (x := 0) dX12_canServe_27 rfl ?_
    exact mm_zret (pc := 28) dX12_canServe_28 rfl rfl (Nat.le_refl 0) (Nat.le_refl 0) ⟨_, rfl, rfl, hG, h⟩
  · have h := mm_iff hc h
    refine mm_aload_n (pc := 5) (j := 0) dX12_canServe_5 rfl rfl ?_
    refine mm_iload_n (pc := 6) (j := 1) dX12_canServe_6 rfl rfl ?_
    refine mm_kVI (pc := 7) [.int x1] dX12_canServe_7 kX12_462 rfl sh_164 (Nat.le_of_ble_eq_true rfl) (Nat.le_of_ble_eq_true rfl) h (fun z7 m7 hG h => ?_)
    refine mm_if_eq (pc := 10) (tgt := 27) dX12_canServe_10 (by decide) (fun hc => ?_) (fun hc => ?_)
    · have h := mm_ift hc h
      refine mm_iconst (pc := 27) (x := 0) dX12_canServe_27 rfl ?_
      exact mm_zret (pc := 28) dX12_canServe_28 rfl rfl (Nat.le_refl 0) (Nat.le_refl 0) ⟨_, rfl, rfl, hG, h⟩
    · have h := mm_iff hc h
      refine mm_aload_n (pc := 13) (j := 0) dX12_canServe_13 rfl rfl ?_
      refine mm_iload_n (pc := 14) (j := 1) dX12_canServe_14 rfl rfl ?_
      refine mm_kVI (pc := 15) [.int x1] dX12_canServe_15 kX12_465 rfl sh_164 (Nat.le_of_ble_eq_true rfl) (Nat.le_of_ble_eq_true rfl) h (fun z15 m15 hG h => ?_)
      refine mm_aload_n (pc := 18) (j := 0) dX12_canServe_18 rfl rfl ?_
      refine mm_getR (pc := 19) (ci := 12) (N := 116) (r := 191) dX12_canServe_19 fX12_93 sh_164 rfl (g_164_36 hG) ?_
      refine mm_iconst (pc := 22) (x := 2) dX12_canServe_22 rfl ?_
      refine mm_iaload (pc := 23) (N := 4) dX12_canServe_23 sh_191 (mm_vin (k := 2) rfl (by decide) (by decide)) ?_
      refine mm_icmp_ge (pc := 24) (tgt := 29) dX12_canServe_24 (by decide) (fun hc => ?_) (fun hc => ?_)
      · have h := mm_ift hc h
        refine mm_aload_n (pc := 29) (j := 0) dX12_canServe_29 rfl rfl ?_
        refine mm_iload_n (pc := 30) (j := 1) dX12_canServe_30 rfl rfl ?_
        refine mm_iload_n (pc := 31) (j := 2) dX12_canServe_31 rfl rfl ?_
        refine mm_kVI (pc := 32) [.int x1, .int x2] dX12_canServe_32 kX12_418 rfl sh_164 (Nat.le_of_ble_eq_true rfl) (Nat.le_of_ble_eq_true rfl) h (fun z32 m32 hG h => ?_)
        refine mm_if_ne (pc := 35) (tgt := 54) dX12_canServe_35 (by decide) (fun hc => ?_) (fun hc => ?_)
        · have h := mm_iff hc h
          refine mm_iconst (pc := 54) (x := 1) dX12_canServe_54 rfl ?_
          refine mm_goto (pc := 55) (tgt := 59) dX12_canServe_55 (by decide) ?_
          exact mm_zret (pc := 59) dX12_canServe_59 rfl rfl (Nat.le_refl 0) (Nat.le_refl 0) ⟨_, rfl, rfl, hG, h⟩
        · have h := mm_ift hc h
          refine mm_aload_n (pc := 38) (j := 0) dX12_canServe_38 rfl rfl ?_
          refine mm_getI (pc := 39) (ci := 12) (N := 116) dX12_canServe_39 fX12_559 sh_164 rfl ?_
          refine mm_iload_n (pc := 42) (j := 1) dX12_canServe_42 rfl rfl ?_
          refine mm_iload_n (pc := 43) (j := 2) dX12_canServe_43 rfl rfl ?_
          refine mm_kSI (pc := 44) [.int x1, .int x2] dX12_canServe_44 kX12_347 rfl (Nat.le_of_ble_eq_true rfl) (Nat.le_of_ble_eq_true rfl) h (fun z44 m44 hG h => ?_)
          refine mm_ishr (pc := 47) dX12_canServe_47 ?_
          refine mm_iconst (pc := 48) (x := 1) dX12_canServe_48 rfl ?_
          refine mm_iand (pc := 49) dX12_canServe_49 ?_
          refine mm_iconst (pc := 50) (x := 1) dX12_canServe_50 rfl ?_
          refine mm_icmp_ne (pc := 51) (tgt := 58) dX12_canServe_51 (by decide) (fun hc => ?_) (fun hc => ?_)
          · have h := mm_iff hc h
            refine mm_iconst (pc := 58) (x := 0) dX12_canServe_58 rfl ?_
            exact mm_zret (pc := 59) dX12_canServe_59 rfl rfl (Nat.le_refl 0) (Nat.le_refl 0) ⟨_, rfl, rfl, hG, h⟩
          · have h := mm_ift hc h
            refine mm_iconst (pc := 54) (x := 1) dX12_canServe_54 rfl ?_
            refine mm_goto (pc := 55) (tgt := 59) dX12_canServe_55 (by decide) ?_
            exact mm_zret (pc := 59) dX12_canServe_59 rfl rfl (Nat.le_refl 0) (Nat.le_refl 0) ⟨_, rfl, rfl, hG, h⟩
      · have h := mm_iff hc h
        refine mm_iconst (pc := 27) (x := 0) dX12_canServe_27 rfl ?_
        exact mm_zret (pc := 28) dX12_canServe_28 rfl rfl (Nat.le_refl 0) (Nat.le_refl 0) ⟨_, rfl, rfl, hG, h⟩
set_option maxRecDepth 100000 in
set_option maxHeartbeats 4000000 in
theorem rX12_manyBy {d : Nat} {x1 : Int32} {x2 : Int32} {x3 : Int32} {M : mm_M} {K : Int32 → mm_M → Prop} (hG : mm_G M.2.2) (h : if x3 = (-1) then (vp_in ((128 * (x1 + 1)) + x2) 1024 ∧ K (M.1 205 ((128 * (x1 + 1)) + x2).toNatClampNeg) M) else (mm_CI mX12_isThere d [.ref 164, .int x1] M (fun z22 m22 => if z22 = 0 then (K (-1) m22) else (if ((x2 >>> (x3 &&& 31)) &&& 1) = 1 then (K (-1) m22) else (mm_CI mX12_canServe d [.ref 164, .int x3, .int x1] m22 (fun z40 m40 => if z40 = 0 then (K (-1) m40) else (vp_in ((128 * (x1 + 1)) + (x2 ||| ((1 : Int32) <<< (x3 &&& 31)))) 1024 ∧ K (1 + (m40.1 205 ((128 * (x1 + 1)) + (x2 ||| ((1 : Int32) <<< (x3 &&& 31)))).toNatClampNeg)) m40))))))) : mm_CI mX12_manyBy (d + 1) [.ref 164, .int x1, .int x2, .int x3] M K := by
  show mm_W mX12_manyBy (d + 1) 0 0 0 [(0, .ref 164), (1, .int x1), (2, .int x2), (3, .int x3)] [] mm_SH M 0 0 (mm_PI K)
  refine mm_iload_n (pc := 0) (j := 3) dX12_manyBy_0 rfl rfl ?_
  refine mm_iconst (pc := 1) (x := (-1)) dX12_manyBy_1 rfl ?_
  refine mm_icmp_ne (pc := 2) (tgt := 20) dX12_manyBy_2 (by decide) (fun hc => ?_) (fun hc => ?_)
  · have h := mm_iff hc h
    refine mm_aload_n (pc := 20) (j := 0) dX12_manyBy_20 rfl rfl ?_
    refine mm_iload_n (pc := 21) (j := 1) dX12_manyBy_21 rfl rfl ?_
    refine mm_kVI (pc := 22) [.int x1] dX12_manyBy_22 kX12_462 rfl sh_164 (Nat.le_of_ble_eq_true rfl) (Nat.le_of_ble_eq_true rfl) h (fun z22 m22 hG h => ?_)
    refine mm_if_eq (pc := 25) (tgt := 46) dX12_manyBy_25 (by decide) (fun hc => ?_) (fun hc => ?_)
    · have h := mm_ift hc h
      refine mm_iconst (pc := 46) (x := (-1)) dX12_manyBy_46 rfl ?_
      exact mm_iret (pc := 47) dX12_manyBy_47 rfl (Nat.le_refl 0) (Nat.le_refl 0) ⟨_, rfl, rfl, hG, h⟩
    · have h := mm_iff hc h
      refine mm_iload_n (pc := 28) (j := 2) dX12_manyBy_28 rfl rfl ?_
      refine mm_iload_n (pc := 29) (j := 3) dX12_manyBy_29 rfl rfl ?_
      refine mm_ishr (pc := 30) dX12_manyBy_30 ?_
      refine mm_iconst (pc := 31) (x := 1) dX12_manyBy_31 rfl ?_
      refine mm_iand (pc := 32) dX12_manyBy_32 ?_
      refine mm_iconst (pc := 33) (x := 1) dX12_manyBy_33 rfl ?_
      refine mm_icmp_eq (pc := 34) (tgt := 46) dX12_manyBy_34 (by decide) (fun hc => ?_) (fun hc => ?_)
      · have h := mm_ift hc h
        refine mm_iconst (pc := 46) (x := (-1)) dX12_manyBy_46 rfl ?_
        exact mm_iret (pc := 47) dX12_manyBy_47 rfl (Nat.le_refl 0) (Nat.le_refl 0) ⟨_, rfl, rfl, hG, h⟩
      · have h := mm_iff hc h
        refine mm_aload_n (pc := 37) (j := 0) dX12_manyBy_37 rfl rfl ?_
        refine mm_iload_n (pc := 38) (j := 3) dX12_manyBy_38 rfl rfl ?_
        refine mm_iload_n (pc := 39) (j := 1) dX12_manyBy_39 rfl rfl ?_
        refine mm_kVI (pc := 40) [.int x3, .int x1] dX12_manyBy_40 kX12_562 rfl sh_164 (Nat.le_of_ble_eq_true rfl) (Nat.le_of_ble_eq_true rfl) h (fun z40 m40 hG h => ?_)
        refine mm_if_ne (pc := 43) (tgt := 48) dX12_manyBy_43 (by decide) (fun hc => ?_) (fun hc => ?_)
        · have h := mm_iff hc h
          refine mm_iconst (pc := 48) (x := 1) dX12_manyBy_48 rfl ?_
          refine mm_aload_n (pc := 49) (j := 0) dX12_manyBy_49 rfl rfl ?_
          refine mm_getR (pc := 50) (ci := 12) (N := 116) (r := 205) dX12_manyBy_50 fX12_136 sh_164 rfl (g_164_64 hG) ?_
          refine mm_sipush (pc := 53) (x := 128) dX12_manyBy_53 rfl ?_
          refine mm_iload_n (pc := 56) (j := 1) dX12_manyBy_56 rfl rfl ?_
          refine mm_iconst (pc := 57) (x := 1) dX12_manyBy_57 rfl ?_
          refine mm_iadd (pc := 58) dX12_manyBy_58 ?_
          refine mm_imul (pc := 59) dX12_manyBy_59 ?_
          refine mm_iload_n (pc := 60) (j := 2) dX12_manyBy_60 rfl rfl ?_
          refine mm_iconst (pc := 61) (x := 1) dX12_manyBy_61 rfl ?_
          refine mm_iload_n (pc := 62) (j := 3) dX12_manyBy_62 rfl rfl ?_
          refine mm_ishl (pc := 63) dX12_manyBy_63 ?_
          refine mm_ior (pc := 64) dX12_manyBy_64 ?_
          refine mm_iadd (pc := 65) dX12_manyBy_65 ?_
          obtain ⟨hi66, h⟩ := h
          refine mm_iaload (pc := 66) (N := 1024) dX12_manyBy_66 sh_205 hi66 ?_
          refine mm_iadd (pc := 67) dX12_manyBy_67 ?_
          exact mm_iret (pc := 68) dX12_manyBy_68 rfl (Nat.le_refl 0) (Nat.le_refl 0) ⟨_, rfl, rfl, hG, h⟩
        · have h := mm_ift hc h
          refine mm_iconst (pc := 46) (x := (-1)) dX12_manyBy_46 rfl ?_
          exact mm_iret (pc := 47) dX12_manyBy_47 rfl (Nat.le_refl 0) (Nat.le_refl 0) ⟨_, rfl, rfl, hG, h⟩
  · have h := mm_ift hc h
    refine mm_aload_n (pc := 5) (j := 0) dX12_manyBy_5 rfl rfl ?_
    refine mm_getR (pc := 6) (ci := 12) (N := 116) (r := 205) dX12_manyBy_6 fX12_136 sh_164 rfl (g_164_64 hG) ?_
    refine mm_sipush (pc := 9) (x := 128) dX12_manyBy_9 rfl ?_
    refine mm_iload_n (pc := 12) (j := 1) dX12_manyBy_12 rfl rfl ?_
    refine mm_iconst (pc := 13) (x := 1) dX12_manyBy_13 rfl ?_
    refine mm_iadd (pc := 14) dX12_manyBy_14 ?_
    refine mm_imul (pc := 15) dX12_manyBy_15 ?_
    refine mm_iload_n (pc := 16) (j := 2) dX12_manyBy_16 rfl rfl ?_
    refine mm_iadd (pc := 17) dX12_manyBy_17 ?_
    obtain ⟨hi18, h⟩ := h
    refine mm_iaload (pc := 18) (N := 1024) dX12_manyBy_18 sh_205 hi18 ?_
    exact mm_iret (pc := 19) dX12_manyBy_19 rfl (Nat.le_refl 0) (Nat.le_refl 0) ⟨_, rfl, rfl, hG, h⟩
set_option maxRecDepth 100000 in
set_option maxHeartbeats 4000000 in
theorem rX12_hateBy {d : Nat} {x1 : Int32} {x2 : Int32} {x3 : Int32} {M : mm_M} {K : Int32 → mm_M → Prop} (hG : mm_G M.2.2) (h : if x3 = (-1) then (vp_in ((128 * (x1 + 1)) + x2) 1024 ∧ K (M.1 206 ((128 * (x1 + 1)) + x2).toNatClampNeg) M) else (mm_CI mX12_hateOf d [.ref 164, .int x3, .int x1] M (fun z25 m25 => vp_in ((128 * (x1 + 1)) + (x2 ||| ((1 : Int32) <<< (x3 &&& 31)))) 1024 ∧ K (z25 + (m25.1 206 ((128 * (x1 + 1)) + (x2 ||| ((1 : Int32) <<< (x3 &&& 31)))).toNatClampNeg)) m25))) : mm_CI mX12_hateBy (d + 1) [.ref 164, .int x1, .int x2, .int x3] M K := by
  show mm_W mX12_hateBy (d + 1) 0 0 0 [(0, .ref 164), (1, .int x1), (2, .int x2), (3, .int x3)] [] mm_SH M 0 0 (mm_PI K)
  refine mm_iload_n (pc := 0) (j := 3) dX12_hateBy_0 rfl rfl ?_
  refine mm_iconst (pc := 1) (x := (-1)) dX12_hateBy_1 rfl ?_
  refine mm_icmp_ne (pc := 2) (tgt := 22) dX12_hateBy_2 (by decide) (fun hc => ?_) (fun hc => ?_)
  · have h := mm_iff hc h
    refine mm_aload_n (pc := 22) (j := 0) dX12_hateBy_22 rfl rfl ?_
    refine mm_iload_n (pc := 23) (j := 3) dX12_hateBy_23 rfl rfl ?_
    refine mm_iload_n (pc := 24) (j := 1) dX12_hateBy_24 rfl rfl ?_
    refine mm_kVI (pc := 25) [.int x3, .int x1] dX12_hateBy_25 kX12_415 rfl sh_164 (Nat.le_of_ble_eq_true rfl) (Nat.le_of_ble_eq_true rfl) h (fun z25 m25 hG h => ?_)
    refine mm_aload_n (pc := 28) (j := 0) dX12_hateBy_28 rfl rfl ?_
    refine mm_getR (pc := 29) (ci := 12) (N := 116) (r := 206) dX12_hateBy_29 fX12_139 sh_164 rfl (g_164_65 hG) ?_
    refine mm_sipush (pc := 32) (x := 128) dX12_hateBy_32 rfl ?_
    refine mm_iload_n (pc := 35) (j := 1) dX12_hateBy_35 rfl rfl ?_
    refine mm_iconst (pc := 36) (x := 1) dX12_hateBy_36 rfl ?_
    refine mm_iadd (pc := 37) dX12_hateBy_37 ?_
    refine mm_imul (pc := 38) dX12_hateBy_38 ?_
    refine mm_iload_n (pc := 39) (j := 2) dX12_hateBy_39 rfl rfl ?_
    refine mm_iconst (pc := 40) (x := 1) dX12_hateBy_40 rfl ?_
    refine mm_iload_n (pc := 41) (j := 3) dX12_hateBy_41 rfl rfl ?_
    refine mm_ishl (pc := 42) dX12_hateBy_42 ?_
    refine mm_ior (pc := 43) dX12_hateBy_43 ?_
    refine mm_iadd (pc := 44) dX12_hateBy_44 ?_
    obtain ⟨hi45, h⟩ := h
    refine mm_iaload (pc := 45) (N := 1024) dX12_hateBy_45 sh_206 hi45 ?_
    refine mm_iadd (pc := 46) dX12_hateBy_46 ?_
    exact mm_iret (pc := 47) dX12_hateBy_47 rfl (Nat.le_refl 0) (Nat.le_refl 0) ⟨_, rfl, rfl, hG, h⟩
  · have h := mm_ift hc h
    refine mm_aload_n (pc := 5) (j := 0) dX12_hateBy_5 rfl rfl ?_
    refine mm_getR (pc := 6) (ci := 12) (N := 116) (r := 206) dX12_hateBy_6 fX12_139 sh_164 rfl (g_164_65 hG) ?_
    refine mm_sipush (pc := 9) (x := 128) dX12_hateBy_9 rfl ?_
    refine mm_iload_n (pc := 12) (j := 1) dX12_hateBy_12 rfl rfl ?_
    refine mm_iconst (pc := 13) (x := 1) dX12_hateBy_13 rfl ?_
    refine mm_iadd (pc := 14) dX12_hateBy_14 ?_
    refine mm_imul (pc := 15) dX12_hateBy_15 ?_
    refine mm_iload_n (pc := 16) (j := 2) dX12_hateBy_16 rfl rfl ?_
    refine mm_iadd (pc := 17) dX12_hateBy_17 ?_
    obtain ⟨hi18, h⟩ := h
    refine mm_iaload (pc := 18) (N := 1024) dX12_hateBy_18 sh_206 hi18 ?_
    refine mm_goto (pc := 19) (tgt := 47) dX12_hateBy_19 (by decide) ?_
    exact mm_iret (pc := 47) dX12_hateBy_47 rfl (Nat.le_refl 0) (Nat.le_refl 0) ⟨_, rfl, rfl, hG, h⟩
def jX12_laysTable_2 (d : Nat) (M : mm_M) (K : mm_M → Prop) (y1 : Int32) : Prop := mm_W mX12_laysTable (d + 1) 0 0 2 [(0, .ref 164), (1, .int y1)] [] mm_SH M 0 0 (mm_PV K)
def jX12_laysTable_36 (d : Nat) (M : mm_M) (K : mm_M → Prop) (y1 : Int32) : Prop := mm_W mX12_laysTable (d + 1) 0 0 36 [(0, .ref 164), (1, .int y1)] [] mm_SH M 0 0 (mm_PV K)
def jX12_laysTable_42 (d : Nat) (M : mm_M) (K : mm_M → Prop) (y1 : Int32) (y2 : Int32) : Prop := mm_W mX12_laysTable (d + 1) 0 0 42 [(0, .ref 164), (1, .int y1), (2, .int y2)] [] mm_SH M 0 0 (mm_PV K)
def jX12_laysTable_57 (d : Nat) (M : mm_M) (K : mm_M → Prop) (y1 : Int32) (y2 : Int32) (y3 : Int32) (y4 : Int32) (y5 : Int32) : Prop := mm_W mX12_laysTable (d + 1) 0 0 57 [(0, .ref 164), (1, .int y1), (2, .int y2), (3, .int y3), (4, .int y4), (5, .int y5)] [] mm_SH M 0 0 (mm_PV K)
set_option maxRecDepth 100000 in
set_option maxHeartbeats 4000000 in
theorem rX12_laysTable {d : Nat} {M : mm_M} {K : mm_M → Prop} (hG : mm_G M.2.2) (h : jX12_laysTable_2 d M K 0) : mm_CV mX12_laysTable (d + 1) [.ref 164] M K := by
  show mm_W mX12_laysTable (d + 1) 0 0 0 [(0, .ref 164)] [] mm_SH M 0 0 (mm_PV K)
  refine mm_iconst (pc := 0) (x := 0) dX12_laysTable_0 rfl ?_
  refine mm_istore_n (pc := 1) (lv' := [(1, .int 0), (0, .ref 164)]) dX12_laysTable_1 rfl (by decide) rfl ?_
  exact mm_sub [1, 0] rfl h
set_option maxRecDepth 100000 in
set_option maxHeartbeats 4000000 in
theorem lX12_laysTable_2 {d : Nat} {M : mm_M} {K : mm_M → Prop} {y1 : Int32} (hG : mm_G M.2.2) (h : if 1024 ≤ y1 then (mm_CI mX12_houseMany d [.ref 164] M (fun z30 m30 => jX12_laysTable_36 d m30 K (z30 - 1))) else (vp_in y1 1024 ∧ vp_in y1 1024 ∧ jX12_laysTable_2 d (mm_uI (mm_uI M 205 y1.toNatClampNeg 0) 206 y1.toNatClampNeg 0) K (y1 + 1))) : jX12_laysTable_2 d  M K y1 := by
  unfold jX12_laysTable_2
  refine mm_iload_n (pc := 2) (j := 1) dX12_laysTable_2 rfl rfl ?_
  refine mm_sipush (pc := 3) (x := 1024) dX12_laysTable_3 rfl ?_
  refine mm_icmp_ge (pc := 6) (tgt := 29) dX12_laysTable_6 (by decide) (fun hc => ?_) (fun hc => ?_)
  · have h := mm_ift hc h
    refine mm_aload_n (pc := 29) (j := 0) dX12_laysTable_29 rfl rfl ?_
    refine mm_kVI (pc := 30) [] dX12_laysTable_30 kX12_412 rfl sh_164 (Nat.le_of_ble_eq_true rfl) (Nat.le_of_ble_eq_true rfl) h (fun z30 m30 hG h => ?_)
    refine mm_iconst (pc := 33) (x := 1) dX12_laysTable_33 rfl ?_
    refine mm_isub (pc := 34) dX12_laysTable_34 ?_
    refine mm_istore_n (pc := 35) (lv' := [(1, .int (z30 - 1)), (0, .ref 164)]) dX12_laysTable_35 rfl (by decide) rfl ?_
    exact mm_sub [1, 0] rfl h
  · have h := mm_iff hc h
    refine mm_aload_n (pc := 9) (j := 0) dX12_laysTable_9 rfl rfl ?_
    refine mm_getR (pc := 10) (ci := 12) (N := 116) (r := 205) dX12_laysTable_10 fX12_136 sh_164 rfl (g_164_64 hG) ?_
    refine mm_iload_n (pc := 13) (j := 1) dX12_laysTable_13 rfl rfl ?_
    refine mm_iconst (pc := 14) (x := 0) dX12_laysTable_14 rfl ?_
    obtain ⟨hi15, h⟩ := h
    refine mm_iastore (pc := 15) (N := 1024) dX12_laysTable_15 sh_205 hi15 ?_
    refine mm_aload_n (pc := 16) (j := 0) dX12_laysTable_16 rfl rfl ?_
    refine mm_getR (pc := 17) (ci := 12) (N := 116) (r := 206) dX12_laysTable_17 fX12_139 sh_164 rfl (g_164_65 hG) ?_
    refine mm_iload_n (pc := 20) (j := 1) dX12_laysTable_20 rfl rfl ?_
    refine mm_iconst (pc := 21) (x := 0) dX12_laysTable_21 rfl ?_
    obtain ⟨hi22, h⟩ := h
    refine mm_iastore (pc := 22) (N := 1024) dX12_laysTable_22 sh_206 hi22 ?_
    refine mm_iinc (pc := 23) (j := 1) (v := y1 + 1) (lv' := [(1, .int (y1 + 1)), (0, .ref 164)]) dX12_laysTable_23 rfl rfl (by decide) rfl ?_
    refine mm_goto (pc := 26) (tgt := 2) dX12_laysTable_26 (by decide) ?_
    exact mm_sub [1, 0] rfl h
set_option maxRecDepth 100000 in
set_option maxHeartbeats 4000000 in
theorem lX12_laysTable_36 {d : Nat} {M : mm_M} {K : mm_M → Prop} {y1 : Int32} (hG : mm_G M.2.2) (h : if y1 < 0 then (K M) else (jX12_laysTable_42 d M K y1 0)) : jX12_laysTable_36 d  M K y1 := by
  unfold jX12_laysTable_36
  refine mm_iload_n (pc := 36) (j := 1) dX12_laysTable_36 rfl rfl ?_
  refine mm_if_lt (pc := 37) (tgt := 169) dX12_laysTable_37 (by decide) (fun hc => ?_) (fun hc => ?_)
  · have h := mm_ift hc h
    exact mm_vret (pc := 169) dX12_laysTable_169 rfl (Nat.le_refl 0) (Nat.le_refl 0) ⟨rfl, rfl, hG, h⟩
  · have h := mm_iff hc h
    refine mm_iconst (pc := 40) (x := 0) dX12_laysTable_40 rfl ?_
    refine mm_istore_n (pc := 41) (lv' := [(2, .int 0), (0, .ref 164), (1, .int y1)]) dX12_laysTable_41 rfl (by decide) rfl ?_
    exact mm_sub [1, 2, 0] rfl h
set_option maxRecDepth 100000 in
set_option maxHeartbeats 4000000 in
theorem lX12_laysTable_42 {d : Nat} {M : mm_M} {K : mm_M → Prop} {y1 : Int32} {y2 : Int32} (hG : mm_G M.2.2) (h : if 128 ≤ y2 then (jX12_laysTable_36 d M K (y1 + (-1))) else (jX12_laysTable_57 d M K y1 y2 (-1) 0 (-1))) : jX12_laysTable_42 d  M K y1 y2 := by
  unfold jX12_laysTable_42
  refine mm_iload_n (pc := 42) (j := 2) dX12_laysTable_42 rfl rfl ?_
  refine mm_sipush (pc := 43) (x := 128) dX12_laysTable_43 rfl ?_
  refine mm_icmp_ge (pc := 46) (tgt := 163) dX12_laysTable_46 (by decide) (fun hc => ?_) (fun hc => ?_)
  · have h := mm_ift hc h
    refine mm_iinc (pc := 163) (j := 1) (v := y1 + (-1)) (lv' := [(1, .int (y1 + (-1))), (0, .ref 164), (2, .int y2)]) dX12_laysTable_163 rfl rfl (by decide) rfl ?_
    refine mm_goto (pc := 166) (tgt := 36) dX12_laysTable_166 (by decide) ?_
    exact mm_sub [1, 0] rfl h
  · have h := mm_iff hc h
    refine mm_iconst (pc := 49) (x := (-1)) dX12_laysTable_49 rfl ?_
    refine mm_istore_n (pc := 50) (lv' := [(3, .int (-1)), (0, .ref 164), (1, .int y1), (2, .int y2)]) dX12_laysTable_50 rfl (by decide) rfl ?_
    refine mm_iconst (pc := 51) (x := 0) dX12_laysTable_51 rfl ?_
    refine mm_istore (pc := 52) (lv' := [(4, .int 0), (3, .int (-1)), (0, .ref 164), (1, .int y1), (2, .int y2)]) dX12_laysTable_52 (by decide) rfl ?_
    refine mm_iconst (pc := 54) (x := (-1)) dX12_laysTable_54 rfl ?_
    refine mm_istore (pc := 55) (lv' := [(5, .int (-1)), (4, .int 0), (3, .int (-1)), (0, .ref 164), (1, .int y1), (2, .int y2)]) dX12_laysTable_55 (by decide) rfl ?_
    exact mm_sub [3, 4, 5, 2, 1, 0] rfl h
set_option maxRecDepth 100000 in
set_option maxHeartbeats 4000000 in
theorem lX12_laysTable_57 {d : Nat} {M : mm_M} {K : mm_M → Prop} {y1 : Int32} {y2 : Int32} {y3 : Int32} {y4 : Int32} {y5 : Int32} (hG : mm_G M.2.2) (h : mm_CI mX12_houseMany d [.ref 164] M (fun z60 m60 => if z60 ≤ y5 then (vp_in ((128 * y1) + y2) 1024 ∧ vp_in ((128 * y1) + y2) 1024 ∧ jX12_laysTable_42 d (mm_uI (mm_uI m60 205 ((128 * y1) + y2).toNatClampNeg y3) 206 ((128 * y1) + y2).toNatClampNeg y4) K y1 (y2 + 1)) else (mm_CI mX12_manyBy d [.ref 164, .int y1, .int y2, .int y5] m60 (fun z71 m71 => if z71 < y3 then (jX12_laysTable_57 d m71 K y1 y2 y3 y4 (y5 + 1)) else (if z71 = (-1) then (jX12_laysTable_57 d m71 K y1 y2 y3 y4 (y5 + 1)) else (mm_CI mX12_hateBy d [.ref 164, .int y1, .int y2, .int y5] m71 (fun z96 m96 => if z71 = y3 then (if z96 < y4 then (jX12_laysTable_57 d m96 K y1 y2 z71 z96 (y5 + 1)) else (jX12_laysTable_57 d m96 K y1 y2 y3 y4 (y5 + 1))) else (jX12_laysTable_57 d m96 K y1 y2 z71 z96 (y5 + 1))))))))) : jX12_laysTable_57 d  M K y1 y2 y3 y4 y5 := by
  unfold jX12_laysTable_57
  refine mm_iload (pc := 57) (j := 5) dX12_laysTable_57 rfl ?_
  refine mm_aload_n (pc := 59) (j := 0) dX12_laysTable_59 rfl rfl ?_
  refine mm_kVI (pc := 60) [] dX12_laysTable_60 kX12_412 rfl sh_164 (Nat.le_of_ble_eq_true rfl) (Nat.le_of_ble_eq_true rfl) h (fun z60 m60 hG h => ?_)
  refine mm_icmp_ge (pc := 63) (tgt := 130) dX12_laysTable_63 (by decide) (fun hc => ?_) (fun hc => ?_)
  · have h := mm_ift hc h
    refine mm_aload_n (pc := 130) (j := 0) dX12_laysTable_130 rfl rfl ?_
    refine mm_getR (pc := 131) (ci := 12) (N := 116) (r := 205) dX12_laysTable_131 fX12_136 sh_164 rfl (g_164_64 hG) ?_
    refine mm_sipush (pc := 134) (x := 128) dX12_laysTable_134 rfl ?_
    refine mm_iload_n (pc := 137) (j := 1) dX12_laysTable_137 rfl rfl ?_
    refine mm_imul (pc := 138) dX12_laysTable_138 ?_
    refine mm_iload_n (pc := 139) (j := 2) dX12_laysTable_139 rfl rfl ?_
    refine mm_iadd (pc := 140) dX12_laysTable_140 ?_
    refine mm_iload_n (pc := 141) (j := 3) dX12_laysTable_141 rfl rfl ?_
    obtain ⟨hi142, h⟩ := h
    refine mm_iastore (pc := 142) (N := 1024) dX12_laysTable_142 sh_205 hi142 ?_
    refine mm_aload_n (pc := 143) (j := 0) dX12_laysTable_143 rfl rfl ?_
    refine mm_getR (pc := 144) (ci := 12) (N := 116) (r := 206) dX12_laysTable_144 fX12_139 sh_164 rfl (g_164_65 hG) ?_
    refine mm_sipush (pc := 147) (x := 128) dX12_laysTable_147 rfl ?_
    refine mm_iload_n (pc := 150) (j := 1) dX12_laysTable_150 rfl rfl ?_
    refine mm_imul (pc := 151) dX12_laysTable_151 ?_
    refine mm_iload_n (pc := 152) (j := 2) dX12_laysTable_152 rfl rfl ?_
    refine mm_iadd (pc := 153) dX12_laysTable_153 ?_
    refine mm_iload (pc := 154) (j := 4) dX12_laysTable_154 rfl ?_
    obtain ⟨hi156, h⟩ := h
    refine mm_iastore (pc := 156) (N := 1024) dX12_laysTable_156 sh_206 hi156 ?_
    refine mm_iinc (pc := 157) (j := 2) (v := y2 + 1) (lv' := [(2, .int (y2 + 1)), (0, .ref 164), (1, .int y1), (3, .int y3), (4, .int y4), (5, .int y5)]) dX12_laysTable_157 rfl rfl (by decide) rfl ?_
    refine mm_goto (pc := 160) (tgt := 42) dX12_laysTable_160 (by decide) ?_
    exact mm_sub [1, 2, 0] rfl h
  · have h := mm_iff hc h
    refine mm_aload_n (pc := 66) (j := 0) dX12_laysTable_66 rfl rfl ?_
    refine mm_iload_n (pc := 67) (j := 1) dX12_laysTable_67 rfl rfl ?_
    refine mm_iload_n (pc := 68) (j := 2) dX12_laysTable_68 rfl rfl ?_
    refine mm_iload (pc := 69) (j := 5) dX12_laysTable_69 rfl ?_
    refine mm_kVI (pc := 71) [.int y1, .int y2, .int y5] dX12_laysTable_71 kX12_565 rfl sh_164 (Nat.le_of_ble_eq_true rfl) (Nat.le_of_ble_eq_true rfl) h (fun z71 m71 hG h => ?_)
    refine mm_istore (pc := 74) (lv' := [(6, .int z71), (0, .ref 164), (1, .int y1), (2, .int y2), (3, .int y3), (4, .int y4), (5, .int y5)]) dX12_laysTable_74 (by decide) rfl ?_
    refine mm_iload (pc := 76) (j := 0) dX12_laysTable_76 rfl ?_
    refine mm_iload_n (pc := 78) (j := 4) dX12_laysTable_78 rfl rfl ?_
    refine mm_icmp_lt (pc := 79) (tgt := 124) dX12_laysTable_79 (by decide) (fun hc => ?_) (fun hc => ?_)
    · have h := mm_ift hc h
      refine mm_iinc (pc := 124) (j := 6) (v := y5 + 1) (lv' := [(5, .int (y5 + 1)), (6, .int z71), (0, .ref 164), (1, .int y1), (2, .int y2), (3, .int y3), (4, .int y4)]) dX12_laysTable_124 rfl rfl (by decide) rfl ?_
      refine mm_goto (pc := 127) (tgt := 57) dX12_laysTable_127 (by decide) ?_
      exact mm_sub [2, 3, 4, 5, 6, 0] rfl h
    · have h := mm_iff hc h
      refine mm_iload (pc := 82) (j := 0) dX12_laysTable_82 rfl ?_
      refine mm_iconst (pc := 84) (x := (-1)) dX12_laysTable_84 rfl ?_
      refine mm_icmp_ne (pc := 85) (tgt := 91) dX12_laysTable_85 (by decide) (fun hc => ?_) (fun hc => ?_)
      · have h := mm_iff hc h
        refine mm_aload_n (pc := 91) (j := 1) dX12_laysTable_91 rfl rfl ?_
        refine mm_iload_n (pc := 92) (j := 2) dX12_laysTable_92 rfl rfl ?_
        refine mm_iload_n (pc := 93) (j := 3) dX12_laysTable_93 rfl rfl ?_
        refine mm_iload (pc := 94) (j := 6) dX12_laysTable_94 rfl ?_
        refine mm_kVI (pc := 96) [.int y1, .int y2, .int y5] dX12_laysTable_96 kX12_569 rfl sh_164 (Nat.le_of_ble_eq_true rfl) (Nat.le_of_ble_eq_true rfl) h (fun z96 m96 hG h => ?_)
        refine mm_istore (pc := 99) (lv' := [(7, .int z96), (6, .int z71), (0, .ref 164), (1, .int y1), (2, .int y2), (3, .int y3), (4, .int y4), (5, .int y5)]) dX12_laysTable_99 (by decide) rfl ?_
        refine mm_iload (pc := 101) (j := 1) dX12_laysTable_101 rfl ?_
        refine mm_iload_n (pc := 103) (j := 5) dX12_laysTable_103 rfl rfl ?_
        refine mm_icmp_ne (pc := 104) (tgt := 117) dX12_laysTable_104 (by decide) (fun hc => ?_) (fun hc => ?_)
        · have h := mm_iff hc h
          refine mm_iload (pc := 117) (j := 1) dX12_laysTable_117 rfl ?_
          refine mm_istore_n (pc := 119) (lv' := [(3, .int z71), (7, .int z96), (6, .int z71), (0, .ref 164), (1, .int y1), (2, .int y2), (4, .int y4), (5, .int y5)]) dX12_laysTable_119 rfl (by decide) rfl ?_
          refine mm_iload (pc := 120) (j := 1) dX12_laysTable_120 rfl ?_
          refine mm_istore (pc := 122) (lv' := [(4, .int z96), (3, .int z71), (7, .int z96), (6, .int z71), (0, .ref 164), (1, .int y1), (2, .int y2), (5, .int y5)]) dX12_laysTable_122 (by decide) rfl ?_
          refine mm_iinc (pc := 124) (j := 7) (v := y5 + 1) (lv' := [(5, .int (y5 + 1)), (4, .int z96), (3, .int z71), (7, .int z96), (6, .int z71), (0, .ref 164), (1, .int y1), (2, .int y2)]) dX12_laysTable_124 rfl rfl (by decide) rfl ?_
          refine mm_goto (pc := 127) (tgt := 57) dX12_laysTable_127 (by decide) ?_
          exact mm_sub [5, 6, 7, 2, 1, 0] rfl h
        · have h := mm_ift hc h
          refine mm_iload (pc := 107) (j := 0) dX12_laysTable_107 rfl ?_
          refine mm_iload (pc := 109) (j := 6) dX12_laysTable_109 rfl ?_
          refine mm_icmp_lt (pc := 111) (tgt := 117) dX12_laysTable_111 (by decide) (fun hc => ?_) (fun hc => ?_)
          · have h := mm_ift hc h
            refine mm_iload (pc := 117) (j := 1) dX12_laysTable_117 rfl ?_
            refine mm_istore_n (pc := 119) (lv' := [(3, .int z71), (7, .int z96), (6, .int z71), (0, .ref 164), (1, .int y1), (2, .int y2), (4, .int y4), (5, .int y5)]) dX12_laysTable_119 rfl (by decide) rfl ?_
            refine mm_iload (pc := 120) (j := 1) dX12_laysTable_120 rfl ?_
            refine mm_istore (pc := 122) (lv' := [(4, .int z96), (3, .int z71), (7, .int z96), (6, .int z71), (0, .ref 164), (1, .int y1), (2, .int y2), (5, .int y5)]) dX12_laysTable_122 (by decide) rfl ?_
            refine mm_iinc (pc := 124) (j := 7) (v := y5 + 1) (lv' := [(5, .int (y5 + 1)), (4, .int z96), (3, .int z71), (7, .int z96), (6, .int z71), (0, .ref 164), (1, .int y1), (2, .int y2)]) dX12_laysTable_124 rfl rfl (by decide) rfl ?_
            refine mm_goto (pc := 127) (tgt := 57) dX12_laysTable_127 (by decide) ?_
            exact mm_sub [5, 6, 7, 2, 1, 0] rfl h
          · have h := mm_iff hc h
            refine mm_goto (pc := 114) (tgt := 124) dX12_laysTable_114 (by decide) ?_
            refine mm_iinc (pc := 124) (j := 7) (v := y5 + 1) (lv' := [(5, .int (y5 + 1)), (7, .int z96), (6, .int z71), (0, .ref 164), (1, .int y1), (2, .int y2), (3, .int y3), (4, .int y4)]) dX12_laysTable_124 rfl rfl (by decide) rfl ?_
            refine mm_goto (pc := 127) (tgt := 57) dX12_laysTable_127 (by decide) ?_
            exact mm_sub [3, 4, 5, 6, 7, 0] rfl h
      · have h := mm_ift hc h
        refine mm_goto (pc := 88) (tgt := 124) dX12_laysTable_88 (by decide) ?_
        refine mm_iinc (pc := 124) (j := 6) (v := y5 + 1) (lv' := [(5, .int (y5 + 1)), (6, .int z71), (0, .ref 164), (1, .int y1), (2, .int y2), (3, .int y3), (4, .int y4)]) dX12_laysTable_124 rfl rfl (by decide) rfl ?_
        refine mm_goto (pc := 127) (tgt := 57) dX12_laysTable_127 (by decide) ?_
        exact mm_sub [2, 3, 4, 5, 6, 0] rfl h
def jX12_laysRow_4 (d : Nat) (M : mm_M) (K : mm_M → Prop) (y1 : Int32) (y2 : Int32) : Prop := mm_W mX12_laysRow (d + 1) 0 0 4 [(0, .ref 164), (1, .int y1), (2, .int y2)] [] mm_SH M 0 0 (mm_PV K)
def jX12_laysRow_14 (d : Nat) (M : mm_M) (K : mm_M → Prop) (y1 : Int32) (y2 : Int32) (y3 : Int32) : Prop := mm_W mX12_laysRow (d + 1) 0 0 14 [(0, .ref 164), (1, .int y1), (2, .int y2), (3, .int y3)] [] mm_SH M 0 0 (mm_PV K)
set_option maxRecDepth 100000 in
set_option maxHeartbeats 4000000 in
theorem rX12_laysRow {d : Nat} {M : mm_M} {K : mm_M → Prop} (hG : mm_G M.2.2) (h : jX12_laysRow_4 d M K 0 0) : mm_CV mX12_laysRow (d + 1) [.ref 164] M K := by
  show mm_W mX12_laysRow (d + 1) 0 0 0 [(0, .ref 164)] [] mm_SH M 0 0 (mm_PV K)
  refine mm_iconst (pc := 0) (x := 0) dX12_laysRow_0 rfl ?_
  refine mm_istore_n (pc := 1) (lv' := [(1, .int 0), (0, .ref 164)]) dX12_laysRow_1 rfl (by decide) rfl ?_
  refine mm_iconst (pc := 2) (x := 0) dX12_laysRow_2 rfl ?_
  refine mm_istore_n (pc := 3) (lv' := [(2, .int 0), (1, .int 0), (0, .ref 164)]) dX12_laysRow_3 rfl (by decide) rfl ?_
  exact mm_sub [2, 1, 0] rfl h
set_option maxRecDepth 100000 in
set_option maxHeartbeats 4000000 in
theorem lX12_laysRow_4 {d : Nat} {M : mm_M} {K : mm_M → Prop} {y1 : Int32} {y2 : Int32} (hG : mm_G M.2.2) (h : mm_CI mX12_houseMany d [.ref 164] M (fun z6 m6 => if z6 ≤ y2 then (K m6) else (jX12_laysRow_14 d m6 K y1 y2 (-1)))) : jX12_laysRow_4 d  M K y1 y2 := by
  unfold jX12_laysRow_4
  refine mm_iload_n (pc := 4) (j := 2) dX12_laysRow_4 rfl rfl ?_
  refine mm_aload_n (pc := 5) (j := 0) dX12_laysRow_5 rfl rfl ?_
  refine mm_kVI (pc := 6) [] dX12_laysRow_6 kX12_412 rfl sh_164 (Nat.le_of_ble_eq_true rfl) (Nat.le_of_ble_eq_true rfl) h (fun z6 m6 hG h => ?_)
  refine mm_icmp_ge (pc := 9) (tgt := 88) dX12_laysRow_9 (by decide) (fun hc => ?_) (fun hc => ?_)
  · have h := mm_ift hc h
    exact mm_vret (pc := 88) dX12_laysRow_88 rfl (Nat.le_refl 0) (Nat.le_refl 0) ⟨rfl, rfl, hG, h⟩
  · have h := mm_iff hc h
    refine mm_iconst (pc := 12) (x := (-1)) dX12_laysRow_12 rfl ?_
    refine mm_istore_n (pc := 13) (lv' := [(3, .int (-1)), (0, .ref 164), (1, .int y1), (2, .int y2)]) dX12_laysRow_13 rfl (by decide) rfl ?_
    exact mm_sub [1, 2, 3, 0] rfl h
set_option maxRecDepth 100000 in
set_option maxHeartbeats 4000000 in
theorem lX12_laysRow_14 {d : Nat} {M : mm_M} {K : mm_M → Prop} {y1 : Int32} {y2 : Int32} {y3 : Int32} (hG : mm_G M.2.2) (h : mm_CI mX12_manyBy d [.ref 164, .int y2, .int y1, .int y3] M (fun z18 m18 => vp_in ((128 * y2) + y1) 1024 ∧ if z18 = (m18.1 205 ((128 * y2) + y1).toNatClampNeg) then (mm_CI mX12_hateBy d [.ref 164, .int y2, .int y1, .int y3] m18 (fun z40 m40 => vp_in ((128 * y2) + y1) 1024 ∧ if z40 = (m40.1 206 ((128 * y2) + y1).toNatClampNeg) then (vp_in y2 7 ∧ if y3 = (-1) then (jX12_laysRow_4 d (mm_uI m40 207 y2.toNatClampNeg y3) K y1 (y2 + 1)) else (jX12_laysRow_4 d (mm_uI m40 207 y2.toNatClampNeg y3) K (y1 ||| ((1 : Int32) <<< (y3 &&& 31))) (y2 + 1))) else (jX12_laysRow_14 d m40 K y1 y2 (y3 + 1)))) else (jX12_laysRow_14 d m18 K y1 y2 (y3 + 1)))) : jX12_laysRow_14 d  M K y1 y2 y3 := by
  unfold jX12_laysRow_14
  refine mm_aload_n (pc := 14) (j := 0) dX12_laysRow_14 rfl rfl ?_
  refine mm_iload_n (pc := 15) (j := 2) dX12_laysRow_15 rfl rfl ?_
  refine mm_iload_n (pc := 16) (j := 1) dX12_laysRow_16 rfl rfl ?_
  refine mm_iload_n (pc := 17) (j := 3) dX12_laysRow_17 rfl rfl ?_
  refine mm_kVI (pc := 18) [.int y2, .int y1, .int y3] dX12_laysRow_18 kX12_565 rfl sh_164 (Nat.le_of_ble_eq_true rfl) (Nat.le_of_ble_eq_true rfl) h (fun z18 m18 hG h => ?_)
  refine mm_aload_n (pc := 21) (j := 0) dX12_laysRow_21 rfl rfl ?_
  refine mm_getR (pc := 22) (ci := 12) (N := 116) (r := 205) dX12_laysRow_22 fX12_136 sh_164 rfl (g_164_64 hG) ?_
  refine mm_sipush (pc := 25) (x := 128) dX12_laysRow_25 rfl ?_
  refine mm_iload_n (pc := 28) (j := 2) dX12_laysRow_28 rfl rfl ?_
  refine mm_imul (pc := 29) dX12_laysRow_29 ?_
  refine mm_iload_n (pc := 30) (j := 1) dX12_laysRow_30 rfl rfl ?_
  refine mm_iadd (pc := 31) dX12_laysRow_31 ?_
  obtain ⟨hi32, h⟩ := h
  refine mm_iaload (pc := 32) (N := 1024) dX12_laysRow_32 sh_205 hi32 ?_
  refine mm_icmp_ne (pc := 33) (tgt := 58) dX12_laysRow_33 (by decide) (fun hc => ?_) (fun hc => ?_)
  · have h := mm_iff hc h
    refine mm_iinc (pc := 58) (j := 3) (v := y3 + 1) (lv' := [(3, .int (y3 + 1)), (0, .ref 164), (1, .int y1), (2, .int y2)]) dX12_laysRow_58 rfl rfl (by decide) rfl ?_
    refine mm_goto (pc := 61) (tgt := 14) dX12_laysRow_61 (by decide) ?_
    exact mm_sub [1, 2, 3, 0] rfl h
  · have h := mm_ift hc h
    refine mm_aload_n (pc := 36) (j := 0) dX12_laysRow_36 rfl rfl ?_
    refine mm_iload_n (pc := 37) (j := 2) dX12_laysRow_37 rfl rfl ?_
    refine mm_iload_n (pc := 38) (j := 1) dX12_laysRow_38 rfl rfl ?_
    refine mm_iload_n (pc := 39) (j := 3) dX12_laysRow_39 rfl rfl ?_
    refine mm_kVI (pc := 40) [.int y2, .int y1, .int y3] dX12_laysRow_40 kX12_569 rfl sh_164 (Nat.le_of_ble_eq_true rfl) (Nat.le_of_ble_eq_true rfl) h (fun z40 m40 hG h => ?_)
    refine mm_aload_n (pc := 43) (j := 0) dX12_laysRow_43 rfl rfl ?_
    refine mm_getR (pc := 44) (ci := 12) (N := 116) (r := 206) dX12_laysRow_44 fX12_139 sh_164 rfl (g_164_65 hG) ?_
    refine mm_sipush (pc := 47) (x := 128) dX12_laysRow_47 rfl ?_
    refine mm_iload_n (pc := 50) (j := 2) dX12_laysRow_50 rfl rfl ?_
    refine mm_imul (pc := 51) dX12_laysRow_51 ?_
    refine mm_iload_n (pc := 52) (j := 1) dX12_laysRow_52 rfl rfl ?_
    refine mm_iadd (pc := 53) dX12_laysRow_53 ?_
    obtain ⟨hi54, h⟩ := h
    refine mm_iaload (pc := 54) (N := 1024) dX12_laysRow_54 sh_206 hi54 ?_
    refine mm_icmp_eq (pc := 55) (tgt := 64) dX12_laysRow_55 (by decide) (fun hc => ?_) (fun hc => ?_)
    · have h := mm_ift hc h
      refine mm_aload_n (pc := 64) (j := 0) dX12_laysRow_64 rfl rfl ?_
      refine mm_getR (pc := 65) (ci := 12) (N := 116) (r := 207) dX12_laysRow_65 fX12_142 sh_164 rfl (g_164_67 hG) ?_
      refine mm_iload_n (pc := 68) (j := 2) dX12_laysRow_68 rfl rfl ?_
      refine mm_iload_n (pc := 69) (j := 3) dX12_laysRow_69 rfl rfl ?_
      obtain ⟨hi70, h⟩ := h
      refine mm_iastore (pc := 70) (N := 7) dX12_laysRow_70 sh_207 hi70 ?_
      refine mm_iload_n (pc := 71) (j := 3) dX12_laysRow_71 rfl rfl ?_
      refine mm_iconst (pc := 72) (x := (-1)) dX12_laysRow_72 rfl ?_
      refine mm_icmp_eq (pc := 73) (tgt := 82) dX12_laysRow_73 (by decide) (fun hc => ?_) (fun hc => ?_)
      · have h := mm_ift hc h
        refine mm_iinc (pc := 82) (j := 2) (v := y2 + 1) (lv' := [(2, .int (y2 + 1)), (0, .ref 164), (1, .int y1), (3, .int y3)]) dX12_laysRow_82 rfl rfl (by decide) rfl ?_
        refine mm_goto (pc := 85) (tgt := 4) dX12_laysRow_85 (by decide) ?_
        exact mm_sub [1, 2, 0] rfl h
      · have h := mm_iff hc h
        refine mm_iload_n (pc := 76) (j := 1) dX12_laysRow_76 rfl rfl ?_
        refine mm_iconst (pc := 77) (x := 1) dX12_laysRow_77 rfl ?_
        refine mm_iload_n (pc := 78) (j := 3) dX12_laysRow_78 rfl rfl ?_
        refine mm_ishl (pc := 79) dX12_laysRow_79 ?_
        refine mm_ior (pc := 80) dX12_laysRow_80 ?_
        refine mm_istore_n (pc := 81) (lv' := [(1, .int (y1 ||| ((1 : Int32) <<< (y3 &&& 31)))), (0, .ref 164), (2, .int y2), (3, .int y3)]) dX12_laysRow_81 rfl (by decide) rfl ?_
        refine mm_iinc (pc := 82) (j := 2) (v := y2 + 1) (lv' := [(2, .int (y2 + 1)), (1, .int (y1 ||| ((1 : Int32) <<< (y3 &&& 31)))), (0, .ref 164), (3, .int y3)]) dX12_laysRow_82 rfl rfl (by decide) rfl ?_
        refine mm_goto (pc := 85) (tgt := 4) dX12_laysRow_85 (by decide) ?_
        exact mm_sub [2, 1, 0] rfl h
    · have h := mm_iff hc h
      refine mm_iinc (pc := 58) (j := 3) (v := y3 + 1) (lv' := [(3, .int (y3 + 1)), (0, .ref 164), (1, .int y1), (2, .int y2)]) dX12_laysRow_58 rfl rfl (by decide) rfl ?_
      refine mm_goto (pc := 61) (tgt := 14) dX12_laysRow_61 (by decide) ?_
      exact mm_sub [1, 2, 3, 0] rfl h
set_option maxRecDepth 100000 in
set_option maxHeartbeats 4000000 in
theorem rX12_table {d : Nat} {x1 : Int32} {M : mm_M} {K : Int32 → mm_M → Prop} (hG : mm_G M.2.2) (h : if (M.1 164 48) = 0 then (K (-1) M) else (mm_CI mX12_houseMany d [.ref 164] M (fun z12 m12 => mm_CI mX12_isIn d [.long x1.toInt64, .long 0, .long ((1 + z12).toInt64)] m12 (fun z17 m17 => if z17 = 0 then (K (-1) m17) else (mm_CV mX12_laysTable d [.ref 164] (mm_uI m17 164 66 0) (fun m31 => if 2 ≤ x1 then (mm_CV mX12_laysRow d [.ref 164] m31 (fun m60 => vp_in (x1 - 2) 7 ∧ K (m60.1 207 (x1 - 2).toNatClampNeg) m60)) else (if x1 = 0 then (K (m31.1 205 (0 : Int32).toNatClampNeg) m31) else (K (m31.1 206 (0 : Int32).toNatClampNeg) m31)))))))) : mm_CI mX12_table (d + 1) [.ref 164, .int x1] M K := by
  show mm_W mX12_table (d + 1) 0 0 0 [(0, .ref 164), (1, .int x1)] [] mm_SH M 0 0 (mm_PI K)
  refine mm_aload_n (pc := 0) (j := 0) dX12_table_0 rfl rfl ?_
  refine mm_getI (pc := 1) (ci := 12) (N := 116) dX12_table_1 fX12_399 sh_164 rfl ?_
  refine mm_if_eq (pc := 4) (tgt := 23) dX12_table_4 (by decide) (fun hc => ?_) (fun hc => ?_)
  · have h := mm_ift hc h
    refine mm_iconst (pc := 23) (x := (-1)) dX12_table_23 rfl ?_
    exact mm_iret (pc := 24) dX12_table_24 rfl (Nat.le_refl 0) (Nat.le_refl 0) ⟨_, rfl, rfl, hG, h⟩
  · have h := mm_iff hc h
    refine mm_iload_n (pc := 7) (j := 1) dX12_table_7 rfl rfl ?_
    refine mm_i2l (pc := 8) dX12_table_8 ?_
    refine mm_lconst (pc := 9) (x := 0) dX12_table_9 rfl ?_
    refine mm_iconst (pc := 10) (x := 1) dX12_table_10 rfl ?_
    refine mm_aload_n (pc := 11) (j := 0) dX12_table_11 rfl rfl ?_
    refine mm_kVI (pc := 12) [] dX12_table_12 kX12_412 rfl sh_164 (Nat.le_of_ble_eq_true rfl) (Nat.le_of_ble_eq_true rfl) h (fun z12 m12 hG h => ?_)
    refine mm_iadd (pc := 15) dX12_table_15 ?_
    refine mm_i2l (pc := 16) dX12_table_16 ?_
    refine mm_kSI (pc := 17) [.long x1.toInt64, .long 0, .long ((1 + z12).toInt64)] dX12_table_17 kX12_303 rfl (Nat.le_of_ble_eq_true rfl) (Nat.le_of_ble_eq_true rfl) h (fun z17 m17 hG h => ?_)
    refine mm_if_ne (pc := 20) (tgt := 25) dX12_table_20 (by decide) (fun hc => ?_) (fun hc => ?_)
    · have h := mm_iff hc h
      refine mm_aload_n (pc := 25) (j := 0) dX12_table_25 rfl rfl ?_
      refine mm_iconst (pc := 26) (x := 0) dX12_table_26 rfl ?_
      refine mm_putI (pc := 27) (ci := 12) (N := 116) dX12_table_27 fX12_559 sh_164 (by decide +kernel) rfl rfl rfl ?_
      refine mm_aload_n (pc := 30) (j := 0) dX12_table_30 rfl rfl ?_
      refine mm_kVV (pc := 31) [] dX12_table_31 kX12_572 rfl sh_164 (Nat.le_of_ble_eq_true rfl) (Nat.le_of_ble_eq_true rfl) h (fun m31 hG h => ?_)
      refine mm_iload_n (pc := 34) (j := 1) dX12_table_34 rfl rfl ?_
      refine mm_iconst (pc := 35) (x := 2) dX12_table_35 rfl ?_
      refine mm_icmp_ge (pc := 36) (tgt := 59) dX12_table_36 (by decide) (fun hc => ?_) (fun hc => ?_)
      · have h := mm_ift hc h
        refine mm_aload_n (pc := 59) (j := 0) dX12_table_59 rfl rfl ?_
        refine mm_kVV (pc := 60) [] dX12_table_60 kX12_575 rfl sh_164 (Nat.le_of_ble_eq_true rfl) (Nat.le_of_ble_eq_true rfl) h (fun m60 hG h => ?_)
        refine mm_aload_n (pc := 63) (j := 0) dX12_table_63 rfl rfl ?_
        refine mm_getR (pc := 64) (ci := 12) (N := 116) (r := 207) dX12_table_64 fX12_142 sh_164 rfl (g_164_67 hG) ?_
        refine mm_iload_n (pc := 67) (j := 1) dX12_table_67 rfl rfl ?_
        refine mm_iconst (pc := 68) (x := 2) dX12_table_68 rfl ?_
        refine mm_isub (pc := 69) dX12_table_69 ?_
        obtain ⟨hi70, h⟩ := h
        refine mm_iaload (pc := 70) (N := 7) dX12_table_70 sh_207 hi70 ?_
        exact mm_iret (pc := 71) dX12_table_71 rfl (Nat.le_refl 0) (Nat.le_refl 0) ⟨_, rfl, rfl, hG, h⟩
      · have h := mm_iff hc h
        refine mm_iload_n (pc := 39) (j := 1) dX12_table_39 rfl rfl ?_
        refine mm_if_ne (pc := 40) (tgt := 52) dX12_table_40 (by decide) (fun hc => ?_) (fun hc => ?_)
        · have h := mm_iff hc h
          refine mm_aload_n (pc := 52) (j := 0) dX12_table_52 rfl rfl ?_
          refine mm_getR (pc := 53) (ci := 12) (N := 116) (r := 206) dX12_table_53 fX12_139 sh_164 rfl (g_164_65 hG) ?_
          refine mm_iconst (pc := 56) (x := 0) dX12_table_56 rfl ?_
          refine mm_iaload (pc := 57) (N := 1024) dX12_table_57 sh_206 (mm_vin (k := 0) rfl (by decide) (by decide)) ?_
          exact mm_iret (pc := 58) dX12_table_58 rfl (Nat.le_refl 0) (Nat.le_refl 0) ⟨_, rfl, rfl, hG, h⟩
        · have h := mm_ift hc h
          refine mm_aload_n (pc := 43) (j := 0) dX12_table_43 rfl rfl ?_
          refine mm_getR (pc := 44) (ci := 12) (N := 116) (r := 205) dX12_table_44 fX12_136 sh_164 rfl (g_164_64 hG) ?_
          refine mm_iconst (pc := 47) (x := 0) dX12_table_47 rfl ?_
          refine mm_iaload (pc := 48) (N := 1024) dX12_table_48 sh_205 (mm_vin (k := 0) rfl (by decide) (by decide)) ?_
          refine mm_goto (pc := 49) (tgt := 58) dX12_table_49 (by decide) ?_
          exact mm_iret (pc := 58) dX12_table_58 rfl (Nat.le_refl 0) (Nat.le_refl 0) ⟨_, rfl, rfl, hG, h⟩
    · have h := mm_ift hc h
      refine mm_iconst (pc := 23) (x := (-1)) dX12_table_23 rfl ?_
      exact mm_iret (pc := 24) dX12_table_24 rfl (Nat.le_refl 0) (Nat.le_refl 0) ⟨_, rfl, rfl, hG, h⟩
set_option maxRecDepth 100000 in
set_option maxHeartbeats 4000000 in
theorem rX12_doAllEat {d : Nat} {x1 : Int32} {M : mm_M} {K : Int32 → mm_M → Prop} (hG : mm_G M.2.2) (h : mm_CV mX12_laysTable d [.ref 164] (mm_uI M 164 66 x1) (fun m6 => mm_CI mX12_thereSet d [.ref 164] m6 (fun z16 m16 => mm_CI mX12_bits d [.int z16] m16 (fun z19 m19 => if (m6.1 205 (0 : Int32).toNatClampNeg) = z19 then (K 1 m19) else (K 0 m19))))) : mm_CI mX12_doAllEat (d + 1) [.ref 164, .int x1] M K := by
  show mm_W mX12_doAllEat (d + 1) 0 0 0 [(0, .ref 164), (1, .int x1)] [] mm_SH M 0 0 (mm_PI K)
  refine mm_aload_n (pc := 0) (j := 0) dX12_doAllEat_0 rfl rfl ?_
  refine mm_iload_n (pc := 1) (j := 1) dX12_doAllEat_1 rfl rfl ?_
  refine mm_putI (pc := 2) (ci := 12) (N := 116) dX12_doAllEat_2 fX12_559 sh_164 (by decide +kernel) rfl rfl rfl ?_
  refine mm_aload_n (pc := 5) (j := 0) dX12_doAllEat_5 rfl rfl ?_
  refine mm_kVV (pc := 6) [] dX12_doAllEat_6 kX12_572 rfl sh_164 (Nat.le_of_ble_eq_true rfl) (Nat.le_of_ble_eq_true rfl) h (fun m6 hG h => ?_)
  refine mm_aload_n (pc := 9) (j := 0) dX12_doAllEat_9 rfl rfl ?_
  refine mm_getR (pc := 10) (ci := 12) (N := 116) (r := 205) dX12_doAllEat_10 fX12_136 sh_164 rfl (g_164_64 hG) ?_
  refine mm_iconst (pc := 13) (x := 0) dX12_doAllEat_13 rfl ?_
  refine mm_iaload (pc := 14) (N := 1024) dX12_doAllEat_14 sh_205 (mm_vin (k := 0) rfl (by decide) (by decide)) ?_
  refine mm_aload_n (pc := 15) (j := 0) dX12_doAllEat_15 rfl rfl ?_
  refine mm_kVI (pc := 16) [] dX12_doAllEat_16 kX12_522 rfl sh_164 (Nat.le_of_ble_eq_true rfl) (Nat.le_of_ble_eq_true rfl) h (fun z16 m16 hG h => ?_)
  refine mm_kSI (pc := 19) [.int z16] dX12_doAllEat_19 kX12_525 rfl (Nat.le_of_ble_eq_true rfl) (Nat.le_of_ble_eq_true rfl) h (fun z19 m19 hG h => ?_)
  refine mm_icmp_ne (pc := 22) (tgt := 29) dX12_doAllEat_22 (by decide) (fun hc => ?_) (fun hc => ?_)
  · have h := mm_iff hc h
    refine mm_iconst (pc := 29) (x := 0) dX12_doAllEat_29 rfl ?_
    exact mm_zret (pc := 30) dX12_doAllEat_30 rfl rfl (Nat.le_refl 0) (Nat.le_refl 0) ⟨_, rfl, rfl, hG, h⟩
  · have h := mm_ift hc h
    refine mm_iconst (pc := 25) (x := 1) dX12_doAllEat_25 rfl ?_
    refine mm_goto (pc := 26) (tgt := 30) dX12_doAllEat_26 (by decide) ?_
    exact mm_zret (pc := 30) dX12_doAllEat_30 rfl rfl (Nat.le_refl 0) (Nat.le_refl 0) ⟨_, rfl, rfl, hG, h⟩
set_option maxRecDepth 100000 in
set_option maxHeartbeats 4000000 in
theorem rX12_bitOf {d : Nat} {x1 : Int32} {M : mm_M} {K : Int32 → mm_M → Prop} (hG : mm_G M.2.2) (h : vp_in x1 21 ∧ vp_in x1 21 ∧ mm_CI mX12_pairOf d [.int (M.1 208 x1.toNatClampNeg), .int (M.1 209 x1.toNatClampNeg)] M (fun z13 m13 => K ((1 : Int32) <<< (z13 &&& 31)) m13)) : mm_CI mX12_bitOf (d + 1) [.ref 164, .int x1] M K := by
  show mm_W mX12_bitOf (d + 1) 0 0 0 [(0, .ref 164), (1, .int x1)] [] mm_SH M 0 0 (mm_PI K)
  refine mm_iconst (pc := 0) (x := 1) dX12_bitOf_0 rfl ?_
  refine mm_aload_n (pc := 1) (j := 0) dX12_bitOf_1 rfl rfl ?_
  refine mm_getR (pc := 2) (ci := 12) (N := 116) (r := 208) dX12_bitOf_2 fX12_145 sh_164 rfl (g_164_68 hG) ?_
  refine mm_iload_n (pc := 5) (j := 1) dX12_bitOf_5 rfl rfl ?_
  obtain ⟨hi6, h⟩ := h
  refine mm_iaload (pc := 6) (N := 21) dX12_bitOf_6 sh_208 hi6 ?_
  refine mm_aload_n (pc := 7) (j := 0) dX12_bitOf_7 rfl rfl ?_
  refine mm_getR (pc := 8) (ci := 12) (N := 116) (r := 209) dX12_bitOf_8 fX12_148 sh_164 rfl (g_164_69 hG) ?_
  refine mm_iload_n (pc := 11) (j := 1) dX12_bitOf_11 rfl rfl ?_
  obtain ⟨hi12, h⟩ := h
  refine mm_iaload (pc := 12) (N := 21) dX12_bitOf_12 sh_209 hi12 ?_
  refine mm_kSI (pc := 13) [.int (M.1 208 x1.toNatClampNeg), .int (M.1 209 x1.toNatClampNeg)] dX12_bitOf_13 kX12_347 rfl (Nat.le_of_ble_eq_true rfl) (Nat.le_of_ble_eq_true rfl) h (fun z13 m13 hG h => ?_)
  refine mm_ishl (pc := 16) dX12_bitOf_16 ?_
  exact mm_iret (pc := 17) dX12_bitOf_17 rfl (Nat.le_refl 0) (Nat.le_refl 0) ⟨_, rfl, rfl, hG, h⟩
def jX12_laysFree_4 (d : Nat) (M : mm_M) (K : Int32 → mm_M → Prop) (y1 : Int32) (y2 : Int32) : Prop := mm_W mX12_laysFree (d + 1) 0 0 4 [(0, .ref 164), (1, .int y1), (2, .int y2)] [] mm_SH M 0 0 (mm_PI K)
def jX12_laysFree_16 (d : Nat) (M : mm_M) (K : Int32 → mm_M → Prop) (y1 : Int32) (y2 : Int32) (y3 : Int32) : Prop := mm_W mX12_laysFree (d + 1) 0 0 16 [(0, .ref 164), (1, .int y1), (2, .int y2), (3, .int y3)] [] mm_SH M 0 0 (mm_PI K)
set_option maxRecDepth 100000 in
set_option maxHeartbeats 4000000 in
theorem rX12_laysFree {d : Nat} {M : mm_M} {K : Int32 → mm_M → Prop} (hG : mm_G M.2.2) (h : jX12_laysFree_4 d M K 0 0) : mm_CI mX12_laysFree (d + 1) [.ref 164] M K := by
  show mm_W mX12_laysFree (d + 1) 0 0 0 [(0, .ref 164)] [] mm_SH M 0 0 (mm_PI K)
  refine mm_iconst (pc := 0) (x := 0) dX12_laysFree_0 rfl ?_
  refine mm_istore_n (pc := 1) (lv' := [(1, .int 0), (0, .ref 164)]) dX12_laysFree_1 rfl (by decide) rfl ?_
  refine mm_iconst (pc := 2) (x := 0) dX12_laysFree_2 rfl ?_
  refine mm_istore_n (pc := 3) (lv' := [(2, .int 0), (1, .int 0), (0, .ref 164)]) dX12_laysFree_3 rfl (by decide) rfl ?_
  exact mm_sub [2, 1, 0] rfl h
set_option maxRecDepth 100000 in
set_option maxHeartbeats 4000000 in
theorem lX12_laysFree_4 {d : Nat} {M : mm_M} {K : Int32 → mm_M → Prop} {y1 : Int32} {y2 : Int32} (hG : mm_G M.2.2) (h : mm_CI mX12_houseMany d [.ref 164] M (fun z6 m6 => if z6 ≤ y2 then (K y1 m6) else (jX12_laysFree_16 d m6 K y1 y2 (y2 + 1)))) : jX12_laysFree_4 d  M K y1 y2 := by
  unfold jX12_laysFree_4
  refine mm_iload_n (pc := 4) (j := 2) dX12_laysFree_4 rfl rfl ?_
  refine mm_aload_n (pc := 5) (j := 0) dX12_laysFree_5 rfl rfl ?_
  refine mm_kVI (pc := 6) [] dX12_laysFree_6 kX12_412 rfl sh_164 (Nat.le_of_ble_eq_true rfl) (Nat.le_of_ble_eq_true rfl) h (fun z6 m6 hG h => ?_)
  refine mm_icmp_ge (pc := 9) (tgt := 81) dX12_laysFree_9 (by decide) (fun hc => ?_) (fun hc => ?_)
  · have h := mm_ift hc h
    refine mm_iload_n (pc := 81) (j := 1) dX12_laysFree_81 rfl rfl ?_
    exact mm_iret (pc := 82) dX12_laysFree_82 rfl (Nat.le_refl 0) (Nat.le_refl 0) ⟨_, rfl, rfl, hG, h⟩
  · have h := mm_iff hc h
    refine mm_iload_n (pc := 12) (j := 2) dX12_laysFree_12 rfl rfl ?_
    refine mm_iconst (pc := 13) (x := 1) dX12_laysFree_13 rfl ?_
    refine mm_iadd (pc := 14) dX12_laysFree_14 ?_
    refine mm_istore_n (pc := 15) (lv' := [(3, .int (y2 + 1)), (0, .ref 164), (1, .int y1), (2, .int y2)]) dX12_laysFree_15 rfl (by decide) rfl ?_
    exact mm_sub [1, 2, 3, 0] rfl h
set_option maxRecDepth 100000 in
set_option maxHeartbeats 4000000 in
theorem lX12_laysFree_16 {d : Nat} {M : mm_M} {K : Int32 → mm_M → Prop} {y1 : Int32} {y2 : Int32} {y3 : Int32} (hG : mm_G M.2.2) (h : mm_CI mX12_houseMany d [.ref 164] M (fun z18 m18 => if z18 ≤ y3 then (jX12_laysFree_4 d m18 K y1 (y2 + 1)) else (mm_CI mX12_isThere d [.ref 164, .int y2] m18 (fun z26 m26 => if z26 = 0 then (jX12_laysFree_16 d m26 K y1 y2 (y3 + 1)) else (mm_CI mX12_isThere d [.ref 164, .int y3] m26 (fun z34 m34 => if z34 = 0 then (jX12_laysFree_16 d m34 K y1 y2 (y3 + 1)) else (mm_CI mX12_areEnemies d [.ref 164, .int y2, .int y3] m34 (fun z43 m43 => if z43 = 0 then (vp_in y1 21 ∧ vp_in y1 21 ∧ jX12_laysFree_16 d (mm_uI (mm_uI m43 208 y1.toNatClampNeg y2) 209 y1.toNatClampNeg y3) K (y1 + 1) y2 (y3 + 1)) else (jX12_laysFree_16 d m43 K y1 y2 (y3 + 1)))))))))) : jX12_laysFree_16 d  M K y1 y2 y3 := by
  unfold jX12_laysFree_16
  refine mm_iload_n (pc := 16) (j := 3) dX12_laysFree_16 rfl rfl ?_
  refine mm_aload_n (pc := 17) (j := 0) dX12_laysFree_17 rfl rfl ?_
  refine mm_kVI (pc := 18) [] dX12_laysFree_18 kX12_412 rfl sh_164 (Nat.le_of_ble_eq_true rfl) (Nat.le_of_ble_eq_true rfl) h (fun z18 m18 hG h => ?_)
  refine mm_icmp_ge (pc := 21) (tgt := 75) dX12_laysFree_21 (by decide) (fun hc => ?_) (fun hc => ?_)
  · have h := mm_ift hc h
    refine mm_iinc (pc := 75) (j := 2) (v := y2 + 1) (lv' := [(2, .int (y2 + 1)), (0, .ref 164), (1, .int y1), (3, .int y3)]) dX12_laysFree_75 rfl rfl (by decide) rfl ?_
    refine mm_goto (pc := 78) (tgt := 4) dX12_laysFree_78 (by decide) ?_
    exact mm_sub [1, 2, 0] rfl h
  · have h := mm_iff hc h
    refine mm_aload_n (pc := 24) (j := 0) dX12_laysFree_24 rfl rfl ?_
    refine mm_iload_n (pc := 25) (j := 2) dX12_laysFree_25 rfl rfl ?_
    refine mm_kVI (pc := 26) [.int y2] dX12_laysFree_26 kX12_462 rfl sh_164 (Nat.le_of_ble_eq_true rfl) (Nat.le_of_ble_eq_true rfl) h (fun z26 m26 hG h => ?_)
    refine mm_if_eq (pc := 29) (tgt := 69) dX12_laysFree_29 (by decide) (fun hc => ?_) (fun hc => ?_)
    · have h := mm_ift hc h
      refine mm_iinc (pc := 69) (j := 3) (v := y3 + 1) (lv' := [(3, .int (y3 + 1)), (0, .ref 164), (1, .int y1), (2, .int y2)]) dX12_laysFree_69 rfl rfl (by decide) rfl ?_
      refine mm_goto (pc := 72) (tgt := 16) dX12_laysFree_72 (by decide) ?_
      exact mm_sub [1, 2, 3, 0] rfl h
    · have h := mm_iff hc h
      refine mm_aload_n (pc := 32) (j := 0) dX12_laysFree_32 rfl rfl ?_
      refine mm_iload_n (pc := 33) (j := 3) dX12_laysFree_33 rfl rfl ?_
      refine mm_kVI (pc := 34) [.int y3] dX12_laysFree_34 kX12_462 rfl sh_164 (Nat.le_of_ble_eq_true rfl) (Nat.le_of_ble_eq_true rfl) h (fun z34 m34 hG h => ?_)
      refine mm_if_eq (pc := 37) (tgt := 69) dX12_laysFree_37 (by decide) (fun hc => ?_) (fun hc => ?_)
      · have h := mm_ift hc h
        refine mm_iinc (pc := 69) (j := 3) (v := y3 + 1) (lv' := [(3, .int (y3 + 1)), (0, .ref 164), (1, .int y1), (2, .int y2)]) dX12_laysFree_69 rfl rfl (by decide) rfl ?_
        refine mm_goto (pc := 72) (tgt := 16) dX12_laysFree_72 (by decide) ?_
        exact mm_sub [1, 2, 3, 0] rfl h
      · have h := mm_iff hc h
        refine mm_aload_n (pc := 40) (j := 0) dX12_laysFree_40 rfl rfl ?_
        refine mm_iload_n (pc := 41) (j := 2) dX12_laysFree_41 rfl rfl ?_
        refine mm_iload_n (pc := 42) (j := 3) dX12_laysFree_42 rfl rfl ?_
        refine mm_kVI (pc := 43) [.int y2, .int y3] dX12_laysFree_43 kX12_418 rfl sh_164 (Nat.le_of_ble_eq_true rfl) (Nat.le_of_ble_eq_true rfl) h (fun z43 m43 hG h => ?_)
        refine mm_if_eq (pc := 46) (tgt := 52) dX12_laysFree_46 (by decide) (fun hc => ?_) (fun hc => ?_)
        · have h := mm_ift hc h
          refine mm_aload_n (pc := 52) (j := 0) dX12_laysFree_52 rfl rfl ?_
          refine mm_getR (pc := 53) (ci := 12) (N := 116) (r := 208) dX12_laysFree_53 fX12_145 sh_164 rfl (g_164_68 hG) ?_
          refine mm_iload_n (pc := 56) (j := 1) dX12_laysFree_56 rfl rfl ?_
          refine mm_iload_n (pc := 57) (j := 2) dX12_laysFree_57 rfl rfl ?_
          obtain ⟨hi58, h⟩ := h
          refine mm_iastore (pc := 58) (N := 21) dX12_laysFree_58 sh_208 hi58 ?_
          refine mm_aload_n (pc := 59) (j := 0) dX12_laysFree_59 rfl rfl ?_
          refine mm_getR (pc := 60) (ci := 12) (N := 116) (r := 209) dX12_laysFree_60 fX12_148 sh_164 rfl (g_164_69 hG) ?_
          refine mm_iload_n (pc := 63) (j := 1) dX12_laysFree_63 rfl rfl ?_
          refine mm_iload_n (pc := 64) (j := 3) dX12_laysFree_64 rfl rfl ?_
          obtain ⟨hi65, h⟩ := h
          refine mm_iastore (pc := 65) (N := 21) dX12_laysFree_65 sh_209 hi65 ?_
          refine mm_iinc (pc := 66) (j := 1) (v := y1 + 1) (lv' := [(1, .int (y1 + 1)), (0, .ref 164), (2, .int y2), (3, .int y3)]) dX12_laysFree_66 rfl rfl (by decide) rfl ?_
          refine mm_iinc (pc := 69) (j := 3) (v := y3 + 1) (lv' := [(3, .int (y3 + 1)), (1, .int (y1 + 1)), (0, .ref 164), (2, .int y2)]) dX12_laysFree_69 rfl rfl (by decide) rfl ?_
          refine mm_goto (pc := 72) (tgt := 16) dX12_laysFree_72 (by decide) ?_
          exact mm_sub [2, 1, 3, 0] rfl h
        · have h := mm_iff hc h
          refine mm_goto (pc := 49) (tgt := 69) dX12_laysFree_49 (by decide) ?_
          refine mm_iinc (pc := 69) (j := 3) (v := y3 + 1) (lv' := [(3, .int (y3 + 1)), (0, .ref 164), (1, .int y1), (2, .int y2)]) dX12_laysFree_69 rfl rfl (by decide) rfl ?_
          refine mm_goto (pc := 72) (tgt := 16) dX12_laysFree_72 (by decide) ?_
          exact mm_sub [1, 2, 3, 0] rfl h
def jX12_wantingMany_17 (d : Nat) (M : mm_M) (K : Int32 → mm_M → Prop) (y1 : Int32) (y2 : Int32) : Prop := mm_W mX12_wantingMany (d + 1) 0 0 17 [(0, .ref 164), (1, .int y1), (2, .int y2)] [] mm_SH M 0 0 (mm_PI K)
def jX12_wantingMany_51 (d : Nat) (M : mm_M) (K : Int32 → mm_M → Prop) (y1 : Int32) (y2 : Int32) : Prop := mm_W mX12_wantingMany (d + 1) 0 0 51 [(0, .ref 164), (1, .int y1), (2, .int y2)] [] mm_SH M 0 0 (mm_PI K)
def jX12_wantingMany_113 (d : Nat) (M : mm_M) (K : Int32 → mm_M → Prop) (y1 : Int32) (y2 : Int32) : Prop := mm_W mX12_wantingMany (d + 1) 0 0 113 [(0, .ref 164), (1, .int y1), (2, .int y2)] [] mm_SH M 0 0 (mm_PI K)
def jX12_wantingMany_60 (d : Nat) (M : mm_M) (K : Int32 → mm_M → Prop) (y1 : Int32) (y2 : Int32) (y3 : Int32) : Prop := mm_W mX12_wantingMany (d + 1) 0 0 60 [(0, .ref 164), (1, .int y1), (2, .int y2), (3, .int y3)] [] mm_SH M 0 0 (mm_PI K)
def jX12_wantingMany_122 (d : Nat) (M : mm_M) (K : Int32 → mm_M → Prop) (y1 : Int32) (y2 : Int32) (y3 : Int32) : Prop := mm_W mX12_wantingMany (d + 1) 0 0 122 [(0, .ref 164), (1, .int y1), (2, .int y2), (3, .int y3)] [] mm_SH M 0 0 (mm_PI K)
def jX12_wantingMany_132 (d : Nat) (M : mm_M) (K : Int32 → mm_M → Prop) (y1 : Int32) (y2 : Int32) (y3 : Int32) (y4 : Int32) : Prop := mm_W mX12_wantingMany (d + 1) 0 0 132 [(0, .ref 164), (1, .int y1), (2, .int y2), (3, .int y3), (4, .int y4)] [] mm_SH M 0 0 (mm_PI K)
set_option maxRecDepth 100000 in
set_option maxHeartbeats 4000000 in
theorem rX12_wantingMany {d : Nat} {M : mm_M} {K : Int32 → mm_M → Prop} (hG : mm_G M.2.2) (h : mm_CI mX12_laysFree d [.ref 164] M (fun z1 m1 => mm_CI mX12_doAllEat d [.ref 164, .int 0] m1 (fun z7 m7 => if z7 = 0 then (jX12_wantingMany_17 d m7 K z1 0) else (K 0 m7)))) : mm_CI mX12_wantingMany (d + 1) [.ref 164] M K := by
  show mm_W mX12_wantingMany (d + 1) 0 0 0 [(0, .ref 164)] [] mm_SH M 0 0 (mm_PI K)
  refine mm_aload_n (pc := 0) (j := 0) dX12_wantingMany_0 rfl rfl ?_
  refine mm_kVI (pc := 1) [] dX12_wantingMany_1 kX12_578 rfl sh_164 (Nat.le_of_ble_eq_true rfl) (Nat.le_of_ble_eq_true rfl) h (fun z1 m1 hG h => ?_)
  refine mm_istore_n (pc := 4) (lv' := [(1, .int z1), (0, .ref 164)]) dX12_wantingMany_4 rfl (by decide) rfl ?_
  refine mm_aload_n (pc := 5) (j := 1) dX12_wantingMany_5 rfl rfl ?_
  refine mm_iconst (pc := 6) (x := 0) dX12_wantingMany_6 rfl ?_
  refine mm_kVI (pc := 7) [.int 0] dX12_wantingMany_7 kX12_581 rfl sh_164 (Nat.le_of_ble_eq_true rfl) (Nat.le_of_ble_eq_true rfl) h (fun z7 m7 hG h => ?_)
  refine mm_if_eq (pc := 10) (tgt := 15) dX12_wantingMany_10 (by decide) (fun hc => ?_) (fun hc => ?_)
  · have h := mm_ift hc h
    refine mm_iconst (pc := 15) (x := 0) dX12_wantingMany_15 rfl ?_
    refine mm_istore_n (pc := 16) (lv' := [(2, .int 0), (1, .int z1), (0, .ref 164)]) dX12_wantingMany_16 rfl (by decide) rfl ?_
    exact mm_sub [2, 1, 0] rfl h
  · have h := mm_iff hc h
    refine mm_iconst (pc := 13) (x := 0) dX12_wantingMany_13 rfl ?_
    exact mm_iret (pc := 14) dX12_wantingMany_14 rfl (Nat.le_refl 0) (Nat.le_refl 0) ⟨_, rfl, rfl, hG, h⟩
set_option maxRecDepth 100000 in
set_option maxHeartbeats 4000000 in
theorem lX12_wantingMany_17 {d : Nat} {M : mm_M} {K : Int32 → mm_M → Prop} {y1 : Int32} {y2 : Int32} (hG : mm_G M.2.2) (h : if y1 ≤ y2 then (jX12_wantingMany_51 d M K y1 0) else (mm_CI mX12_bitOf d [.ref 164, .int y2] (mm_uI M 210 (0 : Int32).toNatClampNeg y2) (fun z32 m32 => mm_CI mX12_doAllEat d [.ref 164, .int z32] m32 (fun z35 m35 => if z35 = 0 then (jX12_wantingMany_17 d m35 K y1 (y2 + 1)) else (K 1 m35))))) : jX12_wantingMany_17 d  M K y1 y2 := by
  unfold jX12_wantingMany_17
  refine mm_iload_n (pc := 17) (j := 2) dX12_wantingMany_17 rfl rfl ?_
  refine mm_iload_n (pc := 18) (j := 1) dX12_wantingMany_18 rfl rfl ?_
  refine mm_icmp_ge (pc := 19) (tgt := 49) dX12_wantingMany_19 (by decide) (fun hc => ?_) (fun hc => ?_)
  · have h := mm_ift hc h
    refine mm_iconst (pc := 49) (x := 0) dX12_wantingMany_49 rfl ?_
    refine mm_istore_n (pc := 50) (lv' := [(2, .int 0), (0, .ref 164), (1, .int y1)]) dX12_wantingMany_50 rfl (by decide) rfl ?_
    exact mm_sub [1, 2, 0] rfl h
  · have h := mm_iff hc h
    refine mm_aload_n (pc := 22) (j := 0) dX12_wantingMany_22 rfl rfl ?_
    refine mm_getR (pc := 23) (ci := 12) (N := 116) (r := 210) dX12_wantingMany_23 fX12_151 sh_164 rfl (g_164_70 hG) ?_
    refine mm_iconst (pc := 26) (x := 0) dX12_wantingMany_26 rfl ?_
    refine mm_iload_n (pc := 27) (j := 2) dX12_wantingMany_27 rfl rfl ?_
    refine mm_iastore (pc := 28) (N := 3) dX12_wantingMany_28 sh_210 (mm_vin (k := 0) rfl (by decide) (by decide)) ?_
    refine mm_aload_n (pc := 29) (j := 0) dX12_wantingMany_29 rfl rfl ?_
    refine mm_aload_n (pc := 30) (j := 0) dX12_wantingMany_30 rfl rfl ?_
    refine mm_iload_n (pc := 31) (j := 2) dX12_wantingMany_31 rfl rfl ?_
    refine mm_kVI (pc := 32) [.int y2] dX12_wantingMany_32 kX12_584 rfl sh_164 (Nat.le_of_ble_eq_true rfl) (Nat.le_of_ble_eq_true rfl) h (fun z32 m32 hG h => ?_)
    refine mm_kVI (pc := 35) [.int z32] dX12_wantingMany_35 kX12_581 rfl sh_164 (Nat.le_of_ble_eq_true rfl) (Nat.le_of_ble_eq_true rfl) h (fun z35 m35 hG h => ?_)
    refine mm_if_eq (pc := 38) (tgt := 43) dX12_wantingMany_38 (by decide) (fun hc => ?_) (fun hc => ?_)
    · have h := mm_ift hc h
      refine mm_iinc (pc := 43) (j := 2) (v := y2 + 1) (lv' := [(2, .int (y2 + 1)), (0, .ref 164), (1, .int y1)]) dX12_wantingMany_43 rfl rfl (by decide) rfl ?_
      refine mm_goto (pc := 46) (tgt := 17) dX12_wantingMany_46 (by decide) ?_
      exact mm_sub [1, 2, 0] rfl h
    · have h := mm_iff hc h
      refine mm_iconst (pc := 41) (x := 1) dX12_wantingMany_41 rfl ?_
      exact mm_iret (pc := 42) dX12_wantingMany_42 rfl (Nat.le_refl 0) (Nat.le_refl 0) ⟨_, rfl, rfl, hG, h⟩
set_option maxRecDepth 100000 in
set_option maxHeartbeats 4000000 in
theorem lX12_wantingMany_51 {d : Nat} {M : mm_M} {K : Int32 → mm_M → Prop} {y1 : Int32} {y2 : Int32} (hG : mm_G M.2.2) (h : if y1 ≤ y2 then (jX12_wantingMany_113 d M K y1 0) else (jX12_wantingMany_60 d M K y1 y2 (y2 + 1))) : jX12_wantingMany_51 d  M K y1 y2 := by
  unfold jX12_wantingMany_51
  refine mm_iload_n (pc := 51) (j := 2) dX12_wantingMany_51 rfl rfl ?_
  refine mm_iload_n (pc := 52) (j := 1) dX12_wantingMany_52 rfl rfl ?_
  refine mm_icmp_ge (pc := 53) (tgt := 111) dX12_wantingMany_53 (by decide) (fun hc => ?_) (fun hc => ?_)
  · have h := mm_ift hc h
    refine mm_iconst (pc := 111) (x := 0) dX12_wantingMany_111 rfl ?_
    refine mm_istore_n (pc := 112) (lv' := [(2, .int 0), (0, .ref 164), (1, .int y1)]) dX12_wantingMany_112 rfl (by decide) rfl ?_
    exact mm_sub [1, 2, 0] rfl h
  · have h := mm_iff hc h
    refine mm_iload_n (pc := 56) (j := 2) dX12_wantingMany_56 rfl rfl ?_
    refine mm_iconst (pc := 57) (x := 1) dX12_wantingMany_57 rfl ?_
    refine mm_iadd (pc := 58) dX12_wantingMany_58 ?_
    refine mm_istore_n (pc := 59) (lv' := [(3, .int (y2 + 1)), (0, .ref 164), (1, .int y1), (2, .int y2)]) dX12_wantingMany_59 rfl (by decide) rfl ?_
    exact mm_sub [1, 2, 3, 0] rfl h
set_option maxRecDepth 100000 in
set_option maxHeartbeats 4000000 in
theorem lX12_wantingMany_113 {d : Nat} {M : mm_M} {K : Int32 → mm_M → Prop} {y1 : Int32} {y2 : Int32} (hG : mm_G M.2.2) (h : if y1 ≤ y2 then (K (-1) M) else (jX12_wantingMany_122 d M K y1 y2 (y2 + 1))) : jX12_wantingMany_113 d  M K y1 y2 := by
  unfold jX12_wantingMany_113
  refine mm_iload_n (pc := 113) (j := 2) dX12_wantingMany_113 rfl rfl ?_
  refine mm_iload_n (pc := 114) (j := 1) dX12_wantingMany_114 rfl rfl ?_
  refine mm_icmp_ge (pc := 115) (tgt := 205) dX12_wantingMany_115 (by decide) (fun hc => ?_) (fun hc => ?_)
  · have h := mm_ift hc h
    refine mm_iconst (pc := 205) (x := (-1)) dX12_wantingMany_205 rfl ?_
    exact mm_iret (pc := 206) dX12_wantingMany_206 rfl (Nat.le_refl 0) (Nat.le_refl 0) ⟨_, rfl, rfl, hG, h⟩
  · have h := mm_iff hc h
    refine mm_iload_n (pc := 118) (j := 2) dX12_wantingMany_118 rfl rfl ?_
    refine mm_iconst (pc := 119) (x := 1) dX12_wantingMany_119 rfl ?_
    refine mm_iadd (pc := 120) dX12_wantingMany_120 ?_
    refine mm_istore_n (pc := 121) (lv' := [(3, .int (y2 + 1)), (0, .ref 164), (1, .int y1), (2, .int y2)]) dX12_wantingMany_121 rfl (by decide) rfl ?_
    exact mm_sub [1, 2, 3, 0] rfl h
set_option maxRecDepth 100000 in
set_option maxHeartbeats 4000000 in
theorem lX12_wantingMany_60 {d : Nat} {M : mm_M} {K : Int32 → mm_M → Prop} {y1 : Int32} {y2 : Int32} {y3 : Int32} (hG : mm_G M.2.2) (h : if y1 ≤ y3 then (jX12_wantingMany_51 d M K y1 (y2 + 1)) else (mm_CI mX12_bitOf d [.ref 164, .int y2] (mm_uI (mm_uI M 210 (0 : Int32).toNatClampNeg y2) 210 (1 : Int32).toNatClampNeg y3) (fun z82 m82 => mm_CI mX12_bitOf d [.ref 164, .int y3] m82 (fun z87 m87 => mm_CI mX12_doAllEat d [.ref 164, .int (z82 ||| z87)] m87 (fun z91 m91 => if z91 = 0 then (jX12_wantingMany_60 d m91 K y1 y2 (y3 + 1)) else (K 2 m91)))))) : jX12_wantingMany_60 d  M K y1 y2 y3 := by
  unfold jX12_wantingMany_60
  refine mm_iload_n (pc := 60) (j := 3) dX12_wantingMany_60 rfl rfl ?_
  refine mm_iload_n (pc := 61) (j := 1) dX12_wantingMany_61 rfl rfl ?_
  refine mm_icmp_ge (pc := 62) (tgt := 105) dX12_wantingMany_62 (by decide) (fun hc => ?_) (fun hc => ?_)
  · have h := mm_ift hc h
    refine mm_iinc (pc := 105) (j := 2) (v := y2 + 1) (lv' := [(2, .int (y2 + 1)), (0, .ref 164), (1, .int y1), (3, .int y3)]) dX12_wantingMany_105 rfl rfl (by decide) rfl ?_
    refine mm_goto (pc := 108) (tgt := 51) dX12_wantingMany_108 (by decide) ?_
    exact mm_sub [1, 2, 0] rfl h
  · have h := mm_iff hc h
    refine mm_aload_n (pc := 65) (j := 0) dX12_wantingMany_65 rfl rfl ?_
    refine mm_getR (pc := 66) (ci := 12) (N := 116) (r := 210) dX12_wantingMany_66 fX12_151 sh_164 rfl (g_164_70 hG) ?_
    refine mm_iconst (pc := 69) (x := 0) dX12_wantingMany_69 rfl ?_
    refine mm_iload_n (pc := 70) (j := 2) dX12_wantingMany_70 rfl rfl ?_
    refine mm_iastore (pc := 71) (N := 3) dX12_wantingMany_71 sh_210 (mm_vin (k := 0) rfl (by decide) (by decide)) ?_
    refine mm_aload_n (pc := 72) (j := 0) dX12_wantingMany_72 rfl rfl ?_
    refine mm_getR (pc := 73) (ci := 12) (N := 116) (r := 210) dX12_wantingMany_73 fX12_151 sh_164 rfl (g_164_70 hG) ?_
    refine mm_iconst (pc := 76) (x := 1) dX12_wantingMany_76 rfl ?_
    refine mm_iload_n (pc := 77) (j := 3) dX12_wantingMany_77 rfl rfl ?_
    refine mm_iastore (pc := 78) (N := 3) dX12_wantingMany_78 sh_210 (mm_vin (k := 1) rfl (by decide) (by decide)) ?_
    refine mm_aload_n (pc := 79) (j := 0) dX12_wantingMany_79 rfl rfl ?_
    refine mm_aload_n (pc := 80) (j := 0) dX12_wantingMany_80 rfl rfl ?_
    refine mm_iload_n (pc := 81) (j := 2) dX12_wantingMany_81 rfl rfl ?_
    refine mm_kVI (pc := 82) [.int y2] dX12_wantingMany_82 kX12_584 rfl sh_164 (Nat.le_of_ble_eq_true rfl) (Nat.le_of_ble_eq_true rfl) h (fun z82 m82 hG h => ?_)
    refine mm_aload_n (pc := 85) (j := 0) dX12_wantingMany_85 rfl rfl ?_
    refine mm_iload_n (pc := 86) (j := 3) dX12_wantingMany_86 rfl rfl ?_
    refine mm_kVI (pc := 87) [.int y3] dX12_wantingMany_87 kX12_584 rfl sh_164 (Nat.le_of_ble_eq_true rfl) (Nat.le_of_ble_eq_true rfl) h (fun z87 m87 hG h => ?_)
    refine mm_ior (pc := 90) dX12_wantingMany_90 ?_
    refine mm_kVI (pc := 91) [.int (z82 ||| z87)] dX12_wantingMany_91 kX12_581 rfl sh_164 (Nat.le_of_ble_eq_true rfl) (Nat.le_of_ble_eq_true rfl) h (fun z91 m91 hG h => ?_)
    refine mm_if_eq (pc := 94) (tgt := 99) dX12_wantingMany_94 (by decide) (fun hc => ?_) (fun hc => ?_)
    · have h := mm_ift hc h
      refine mm_iinc (pc := 99) (j := 3) (v := y3 + 1) (lv' := [(3, .int (y3 + 1)), (0, .ref 164), (1, .int y1), (2, .int y2)]) dX12_wantingMany_99 rfl rfl (by decide) rfl ?_
      refine mm_goto (pc := 102) (tgt := 60) dX12_wantingMany_102 (by decide) ?_
      exact mm_sub [1, 2, 3, 0] rfl h
    · have h := mm_iff hc h
      refine mm_iconst (pc := 97) (x := 2) dX12_wantingMany_97 rfl ?_
      exact mm_iret (pc := 98) dX12_wantingMany_98 rfl (Nat.le_refl 0) (Nat.le_refl 0) ⟨_, rfl, rfl, hG, h⟩
set_option maxRecDepth 100000 in
set_option maxHeartbeats 4000000 in
theorem lX12_wantingMany_122 {d : Nat} {M : mm_M} {K : Int32 → mm_M → Prop} {y1 : Int32} {y2 : Int32} {y3 : Int32} (hG : mm_G M.2.2) (h : if y1 ≤ y3 then (jX12_wantingMany_113 d M K y1 (y2 + 1)) else (jX12_wantingMany_132 d M K y1 y2 y3 (y3 + 1))) : jX12_wantingMany_122 d  M K y1 y2 y3 := by
  unfold jX12_wantingMany_122
  refine mm_iload_n (pc := 122) (j := 3) dX12_wantingMany_122 rfl rfl ?_
  refine mm_iload_n (pc := 123) (j := 1) dX12_wantingMany_123 rfl rfl ?_
  refine mm_icmp_ge (pc := 124) (tgt := 199) dX12_wantingMany_124 (by decide) (fun hc => ?_) (fun hc => ?_)
  · have h := mm_ift hc h
    refine mm_iinc (pc := 199) (j := 2) (v := y2 + 1) (lv' := [(2, .int (y2 + 1)), (0, .ref 164), (1, .int y1), (3, .int y3)]) dX12_wantingMany_199 rfl rfl (by decide) rfl ?_
    refine mm_goto (pc := 202) (tgt := 113) dX12_wantingMany_202 (by decide) ?_
    exact mm_sub [1, 2, 0] rfl h
  · have h := mm_iff hc h
    refine mm_iload_n (pc := 127) (j := 3) dX12_wantingMany_127 rfl rfl ?_
    refine mm_iconst (pc := 128) (x := 1) dX12_wantingMany_128 rfl ?_
    refine mm_iadd (pc := 129) dX12_wantingMany_129 ?_
    refine mm_istore (pc := 130) (lv' := [(4, .int (y3 + 1)), (0, .ref 164), (1, .int y1), (2, .int y2), (3, .int y3)]) dX12_wantingMany_130 (by decide) rfl ?_
    exact mm_sub [1, 2, 3, 4, 0] rfl h
set_option maxRecDepth 100000 in
set_option maxHeartbeats 4000000 in
theorem lX12_wantingMany_132 {d : Nat} {M : mm_M} {K : Int32 → mm_M → Prop} {y1 : Int32} {y2 : Int32} {y3 : Int32} {y4 : Int32} (hG : mm_G M.2.2) (h : if y1 ≤ y4 then (jX12_wantingMany_122 d M K y1 y2 (y3 + 1)) else (mm_CI mX12_bitOf d [.ref 164, .int y2] (mm_uI (mm_uI (mm_uI M 210 (0 : Int32).toNatClampNeg y2) 210 (1 : Int32).toNatClampNeg y3) 210 (2 : Int32).toNatClampNeg y4) (fun z163 m163 => mm_CI mX12_bitOf d [.ref 164, .int y3] m163 (fun z168 m168 => mm_CI mX12_bitOf d [.ref 164, .int y4] m168 (fun z175 m175 => mm_CI mX12_doAllEat d [.ref 164, .int ((z163 ||| z168) ||| z175)] m175 (fun z179 m179 => if z179 = 0 then (jX12_wantingMany_132 d m179 K y1 y2 y3 (y4 + 1)) else (K 3 m179))))))) : jX12_wantingMany_132 d  M K y1 y2 y3 y4 := by
  unfold jX12_wantingMany_132
  refine mm_iload (pc := 132) (j := 4) dX12_wantingMany_132 rfl ?_
  refine mm_iload_n (pc := 134) (j := 1) dX12_wantingMany_134 rfl rfl ?_
  refine mm_icmp_ge (pc := 135) (tgt := 193) dX12_wantingMany_135 (by decide) (fun hc => ?_) (fun hc => ?_)
  · have h := mm_ift hc h
    refine mm_iinc (pc := 193) (j := 3) (v := y3 + 1) (lv' := [(3, .int (y3 + 1)), (0, .ref 164), (1, .int y1), (2, .int y2), (4, .int y4)]) dX12_wantingMany_193 rfl rfl (by decide) rfl ?_
    refine mm_goto (pc := 196) (tgt := 122) dX12_wantingMany_196 (by decide) ?_
    exact mm_sub [1, 2, 3, 0] rfl h
  · have h := mm_iff hc h
    refine mm_aload_n (pc := 138) (j := 0) dX12_wantingMany_138 rfl rfl ?_
    refine mm_getR (pc := 139) (ci := 12) (N := 116) (r := 210) dX12_wantingMany_139 fX12_151 sh_164 rfl (g_164_70 hG) ?_
    refine mm_iconst (pc := 142) (x := 0) dX12_wantingMany_142 rfl ?_
    refine mm_iload_n (pc := 143) (j := 2) dX12_wantingMany_143 rfl rfl ?_
    refine mm_iastore (pc := 144) (N := 3) dX12_wantingMany_144 sh_210 (mm_vin (k := 0) rfl (by decide) (by decide)) ?_
    refine mm_aload_n (pc := 145) (j := 0) dX12_wantingMany_145 rfl rfl ?_
    refine mm_getR (pc := 146) (ci := 12) (N := 116) (r := 210) dX12_wantingMany_146 fX12_151 sh_164 rfl (g_164_70 hG) ?_
    refine mm_iconst (pc := 149) (x := 1) dX12_wantingMany_149 rfl ?_
    refine mm_iload_n (pc := 150) (j := 3) dX12_wantingMany_150 rfl rfl ?_
    refine mm_iastore (pc := 151) (N := 3) dX12_wantingMany_151 sh_210 (mm_vin (k := 1) rfl (by decide) (by decide)) ?_
    refine mm_aload_n (pc := 152) (j := 0) dX12_wantingMany_152 rfl rfl ?_
    refine mm_getR (pc := 153) (ci := 12) (N := 116) (r := 210) dX12_wantingMany_153 fX12_151 sh_164 rfl (g_164_70 hG) ?_
    refine mm_iconst (pc := 156) (x := 2) dX12_wantingMany_156 rfl ?_
    refine mm_iload (pc := 157) (j := 4) dX12_wantingMany_157 rfl ?_
    refine mm_iastore (pc := 159) (N := 3) dX12_wantingMany_159 sh_210 (mm_vin (k := 2) rfl (by decide) (by decide)) ?_
    refine mm_aload_n (pc := 160) (j := 0) dX12_wantingMany_160 rfl rfl ?_
    refine mm_aload_n (pc := 161) (j := 0) dX12_wantingMany_161 rfl rfl ?_
    refine mm_iload_n (pc := 162) (j := 2) dX12_wantingMany_162 rfl rfl ?_
    refine mm_kVI (pc := 163) [.int y2] dX12_wantingMany_163 kX12_584 rfl sh_164 (Nat.le_of_ble_eq_true rfl) (Nat.le_of_ble_eq_true rfl) h (fun z163 m163 hG h => ?_)
    refine mm_aload_n (pc := 166) (j := 0) dX12_wantingMany_166 rfl rfl ?_
    refine mm_iload_n (pc := 167) (j := 3) dX12_wantingMany_167 rfl rfl ?_
    refine mm_kVI (pc := 168) [.int y3] dX12_wantingMany_168 kX12_584 rfl sh_164 (Nat.le_of_ble_eq_true rfl) (Nat.le_of_ble_eq_true rfl) h (fun z168 m168 hG h => ?_)
    refine mm_ior (pc := 171) dX12_wantingMany_171 ?_
    refine mm_aload_n (pc := 172) (j := 0) dX12_wantingMany_172 rfl rfl ?_
    refine mm_iload (pc := 173) (j := 4) dX12_wantingMany_173 rfl ?_
    refine mm_kVI (pc := 175) [.int y4] dX12_wantingMany_175 kX12_584 rfl sh_164 (Nat.le_of_ble_eq_true rfl) (Nat.le_of_ble_eq_true rfl) h (fun z175 m175 hG h => ?_)
    refine mm_ior (pc := 178) dX12_wantingMany_178 ?_
    refine mm_kVI (pc := 179) [.int ((z163 ||| z168) ||| z175)] dX12_wantingMany_179 kX12_581 rfl sh_164 (Nat.le_of_ble_eq_true rfl) (Nat.le_of_ble_eq_true rfl) h (fun z179 m179 hG h => ?_)
    refine mm_if_eq (pc := 182) (tgt := 187) dX12_wantingMany_182 (by decide) (fun hc => ?_) (fun hc => ?_)
    · have h := mm_ift hc h
      refine mm_iinc (pc := 187) (j := 4) (v := y4 + 1) (lv' := [(4, .int (y4 + 1)), (0, .ref 164), (1, .int y1), (2, .int y2), (3, .int y3)]) dX12_wantingMany_187 rfl rfl (by decide) rfl ?_
      refine mm_goto (pc := 190) (tgt := 132) dX12_wantingMany_190 (by decide) ?_
      exact mm_sub [1, 2, 3, 4, 0] rfl h
    · have h := mm_iff hc h
      refine mm_iconst (pc := 185) (x := 3) dX12_wantingMany_185 rfl ?_
      exact mm_iret (pc := 186) dX12_wantingMany_186 rfl (Nat.le_refl 0) (Nat.le_refl 0) ⟨_, rfl, rfl, hG, h⟩
set_option maxRecDepth 100000 in
set_option maxHeartbeats 4000000 in
theorem rX12_wanting {d : Nat} {x1 : Int32} {M : mm_M} {K : Int32 → mm_M → Prop} (hG : mm_G M.2.2) (h : if (M.1 164 48) = 0 then (K (-1) M) else (mm_CI mX12_isIn d [.long x1.toInt64, .long (-1), .long 2] M (fun z15 m15 => if z15 = 0 then (K (-1) m15) else (mm_CI mX12_wantingMany d [.ref 164] m15 (fun z24 m24 => if x1 = (-1) then (K z24 (mm_uI m24 164 66 0)) else (if z24 = (-1) then (K z24 (mm_uI m24 164 66 0)) else (if z24 ≤ x1 then (K (-1) (mm_uI m24 164 66 0)) else (vp_in x1 3 ∧ vp_in ((mm_uI m24 164 66 0).1 210 x1.toNatClampNeg) 21 ∧ vp_in x1 3 ∧ vp_in ((mm_uI m24 164 66 0).1 210 x1.toNatClampNeg) 21 ∧ K ((8 * ((mm_uI m24 164 66 0).1 208 ((mm_uI m24 164 66 0).1 210 x1.toNatClampNeg).toNatClampNeg)) + ((mm_uI m24 164 66 0).1 209 ((mm_uI m24 164 66 0).1 210 x1.toNatClampNeg).toNatClampNeg)) (mm_uI m24 164 66 0))))))))) : mm_CI mX12_wanting (d + 1) [.ref 164, .int x1] M K := by
  show mm_W mX12_wanting (d + 1) 0 0 0 [(0, .ref 164), (1, .int x1)] [] mm_SH M 0 0 (mm_PI K)
  refine mm_aload_n (pc := 0) (j := 0) dX12_wanting_0 rfl rfl ?_
  refine mm_getI (pc := 1) (ci := 12) (N := 116) dX12_wanting_1 fX12_399 sh_164 rfl ?_
  refine mm_if_eq (pc := 4) (tgt := 21) dX12_wanting_4 (by decide) (fun hc => ?_) (fun hc => ?_)
  · have h := mm_ift hc h
    refine mm_iconst (pc := 21) (x := (-1)) dX12_wanting_21 rfl ?_
    exact mm_iret (pc := 22) dX12_wanting_22 rfl (Nat.le_refl 0) (Nat.le_refl 0) ⟨_, rfl, rfl, hG, h⟩
  · have h := mm_iff hc h
    refine mm_iload_n (pc := 7) (j := 1) dX12_wanting_7 rfl rfl ?_
    refine mm_i2l (pc := 8) dX12_wanting_8 ?_
    refine mm_ldc2 (pc := 9) (x := (-1)) dX12_wanting_9 cX12_587 ?_
    refine mm_ldc2 (pc := 12) (x := 2) dX12_wanting_12 cX12_554 ?_
    refine mm_kSI (pc := 15) [.long x1.toInt64, .long (-1), .long 2] dX12_wanting_15 kX12_303 rfl (Nat.le_of_ble_eq_true rfl) (Nat.le_of_ble_eq_true rfl) h (fun z15 m15 hG h => ?_)
    refine mm_if_ne (pc := 18) (tgt := 23) dX12_wanting_18 (by decide) (fun hc => ?_) (fun hc => ?_)
    · have h := mm_iff hc h
      refine mm_aload_n (pc := 23) (j := 0) dX12_wanting_23 rfl rfl ?_
      refine mm_kVI (pc := 24) [] dX12_wanting_24 kX12_589 rfl sh_164 (Nat.le_of_ble_eq_true rfl) (Nat.le_of_ble_eq_true rfl) h (fun z24 m24 hG h => ?_)
      refine mm_istore_n (pc := 27) (lv' := [(2, .int z24), (0, .ref 164), (1, .int x1)]) dX12_wanting_27 rfl (by decide) rfl ?_
      refine mm_aload_n (pc := 28) (j := 1) dX12_wanting_28 rfl rfl ?_
      refine mm_iconst (pc := 29) (x := 0) dX12_wanting_29 rfl ?_
      refine mm_putI (pc := 30) (ci := 12) (N := 116) dX12_wanting_30 fX12_559 sh_164 (by decide +kernel) rfl rfl rfl ?_
      refine mm_iload_n (pc := 33) (j := 2) dX12_wanting_33 rfl rfl ?_
      refine mm_iconst (pc := 34) (x := (-1)) dX12_wanting_34 rfl ?_
      refine mm_icmp_eq (pc := 35) (tgt := 43) dX12_wanting_35 (by decide) (fun hc => ?_) (fun hc => ?_)
      · have h := mm_ift hc h
        refine mm_iload_n (pc := 43) (j := 0) dX12_wanting_43 rfl rfl ?_
        exact mm_iret (pc := 44) dX12_wanting_44 rfl (Nat.le_refl 0) (Nat.le_refl 0) ⟨_, rfl, rfl, hG, h⟩
      · have h := mm_iff hc h
        refine mm_iload_n (pc := 38) (j := 0) dX12_wanting_38 rfl rfl ?_
        refine mm_iconst (pc := 39) (x := (-1)) dX12_wanting_39 rfl ?_
        refine mm_icmp_ne (pc := 40) (tgt := 45) dX12_wanting_40 (by decide) (fun hc => ?_) (fun hc => ?_)
        · have h := mm_iff hc h
          refine mm_iload_n (pc := 45) (j := 2) dX12_wanting_45 rfl rfl ?_
          refine mm_iload_n (pc := 46) (j := 0) dX12_wanting_46 rfl rfl ?_
          refine mm_icmp_ge (pc := 47) (tgt := 79) dX12_wanting_47 (by decide) (fun hc => ?_) (fun hc => ?_)
          · have h := mm_ift hc h
            refine mm_iconst (pc := 79) (x := (-1)) dX12_wanting_79 rfl ?_
            exact mm_iret (pc := 80) dX12_wanting_80 rfl (Nat.le_refl 0) (Nat.le_refl 0) ⟨_, rfl, rfl, hG, h⟩
          · have h := mm_iff hc h
            refine mm_bipush (pc := 50) (x := 8) dX12_wanting_50 rfl ?_
            refine mm_aload_n (pc := 52) (j := 1) dX12_wanting_52 rfl rfl ?_
            refine mm_getR (pc := 53) (ci := 12) (N := 116) (r := 208) dX12_wanting_53 fX12_145 sh_164 rfl (g_164_68 hG) ?_
            refine mm_aload_n (pc := 56) (j := 1) dX12_wanting_56 rfl rfl ?_
            refine mm_getR (pc := 57) (ci := 12) (N := 116) (r := 210) dX12_wanting_57 fX12_151 sh_164 rfl (g_164_70 hG) ?_
            refine mm_iload_n (pc := 60) (j := 2) dX12_wanting_60 rfl rfl ?_
            obtain ⟨hi61, h⟩ := h
            refine mm_iaload (pc := 61) (N := 3) dX12_wanting_61 sh_210 hi61 ?_
            obtain ⟨hi62, h⟩ := h
            refine mm_iaload (pc := 62) (N := 21) dX12_wanting_62 sh_208 hi62 ?_
            refine mm_imul (pc := 63) dX12_wanting_63 ?_
            refine mm_aload_n (pc := 64) (j := 1) dX12_wanting_64 rfl rfl ?_
            refine mm_getR (pc := 65) (ci := 12) (N := 116) (r := 209) dX12_wanting_65 fX12_148 sh_164 rfl (g_164_69 hG) ?_
            refine mm_aload_n (pc := 68) (j := 1) dX12_wanting_68 rfl rfl ?_
            refine mm_getR (pc := 69) (ci := 12) (N := 116) (r := 210) dX12_wanting_69 fX12_151 sh_164 rfl (g_164_70 hG) ?_
            refine mm_iload_n (pc := 72) (j := 2) dX12_wanting_72 rfl rfl ?_
            obtain ⟨hi73, h⟩ := h
            refine mm_iaload (pc := 73) (N := 3) dX12_wanting_73 sh_210 hi73 ?_
            obtain ⟨hi74, h⟩ := h
            refine mm_iaload (pc := 74) (N := 21) dX12_wanting_74 sh_209 hi74 ?_
            refine mm_iadd (pc := 75) dX12_wanting_75 ?_
            refine mm_goto (pc := 76) (tgt := 80) dX12_wanting_76 (by decide) ?_
            exact mm_iret (pc := 80) dX12_wanting_80 rfl (Nat.le_refl 0) (Nat.le_refl 0) ⟨_, rfl, rfl, hG, h⟩
        · have h := mm_ift hc h
          refine mm_iload_n (pc := 43) (j := 0) dX12_wanting_43 rfl rfl ?_
          exact mm_iret (pc := 44) dX12_wanting_44 rfl (Nat.le_refl 0) (Nat.le_refl 0) ⟨_, rfl, rfl, hG, h⟩
    · have h := mm_ift hc h
      refine mm_iconst (pc := 21) (x := (-1)) dX12_wanting_21 rfl ?_
      exact mm_iret (pc := 22) dX12_wanting_22 rfl (Nat.le_refl 0) (Nat.le_refl 0) ⟨_, rfl, rfl, hG, h⟩
def jX12_laysFeuds_4 (d : Nat) (M : mm_M) (K : Int32 → mm_M → Prop) (y1 : Int32) (y2 : Int32) : Prop := mm_W mX12_laysFeuds (d + 1) 0 0 4 [(0, .ref 164), (1, .int y1), (2, .int y2)] [] mm_SH M 0 0 (mm_PI K)
def jX12_laysFeuds_16 (d : Nat) (M : mm_M) (K : Int32 → mm_M → Prop) (y1 : Int32) (y2 : Int32) (y3 : Int32) : Prop := mm_W mX12_laysFeuds (d + 1) 0 0 16 [(0, .ref 164), (1, .int y1), (2, .int y2), (3, .int y3)] [] mm_SH M 0 0 (mm_PI K)
set_option maxRecDepth 100000 in
set_option maxHeartbeats 4000000 in
theorem rX12_laysFeuds {d : Nat} {M : mm_M} {K : Int32 → mm_M → Prop} (hG : mm_G M.2.2) (h : jX12_laysFeuds_4 d M K 0 0) : mm_CI mX12_laysFeuds (d + 1) [.ref 164] M K := by
  show mm_W mX12_laysFeuds (d + 1) 0 0 0 [(0, .ref 164)] [] mm_SH M 0 0 (mm_PI K)
  refine mm_iconst (pc := 0) (x := 0) dX12_laysFeuds_0 rfl ?_
  refine mm_istore_n (pc := 1) (lv' := [(1, .int 0), (0, .ref 164)]) dX12_laysFeuds_1 rfl (by decide) rfl ?_
  refine mm_iconst (pc := 2) (x := 0) dX12_laysFeuds_2 rfl ?_
  refine mm_istore_n (pc := 3) (lv' := [(2, .int 0), (1, .int 0), (0, .ref 164)]) dX12_laysFeuds_3 rfl (by decide) rfl ?_
  exact mm_sub [2, 1, 0] rfl h
set_option maxRecDepth 100000 in
set_option maxHeartbeats 4000000 in
theorem lX12_laysFeuds_4 {d : Nat} {M : mm_M} {K : Int32 → mm_M → Prop} {y1 : Int32} {y2 : Int32} (hG : mm_G M.2.2) (h : mm_CI mX12_houseMany d [.ref 164] M (fun z6 m6 => if z6 ≤ y2 then (K y1 m6) else (jX12_laysFeuds_16 d m6 K y1 y2 (y2 + 1)))) : jX12_laysFeuds_4 d  M K y1 y2 := by
  unfold jX12_laysFeuds_4
  refine mm_iload_n (pc := 4) (j := 2) dX12_laysFeuds_4 rfl rfl ?_
  refine mm_aload_n (pc := 5) (j := 0) dX12_laysFeuds_5 rfl rfl ?_
  refine mm_kVI (pc := 6) [] dX12_laysFeuds_6 kX12_412 rfl sh_164 (Nat.le_of_ble_eq_true rfl) (Nat.le_of_ble_eq_true rfl) h (fun z6 m6 hG h => ?_)
  refine mm_icmp_ge (pc := 9) (tgt := 65) dX12_laysFeuds_9 (by decide) (fun hc => ?_) (fun hc => ?_)
  · have h := mm_ift hc h
    refine mm_iload_n (pc := 65) (j := 1) dX12_laysFeuds_65 rfl rfl ?_
    exact mm_iret (pc := 66) dX12_laysFeuds_66 rfl (Nat.le_refl 0) (Nat.le_refl 0) ⟨_, rfl, rfl, hG, h⟩
  · have h := mm_iff hc h
    refine mm_iload_n (pc := 12) (j := 2) dX12_laysFeuds_12 rfl rfl ?_
    refine mm_iconst (pc := 13) (x := 1) dX12_laysFeuds_13 rfl ?_
    refine mm_iadd (pc := 14) dX12_laysFeuds_14 ?_
    refine mm_istore_n (pc := 15) (lv' := [(3, .int (y2 + 1)), (0, .ref 164), (1, .int y1), (2, .int y2)]) dX12_laysFeuds_15 rfl (by decide) rfl ?_
    exact mm_sub [1, 2, 3, 0] rfl h
set_option maxRecDepth 100000 in
set_option maxHeartbeats 4000000 in
theorem lX12_laysFeuds_16 {d : Nat} {M : mm_M} {K : Int32 → mm_M → Prop} {y1 : Int32} {y2 : Int32} {y3 : Int32} (hG : mm_G M.2.2) (h : mm_CI mX12_houseMany d [.ref 164] M (fun z18 m18 => if z18 ≤ y3 then (jX12_laysFeuds_4 d m18 K y1 (y2 + 1)) else (mm_CI mX12_areEnemies d [.ref 164, .int y2, .int y3] m18 (fun z27 m27 => if z27 = 0 then (jX12_laysFeuds_16 d m27 K y1 y2 (y3 + 1)) else (vp_in y1 21 ∧ vp_in y1 21 ∧ jX12_laysFeuds_16 d (mm_uI (mm_uI m27 208 y1.toNatClampNeg y2) 209 y1.toNatClampNeg y3) K (y1 + 1) y2 (y3 + 1)))))) : jX12_laysFeuds_16 d  M K y1 y2 y3 := by
  unfold jX12_laysFeuds_16
  refine mm_iload_n (pc := 16) (j := 3) dX12_laysFeuds_16 rfl rfl ?_
  refine mm_aload_n (pc := 17) (j := 0) dX12_laysFeuds_17 rfl rfl ?_
  refine mm_kVI (pc := 18) [] dX12_laysFeuds_18 kX12_412 rfl sh_164 (Nat.le_of_ble_eq_true rfl) (Nat.le_of_ble_eq_true rfl) h (fun z18 m18 hG h => ?_)
  refine mm_icmp_ge (pc := 21) (tgt := 59) dX12_laysFeuds_21 (by decide) (fun hc => ?_) (fun hc => ?_)
  · have h := mm_ift hc h
    refine mm_iinc (pc := 59) (j := 2) (v := y2 + 1) (lv' := [(2, .int (y2 + 1)), (0, .ref 164), (1, .int y1), (3, .int y3)]) dX12_laysFeuds_59 rfl rfl (by decide) rfl ?_
    refine mm_goto (pc := 62) (tgt := 4) dX12_laysFeuds_62 (by decide) ?_
    exact mm_sub [1, 2, 0] rfl h
  · have h := mm_iff hc h
    refine mm_aload_n (pc := 24) (j := 0) dX12_laysFeuds_24 rfl rfl ?_
    refine mm_iload_n (pc := 25) (j := 2) dX12_laysFeuds_25 rfl rfl ?_
    refine mm_iload_n (pc := 26) (j := 3) dX12_laysFeuds_26 rfl rfl ?_
    refine mm_kVI (pc := 27) [.int y2, .int y3] dX12_laysFeuds_27 kX12_418 rfl sh_164 (Nat.le_of_ble_eq_true rfl) (Nat.le_of_ble_eq_true rfl) h (fun z27 m27 hG h => ?_)
    refine mm_if_ne (pc := 30) (tgt := 36) dX12_laysFeuds_30 (by decide) (fun hc => ?_) (fun hc => ?_)
    · have h := mm_iff hc h
      refine mm_aload_n (pc := 36) (j := 0) dX12_laysFeuds_36 rfl rfl ?_
      refine mm_getR (pc := 37) (ci := 12) (N := 116) (r := 208) dX12_laysFeuds_37 fX12_145 sh_164 rfl (g_164_68 hG) ?_
      refine mm_iload_n (pc := 40) (j := 1) dX12_laysFeuds_40 rfl rfl ?_
      refine mm_iload_n (pc := 41) (j := 2) dX12_laysFeuds_41 rfl rfl ?_
      obtain ⟨hi42, h⟩ := h
      refine mm_iastore (pc := 42) (N := 21) dX12_laysFeuds_42 sh_208 hi42 ?_
      refine mm_aload_n (pc := 43) (j := 0) dX12_laysFeuds_43 rfl rfl ?_
      refine mm_getR (pc := 44) (ci := 12) (N := 116) (r := 209) dX12_laysFeuds_44 fX12_148 sh_164 rfl (g_164_69 hG) ?_
      refine mm_iload_n (pc := 47) (j := 1) dX12_laysFeuds_47 rfl rfl ?_
      refine mm_iload_n (pc := 48) (j := 3) dX12_laysFeuds_48 rfl rfl ?_
      obtain ⟨hi49, h⟩ := h
      refine mm_iastore (pc := 49) (N := 21) dX12_laysFeuds_49 sh_209 hi49 ?_
      refine mm_iinc (pc := 50) (j := 1) (v := y1 + 1) (lv' := [(1, .int (y1 + 1)), (0, .ref 164), (2, .int y2), (3, .int y3)]) dX12_laysFeuds_50 rfl rfl (by decide) rfl ?_
      refine mm_iinc (pc := 53) (j := 3) (v := y3 + 1) (lv' := [(3, .int (y3 + 1)), (1, .int (y1 + 1)), (0, .ref 164), (2, .int y2)]) dX12_laysFeuds_53 rfl rfl (by decide) rfl ?_
      refine mm_goto (pc := 56) (tgt := 16) dX12_laysFeuds_56 (by decide) ?_
      exact mm_sub [2, 1, 3, 0] rfl h
    · have h := mm_ift hc h
      refine mm_goto (pc := 33) (tgt := 53) dX12_laysFeuds_33 (by decide) ?_
      refine mm_iinc (pc := 53) (j := 3) (v := y3 + 1) (lv' := [(3, .int (y3 + 1)), (0, .ref 164), (1, .int y1), (2, .int y2)]) dX12_laysFeuds_53 rfl rfl (by decide) rfl ?_
      refine mm_goto (pc := 56) (tgt := 16) dX12_laysFeuds_56 (by decide) ?_
      exact mm_sub [1, 2, 3, 0] rfl h
def jX12_leftBy_3 (d : Nat) (x1 : Int32) (x2 : Int32) (x3 : Int32) (M : mm_M) (K : Int32 → mm_M → Prop) (y1 : Int32) (y2 : Int32) (y3 : Int32) (y4 : Int32) : Prop := mm_W mX12_leftBy (d + 1) 0 0 3 [(0, .ref 164), (1, .int y1), (2, .int y2), (3, .int y3), (4, .int y4)] [] mm_SH M 0 0 (mm_PI K)
set_option maxRecDepth 100000 in
set_option maxHeartbeats 4000000 in
theorem rX12_leftBy {d : Nat} {x1 : Int32} {x2 : Int32} {x3 : Int32} {M : mm_M} {K : Int32 → mm_M → Prop} (hG : mm_G M.2.2) (h : jX12_leftBy_3 d x1 x2 x3 M K x1 x2 x3 0) : mm_CI mX12_leftBy (d + 1) [.ref 164, .int x1, .int x2, .int x3] M K := by
  show mm_W mX12_leftBy (d + 1) 0 0 0 [(0, .ref 164), (1, .int x1), (2, .int x2), (3, .int x3)] [] mm_SH M 0 0 (mm_PI K)
  refine mm_iconst (pc := 0) (x := 0) dX12_leftBy_0 rfl ?_
  refine mm_istore (pc := 1) (lv' := [(4, .int 0), (0, .ref 164), (1, .int x1), (2, .int x2), (3, .int x3)]) dX12_leftBy_1 (by decide) rfl ?_
  exact mm_sub [1, 2, 3, 4, 0] rfl h
set_option maxRecDepth 100000 in
set_option maxHeartbeats 4000000 in
theorem lX12_leftBy_3 {d : Nat} {x1 : Int32} {x2 : Int32} {x3 : Int32} {M : mm_M} {K : Int32 → mm_M → Prop} {y1 : Int32} {y2 : Int32} {y3 : Int32} {y4 : Int32} (hG : mm_G M.2.2) (h : if y2 ≤ y4 then (mm_CV mX12_daysGo d [.ref 164, .int y3] M (fun m53 => mm_CI mX12_thereSet d [.ref 164] m53 (fun z57 m57 => mm_CV mX12_triesAnew d [.ref 164] m57 (fun m63 => K z57 m63)))) else (if ((y1 >>> (y4 &&& 31)) &&& 1) = 1 then (vp_in y4 21 ∧ vp_in y4 21 ∧ mm_CI mX12_pairOf d [.int (M.1 208 y4.toNatClampNeg), .int (M.1 209 y4.toNatClampNeg)] M (fun z39 m39 => vp_in (22 + z39) 204 ∧ jX12_leftBy_3 d x1 x2 x3 (mm_uI m39 199 (22 + z39).toNatClampNeg 0) K y1 y2 y3 (y4 + 1))) else (jX12_leftBy_3 d x1 x2 x3 M K y1 y2 y3 (y4 + 1)))) : jX12_leftBy_3 d x1 x2 x3 M K y1 y2 y3 y4 := by
  unfold jX12_leftBy_3
  refine mm_iload (pc := 3) (j := 4) dX12_leftBy_3 rfl ?_
  refine mm_iload_n (pc := 5) (j := 2) dX12_leftBy_5 rfl rfl ?_
  refine mm_icmp_ge (pc := 6) (tgt := 51) dX12_leftBy_6 (by decide) (fun hc => ?_) (fun hc => ?_)
  · have h := mm_ift hc h
    refine mm_aload_n (pc := 51) (j := 0) dX12_leftBy_51 rfl rfl ?_
    refine mm_iload_n (pc := 52) (j := 3) dX12_leftBy_52 rfl rfl ?_
    refine mm_kVV (pc := 53) [.int y3] dX12_leftBy_53 kX12_556 rfl sh_164 (Nat.le_of_ble_eq_true rfl) (Nat.le_of_ble_eq_true rfl) h (fun m53 hG h => ?_)
    refine mm_aload_n (pc := 56) (j := 0) dX12_leftBy_56 rfl rfl ?_
    refine mm_kVI (pc := 57) [] dX12_leftBy_57 kX12_522 rfl sh_164 (Nat.le_of_ble_eq_true rfl) (Nat.le_of_ble_eq_true rfl) h (fun z57 m57 hG h => ?_)
    refine mm_istore (pc := 60) (lv' := [(4, .int z57), (0, .ref 164), (1, .int y1), (2, .int y2), (3, .int y3)]) dX12_leftBy_60 (by decide) rfl ?_
    refine mm_aload_n (pc := 62) (j := 1) dX12_leftBy_62 rfl rfl ?_
    refine mm_kVV (pc := 63) [] dX12_leftBy_63 kX12_519 rfl sh_164 (Nat.le_of_ble_eq_true rfl) (Nat.le_of_ble_eq_true rfl) h (fun m63 hG h => ?_)
    refine mm_iload (pc := 66) (j := 0) dX12_leftBy_66 rfl ?_
    exact mm_iret (pc := 68) dX12_leftBy_68 rfl (Nat.le_refl 0) (Nat.le_refl 0) ⟨_, rfl, rfl, hG, h⟩
  · have h := mm_iff hc h
    refine mm_iload_n (pc := 9) (j := 1) dX12_leftBy_9 rfl rfl ?_
    refine mm_iload (pc := 10) (j := 4) dX12_leftBy_10 rfl ?_
    refine mm_ishr (pc := 12) dX12_leftBy_12 ?_
    refine mm_iconst (pc := 13) (x := 1) dX12_leftBy_13 rfl ?_
    refine mm_iand (pc := 14) dX12_leftBy_14 ?_
    refine mm_iconst (pc := 15) (x := 1) dX12_leftBy_15 rfl ?_
    refine mm_icmp_ne (pc := 16) (tgt := 45) dX12_leftBy_16 (by decide) (fun hc => ?_) (fun hc => ?_)
    · have h := mm_iff hc h
      refine mm_iinc (pc := 45) (j := 4) (v := y4 + 1) (lv' := [(4, .int (y4 + 1)), (0, .ref 164), (1, .int y1), (2, .int y2), (3, .int y3)]) dX12_leftBy_45 rfl rfl (by decide) rfl ?_
      refine mm_goto (pc := 48) (tgt := 3) dX12_leftBy_48 (by decide) ?_
      exact mm_sub [1, 2, 3, 4, 0] rfl h
    · have h := mm_ift hc h
      refine mm_aload_n (pc := 19) (j := 0) dX12_leftBy_19 rfl rfl ?_
      refine mm_getR (pc := 20) (ci := 12) (N := 116) (r := 199) dX12_leftBy_20 fX12_118 sh_164 rfl (g_164_50 hG) ?_
      refine mm_bipush (pc := 23) (x := 22) dX12_leftBy_23 rfl ?_
      refine mm_aload_n (pc := 25) (j := 0) dX12_leftBy_25 rfl rfl ?_
      refine mm_getR (pc := 26) (ci := 12) (N := 116) (r := 208) dX12_leftBy_26 fX12_145 sh_164 rfl (g_164_68 hG) ?_
      refine mm_iload (pc := 29) (j := 4) dX12_leftBy_29 rfl ?_
      obtain ⟨hi31, h⟩ := h
      refine mm_iaload (pc := 31) (N := 21) dX12_leftBy_31 sh_208 hi31 ?_
      refine mm_aload_n (pc := 32) (j := 0) dX12_leftBy_32 rfl rfl ?_
      refine mm_getR (pc := 33) (ci := 12) (N := 116) (r := 209) dX12_leftBy_33 fX12_148 sh_164 rfl (g_164_69 hG) ?_
      refine mm_iload (pc := 36) (j := 4) dX12_leftBy_36 rfl ?_
      obtain ⟨hi38, h⟩ := h
      refine mm_iaload (pc := 38) (N := 21) dX12_leftBy_38 sh_209 hi38 ?_
      refine mm_kSI (pc := 39) [.int (M.1 208 y4.toNatClampNeg), .int (M.1 209 y4.toNatClampNeg)] dX12_leftBy_39 kX12_347 rfl (Nat.le_of_ble_eq_true rfl) (Nat.le_of_ble_eq_true rfl) h (fun z39 m39 hG h => ?_)
      refine mm_iadd (pc := 42) dX12_leftBy_42 ?_
      refine mm_iconst (pc := 43) (x := 0) dX12_leftBy_43 rfl ?_
      obtain ⟨hi44, h⟩ := h
      refine mm_iastore (pc := 44) (N := 204) dX12_leftBy_44 sh_199 hi44 ?_
      refine mm_iinc (pc := 45) (j := 4) (v := y4 + 1) (lv' := [(4, .int (y4 + 1)), (0, .ref 164), (1, .int y1), (2, .int y2), (3, .int y3)]) dX12_leftBy_45 rfl rfl (by decide) rfl ?_
      refine mm_goto (pc := 48) (tgt := 3) dX12_leftBy_48 (by decide) ?_
      exact mm_sub [1, 2, 3, 4, 0] rfl h
def jX12_spared_50 (d : Nat) (x1 : Int32) (x2 : Int32) (M : mm_M) (K : Int32 → mm_M → Prop) (y1 : Int32) (y2 : Int32) (y3 : Int32) (y4 : Int32) (y5 : Int32) (y6 : Int32) : Prop := mm_W mX12_spared (d + 1) 0 0 50 [(0, .ref 164), (1, .int y1), (2, .int y2), (3, .int y3), (4, .int y4), (5, .int y5), (6, .int y6)] [] mm_SH M 0 0 (mm_PI K)
def jX12_spared_118 (d : Nat) (x1 : Int32) (x2 : Int32) (M : mm_M) (K : Int32 → mm_M → Prop) (y2 : Int32) (y3 : Int32) (y5 : Int32) (y6 : Int32) (y7 : Int32) : Prop := mm_W mX12_spared (d + 1) 0 0 118 [(0, .ref 164), (2, .int y2), (3, .int y3), (5, .int y5), (6, .int y6), (7, .int y7)] [] mm_SH M 0 0 (mm_PI K)
set_option maxRecDepth 100000 in
set_option maxHeartbeats 4000000 in
theorem rX12_spared {d : Nat} {x1 : Int32} {x2 : Int32} {M : mm_M} {K : Int32 → mm_M → Prop} (hG : mm_G M.2.2) (h : mm_CI mX12_isAhead d [.ref 164, .int x1, .int 1, .int 20] M (fun z5 m5 => if z5 = 0 then (K (-1) m5) else (if (-1) ≤ x2 then (mm_CI mX12_laysFeuds d [.ref 164] m5 (fun z19 m19 => if z19 ≤ 10 then (mm_CV mX12_putsAside d [.ref 164] m19 (fun m32 => mm_CI mX12_leftBy d [.ref 164, .int 0, .int z19, .int x1] m32 (fun z39 m39 => jX12_spared_50 d x1 x2 m39 K x1 x2 z19 z39 0 1))) else (K (-1) m19))) else (K (-1) m5)))) : mm_CI mX12_spared (d + 1) [.ref 164, .int x1, .int x2] M K := by
  show mm_W mX12_spared (d + 1) 0 0 0 [(0, .ref 164), (1, .int x1), (2, .int x2)] [] mm_SH M 0 0 (mm_PI K)
  refine mm_aload_n (pc := 0) (j := 0) dX12_spared_0 rfl rfl ?_
  refine mm_iload_n (pc := 1) (j := 1) dX12_spared_1 rfl rfl ?_
  refine mm_iconst (pc := 2) (x := 1) dX12_spared_2 rfl ?_
  refine mm_bipush (pc := 3) (x := 20) dX12_spared_3 rfl ?_
  refine mm_kVI (pc := 5) [.int x1, .int 1, .int 20] dX12_spared_5 kX12_550 rfl sh_164 (Nat.le_of_ble_eq_true rfl) (Nat.le_of_ble_eq_true rfl) h (fun z5 m5 hG h => ?_)
  refine mm_if_eq (pc := 8) (tgt := 16) dX12_spared_8 (by decide) (fun hc => ?_) (fun hc => ?_)
  · have h := mm_ift hc h
    refine mm_iconst (pc := 16) (x := (-1)) dX12_spared_16 rfl ?_
    exact mm_iret (pc := 17) dX12_spared_17 rfl (Nat.le_refl 0) (Nat.le_refl 0) ⟨_, rfl, rfl, hG, h⟩
  · have h := mm_iff hc h
    refine mm_iload_n (pc := 11) (j := 2) dX12_spared_11 rfl rfl ?_
    refine mm_iconst (pc := 12) (x := (-1)) dX12_spared_12 rfl ?_
    refine mm_icmp_ge (pc := 13) (tgt := 18) dX12_spared_13 (by decide) (fun hc => ?_) (fun hc => ?_)
    · have h := mm_ift hc h
      refine mm_aload_n (pc := 18) (j := 0) dX12_spared_18 rfl rfl ?_
      refine mm_kVI (pc := 19) [] dX12_spared_19 kX12_592 rfl sh_164 (Nat.le_of_ble_eq_true rfl) (Nat.le_of_ble_eq_true rfl) h (fun z19 m19 hG h => ?_)
      refine mm_istore_n (pc := 22) (lv' := [(3, .int z19), (0, .ref 164), (1, .int x1), (2, .int x2)]) dX12_spared_22 rfl (by decide) rfl ?_
      refine mm_iload_n (pc := 23) (j := 0) dX12_spared_23 rfl rfl ?_
      refine mm_bipush (pc := 24) (x := 10) dX12_spared_24 rfl ?_
      refine mm_icmp_le (pc := 26) (tgt := 31) dX12_spared_26 (by decide) (fun hc => ?_) (fun hc => ?_)
      · have h := mm_ift hc h
        refine mm_aload_n (pc := 31) (j := 1) dX12_spared_31 rfl rfl ?_
        refine mm_kVV (pc := 32) [] dX12_spared_32 kX12_544 rfl sh_164 (Nat.le_of_ble_eq_true rfl) (Nat.le_of_ble_eq_true rfl) h (fun m32 hG h => ?_)
        refine mm_aload_n (pc := 35) (j := 1) dX12_spared_35 rfl rfl ?_
        refine mm_iconst (pc := 36) (x := 0) dX12_spared_36 rfl ?_
        refine mm_iload_n (pc := 37) (j := 0) dX12_spared_37 rfl rfl ?_
        refine mm_iload_n (pc := 38) (j := 2) dX12_spared_38 rfl rfl ?_
        refine mm_kVI (pc := 39) [.int 0, .int z19, .int x1] dX12_spared_39 kX12_595 rfl sh_164 (Nat.le_of_ble_eq_true rfl) (Nat.le_of_ble_eq_true rfl) h (fun z39 m39 hG h => ?_)
        refine mm_istore (pc := 42) (lv' := [(4, .int z39), (3, .int z19), (0, .ref 164), (1, .int x1), (2, .int x2)]) dX12_spared_42 (by decide) rfl ?_
        refine mm_iconst (pc := 44) (x := 0) dX12_spared_44 rfl ?_
        refine mm_istore (pc := 45) (lv' := [(5, .int 0), (4, .int z39), (3, .int z19), (0, .ref 164), (1, .int x1), (2, .int x2)]) dX12_spared_45 (by decide) rfl ?_
        refine mm_iconst (pc := 47) (x := 1) dX12_spared_47 rfl ?_
        refine mm_istore (pc := 48) (lv' := [(6, .int 1), (5, .int 0), (4, .int z39), (3, .int z19), (0, .ref 164), (1, .int x1), (2, .int x2)]) dX12_spared_48 (by decide) rfl ?_
        exact mm_sub [4, 5, 6, 3, 2, 1, 0] rfl h
      · have h := mm_iff hc h
        refine mm_iconst (pc := 29) (x := (-1)) dX12_spared_29 rfl ?_
        exact mm_iret (pc := 30) dX12_spared_30 rfl (Nat.le_refl 0) (Nat.le_refl 0) ⟨_, rfl, rfl, hG, h⟩
    · have h := mm_iff hc h
      refine mm_iconst (pc := 16) (x := (-1)) dX12_spared_16 rfl ?_
      exact mm_iret (pc := 17) dX12_spared_17 rfl (Nat.le_refl 0) (Nat.le_refl 0) ⟨_, rfl, rfl, hG, h⟩
set_option maxRecDepth 100000 in
set_option maxHeartbeats 4000000 in
theorem lX12_spared_50 {d : Nat} {x1 : Int32} {x2 : Int32} {M : mm_M} {K : Int32 → mm_M → Prop} {y1 : Int32} {y2 : Int32} {y3 : Int32} {y4 : Int32} {y5 : Int32} {y6 : Int32} (hG : mm_G M.2.2) (h : if ((1 : Int32) <<< (y3 &&& 31)) ≤ y6 then (mm_CV mX12_takesBack d [.ref 164] M (fun m98 => if y2 = (-1) then (mm_CI mX12_bits d [.int y5] m98 (fun z108 m108 => K z108 m108)) else (jX12_spared_118 d x1 x2 m98 K y2 y3 y5 0 0))) else (mm_CI mX12_bits d [.int y6] M (fun z60 m60 => mm_CI mX12_bits d [.int y5] m60 (fun z65 m65 => if z60 ≤ z65 then (jX12_spared_50 d x1 x2 m65 K y1 y2 y3 y4 y5 (y6 + 1)) else (mm_CI mX12_leftBy d [.ref 164, .int y6, .int y3, .int y1] m65 (fun z78 m78 => if (y4 &&& (z78 ^^^ (-1))) = 0 then (jX12_spared_50 d x1 x2 m78 K y1 y2 y3 y4 y6 (y6 + 1)) else (jX12_spared_50 d x1 x2 m78 K y1 y2 y3 y4 y5 (y6 + 1)))))))) : jX12_spared_50 d x1 x2 M K y1 y2 y3 y4 y5 y6 := by
  unfold jX12_spared_50
  refine mm_iload (pc := 50) (j := 6) dX12_spared_50 rfl ?_
  refine mm_iconst (pc := 52) (x := 1) dX12_spared_52 rfl ?_
  refine mm_iload_n (pc := 53) (j := 3) dX12_spared_53 rfl rfl ?_
  refine mm_ishl (pc := 54) dX12_spared_54 ?_
  refine mm_icmp_ge (pc := 55) (tgt := 97) dX12_spared_55 (by decide) (fun hc => ?_) (fun hc => ?_)
  · have h := mm_ift hc h
    refine mm_aload_n (pc := 97) (j := 0) dX12_spared_97 rfl rfl ?_
    refine mm_kVV (pc := 98) [] dX12_spared_98 kX12_547 rfl sh_164 (Nat.le_of_ble_eq_true rfl) (Nat.le_of_ble_eq_true rfl) h (fun m98 hG h => ?_)
    refine mm_iload_n (pc := 101) (j := 2) dX12_spared_101 rfl rfl ?_
    refine mm_iconst (pc := 102) (x := (-1)) dX12_spared_102 rfl ?_
    refine mm_icmp_ne (pc := 103) (tgt := 112) dX12_spared_103 (by decide) (fun hc => ?_) (fun hc => ?_)
    · have h := mm_iff hc h
      refine mm_iconst (pc := 112) (x := 0) dX12_spared_112 rfl ?_
      refine mm_istore (pc := 113) (lv' := [(6, .int 0), (0, .ref 164), (1, .int y1), (2, .int y2), (3, .int y3), (4, .int y4), (5, .int y5)]) dX12_spared_113 (by decide) rfl ?_
      refine mm_iconst (pc := 115) (x := 0) dX12_spared_115 rfl ?_
      refine mm_istore (pc := 116) (lv' := [(7, .int 0), (6, .int 0), (0, .ref 164), (1, .int y1), (2, .int y2), (3, .int y3), (4, .int y4), (5, .int y5)]) dX12_spared_116 (by decide) rfl ?_
      exact mm_sub [2, 4, 5, 7, 1, 0] rfl h
    · have h := mm_ift hc h
      refine mm_iload (pc := 106) (j := 5) dX12_spared_106 rfl ?_
      refine mm_kSI (pc := 108) [.int y5] dX12_spared_108 kX12_525 rfl (Nat.le_of_ble_eq_true rfl) (Nat.le_of_ble_eq_true rfl) h (fun z108 m108 hG h => ?_)
      exact mm_iret (pc := 111) dX12_spared_111 rfl (Nat.le_refl 0) (Nat.le_refl 0) ⟨_, rfl, rfl, hG, h⟩
  · have h := mm_iff hc h
    refine mm_iload (pc := 58) (j := 6) dX12_spared_58 rfl ?_
    refine mm_kSI (pc := 60) [.int y6] dX12_spared_60 kX12_525 rfl (Nat.le_of_ble_eq_true rfl) (Nat.le_of_ble_eq_true rfl) h (fun z60 m60 hG h => ?_)
    refine mm_iload (pc := 63) (j := 5) dX12_spared_63 rfl ?_
    refine mm_kSI (pc := 65) [.int y5] dX12_spared_65 kX12_525 rfl (Nat.le_of_ble_eq_true rfl) (Nat.le_of_ble_eq_true rfl) h (fun z65 m65 hG h => ?_)
    refine mm_icmp_le (pc := 68) (tgt := 91) dX12_spared_68 (by decide) (fun hc => ?_) (fun hc => ?_)
    · have h := mm_ift hc h
      refine mm_iinc (pc := 91) (j := 6) (v := y6 + 1) (lv' := [(6, .int (y6 + 1)), (0, .ref 164), (1, .int y1), (2, .int y2), (3, .int y3), (4, .int y4), (5, .int y5)]) dX12_spared_91 rfl rfl (by decide) rfl ?_
      refine mm_goto (pc := 94) (tgt := 50) dX12_spared_94 (by decide) ?_
      exact mm_sub [1, 2, 3, 4, 5, 6, 0] rfl h
    · have h := mm_iff hc h
      refine mm_iload (pc := 71) (j := 4) dX12_spared_71 rfl ?_
      refine mm_aload_n (pc := 73) (j := 0) dX12_spared_73 rfl rfl ?_
      refine mm_iload (pc := 74) (j := 6) dX12_spared_74 rfl ?_
      refine mm_iload_n (pc := 76) (j := 3) dX12_spared_76 rfl rfl ?_
      refine mm_iload_n (pc := 77) (j := 1) dX12_spared_77 rfl rfl ?_
      refine mm_kVI (pc := 78) [.int y6, .int y3, .int y1] dX12_spared_78 kX12_595 rfl sh_164 (Nat.le_of_ble_eq_true rfl) (Nat.le_of_ble_eq_true rfl) h (fun z78 m78 hG h => ?_)
      refine mm_iconst (pc := 81) (x := (-1)) dX12_spared_81 rfl ?_
      refine mm_ixor (pc := 82) dX12_spared_82 ?_
      refine mm_iand (pc := 83) dX12_spared_83 ?_
      refine mm_if_ne (pc := 84) (tgt := 91) dX12_spared_84 (by decide) (fun hc => ?_) (fun hc => ?_)
      · have h := mm_iff hc h
        refine mm_iinc (pc := 91) (j := 6) (v := y6 + 1) (lv' := [(6, .int (y6 + 1)), (0, .ref 164), (1, .int y1), (2, .int y2), (3, .int y3), (4, .int y4), (5, .int y5)]) dX12_spared_91 rfl rfl (by decide) rfl ?_
        refine mm_goto (pc := 94) (tgt := 50) dX12_spared_94 (by decide) ?_
        exact mm_sub [1, 2, 3, 4, 5, 6, 0] rfl h
      · have h := mm_ift hc h
        refine mm_iload (pc := 87) (j := 6) dX12_spared_87 rfl ?_
        refine mm_istore (pc := 89) (lv' := [(5, .int y6), (0, .ref 164), (1, .int y1), (2, .int y2), (3, .int y3), (4, .int y4), (6, .int y6)]) dX12_spared_89 (by decide) rfl ?_
        refine mm_iinc (pc := 91) (j := 6) (v := y6 + 1) (lv' := [(6, .int (y6 + 1)), (5, .int y6), (0, .ref 164), (1, .int y1), (2, .int y2), (3, .int y3), (4, .int y4)]) dX12_spared_91 rfl rfl (by decide) rfl ?_
        refine mm_goto (pc := 94) (tgt := 50) dX12_spared_94 (by decide) ?_
        exact mm_sub [2, 3, 4, 5, 6, 1, 0] rfl h
set_option maxRecDepth 100000 in
set_option maxHeartbeats 4000000 in
theorem lX12_spared_118 {d : Nat} {x1 : Int32} {x2 : Int32} {M : mm_M} {K : Int32 → mm_M → Prop} {y2 : Int32} {y3 : Int32} {y5 : Int32} {y6 : Int32} {y7 : Int32} (hG : mm_G M.2.2) (h : if y3 ≤ y7 then (K (-1) M) else (if ((y5 >>> (y7 &&& 31)) &&& 1) = 0 then (jX12_spared_118 d x1 x2 M K y2 y3 y5 y6 (y7 + 1)) else (if y6 = y2 then (vp_in y7 21 ∧ vp_in y7 21 ∧ K ((8 * (M.1 208 y7.toNatClampNeg)) + (M.1 209 y7.toNatClampNeg)) M) else (jX12_spared_118 d x1 x2 M K y2 y3 y5 (y6 + 1) (y7 + 1))))) : jX12_spared_118 d x1 x2 M K y2 y3 y5 y6 y7 := by
  unfold jX12_spared_118
  refine mm_iload (pc := 118) (j := 5) dX12_spared_118 rfl ?_
  refine mm_iload_n (pc := 120) (j := 2) dX12_spared_120 rfl rfl ?_
  refine mm_icmp_ge (pc := 121) (tgt := 171) dX12_spared_121 (by decide) (fun hc => ?_) (fun hc => ?_)
  · have h := mm_ift hc h
    refine mm_iconst (pc := 171) (x := (-1)) dX12_spared_171 rfl ?_
    exact mm_iret (pc := 172) dX12_spared_172 rfl (Nat.le_refl 0) (Nat.le_refl 0) ⟨_, rfl, rfl, hG, h⟩
  · have h := mm_iff hc h
    refine mm_iload (pc := 124) (j := 3) dX12_spared_124 rfl ?_
    refine mm_iload (pc := 126) (j := 5) dX12_spared_126 rfl ?_
    refine mm_ishr (pc := 128) dX12_spared_128 ?_
    refine mm_iconst (pc := 129) (x := 1) dX12_spared_129 rfl ?_
    refine mm_iand (pc := 130) dX12_spared_130 ?_
    refine mm_if_ne (pc := 131) (tgt := 137) dX12_spared_131 (by decide) (fun hc => ?_) (fun hc => ?_)
    · have h := mm_iff hc h
      refine mm_iload (pc := 137) (j := 4) dX12_spared_137 rfl ?_
      refine mm_iload_n (pc := 139) (j := 1) dX12_spared_139 rfl rfl ?_
      refine mm_icmp_ne (pc := 140) (tgt := 162) dX12_spared_140 (by decide) (fun hc => ?_) (fun hc => ?_)
      · have h := mm_iff hc h
        refine mm_iinc (pc := 162) (j := 4) (v := y6 + 1) (lv' := [(6, .int (y6 + 1)), (0, .ref 164), (2, .int y2), (3, .int y3), (5, .int y5), (7, .int y7)]) dX12_spared_162 rfl rfl (by decide) rfl ?_
        refine mm_iinc (pc := 165) (j := 5) (v := y7 + 1) (lv' := [(7, .int (y7 + 1)), (6, .int (y6 + 1)), (0, .ref 164), (2, .int y2), (3, .int y3), (5, .int y5)]) dX12_spared_165 rfl rfl (by decide) rfl ?_
        refine mm_goto (pc := 168) (tgt := 118) dX12_spared_168 (by decide) ?_
        exact mm_sub [2, 3, 4, 5, 1, 0] rfl h
      · have h := mm_ift hc h
        refine mm_bipush (pc := 143) (x := 8) dX12_spared_143 rfl ?_
        refine mm_aload_n (pc := 145) (j := 0) dX12_spared_145 rfl rfl ?_
        refine mm_getR (pc := 146) (ci := 12) (N := 116) (r := 208) dX12_spared_146 fX12_145 sh_164 rfl (g_164_68 hG) ?_
        refine mm_iload (pc := 149) (j := 5) dX12_spared_149 rfl ?_
        obtain ⟨hi151, h⟩ := h
        refine mm_iaload (pc := 151) (N := 21) dX12_spared_151 sh_208 hi151 ?_
        refine mm_imul (pc := 152) dX12_spared_152 ?_
        refine mm_aload_n (pc := 153) (j := 0) dX12_spared_153 rfl rfl ?_
        refine mm_getR (pc := 154) (ci := 12) (N := 116) (r := 209) dX12_spared_154 fX12_148 sh_164 rfl (g_164_69 hG) ?_
        refine mm_iload (pc := 157) (j := 5) dX12_spared_157 rfl ?_
        obtain ⟨hi159, h⟩ := h
        refine mm_iaload (pc := 159) (N := 21) dX12_spared_159 sh_209 hi159 ?_
        refine mm_iadd (pc := 160) dX12_spared_160 ?_
        exact mm_iret (pc := 161) dX12_spared_161 rfl (Nat.le_refl 0) (Nat.le_refl 0) ⟨_, rfl, rfl, hG, h⟩
    · have h := mm_ift hc h
      refine mm_goto (pc := 134) (tgt := 165) dX12_spared_134 (by decide) ?_
      refine mm_iinc (pc := 165) (j := 5) (v := y7 + 1) (lv' := [(7, .int (y7 + 1)), (0, .ref 164), (2, .int y2), (3, .int y3), (5, .int y5), (6, .int y6)]) dX12_spared_165 rfl rfl (by decide) rfl ?_
      refine mm_goto (pc := 168) (tgt := 118) dX12_spared_168 (by decide) ?_
      exact mm_sub [1, 2, 3, 4, 5, 0] rfl h
def jX12_laysHunger_6 (d : Nat) (x1 : Int32) (M : mm_M) (K : mm_M → Prop) (y1 : Int32) (y2 : Int32) : Prop := mm_W mX12_laysHunger (d + 1) 0 0 6 [(0, .ref 164), (1, .int y1), (2, .int y2)] [] mm_SH M 0 0 (mm_PV K)
def jX12_laysHunger_28 (d : Nat) (x1 : Int32) (M : mm_M) (K : mm_M → Prop) (y1 : Int32) (y2 : Int32) (y3 : Int32) : Prop := mm_W mX12_laysHunger (d + 1) 0 0 28 [(0, .ref 164), (1, .int y1), (2, .int y2), (3, .int y3)] [] mm_SH M 0 0 (mm_PV K)
set_option maxRecDepth 100000 in
set_option maxHeartbeats 4000000 in
theorem rX12_laysHunger {d : Nat} {x1 : Int32} {M : mm_M} {K : mm_M → Prop} (hG : mm_G M.2.2) (h : mm_CV mX12_putsAside d [.ref 164] M (fun m1 => jX12_laysHunger_6 d x1 m1 K x1 0)) : mm_CV mX12_laysHunger (d + 1) [.ref 164, .int x1] M K := by
  show mm_W mX12_laysHunger (d + 1) 0 0 0 [(0, .ref 164), (1, .int x1)] [] mm_SH M 0 0 (mm_PV K)
  refine mm_aload_n (pc := 0) (j := 0) dX12_laysHunger_0 rfl rfl ?_
  refine mm_kVV (pc := 1) [] dX12_laysHunger_1 kX12_544 rfl sh_164 (Nat.le_of_ble_eq_true rfl) (Nat.le_of_ble_eq_true rfl) h (fun m1 hG h => ?_)
  refine mm_iconst (pc := 4) (x := 0) dX12_laysHunger_4 rfl ?_
  refine mm_istore_n (pc := 5) (lv' := [(2, .int 0), (0, .ref 164), (1, .int x1)]) dX12_laysHunger_5 rfl (by decide) rfl ?_
  exact mm_sub [1, 2, 0] rfl h
set_option maxRecDepth 100000 in
set_option maxHeartbeats 4000000 in
theorem lX12_laysHunger_6 {d : Nat} {x1 : Int32} {M : mm_M} {K : mm_M → Prop} {y1 : Int32} {y2 : Int32} (hG : mm_G M.2.2) (h : mm_CI mX12_houseMany d [.ref 164] M (fun z9 m9 => if ((1 : Int32) <<< (z9 &&& 31)) ≤ y2 then (mm_CV mX12_takesBack d [.ref 164] m9 (fun m82 => K m82)) else (mm_CV mX12_daysGo d [.ref 164, .int y1] (mm_uI m9 164 59 y2) (fun m23 => jX12_laysHunger_28 d x1 m23 K y1 y2 0)))) : jX12_laysHunger_6 d x1 M K y1 y2 := by
  unfold jX12_laysHunger_6
  refine mm_iload_n (pc := 6) (j := 2) dX12_laysHunger_6 rfl rfl ?_
  refine mm_iconst (pc := 7) (x := 1) dX12_laysHunger_7 rfl ?_
  refine mm_aload_n (pc := 8) (j := 0) dX12_laysHunger_8 rfl rfl ?_
  refine mm_kVI (pc := 9) [] dX12_laysHunger_9 kX12_412 rfl sh_164 (Nat.le_of_ble_eq_true rfl) (Nat.le_of_ble_eq_true rfl) h (fun z9 m9 hG h => ?_)
  refine mm_ishl (pc := 12) dX12_laysHunger_12 ?_
  refine mm_icmp_ge (pc := 13) (tgt := 81) dX12_laysHunger_13 (by decide) (fun hc => ?_) (fun hc => ?_)
  · have h := mm_ift hc h
    refine mm_aload_n (pc := 81) (j := 0) dX12_laysHunger_81 rfl rfl ?_
    refine mm_kVV (pc := 82) [] dX12_laysHunger_82 kX12_547 rfl sh_164 (Nat.le_of_ble_eq_true rfl) (Nat.le_of_ble_eq_true rfl) h (fun m82 hG h => ?_)
    exact mm_vret (pc := 85) dX12_laysHunger_85 rfl (Nat.le_refl 0) (Nat.le_refl 0) ⟨rfl, rfl, hG, h⟩
  · have h := mm_iff hc h
    refine mm_aload_n (pc := 16) (j := 0) dX12_laysHunger_16 rfl rfl ?_
    refine mm_iload_n (pc := 17) (j := 2) dX12_laysHunger_17 rfl rfl ?_
    refine mm_putI (pc := 18) (ci := 12) (N := 116) dX12_laysHunger_18 fX12_468 sh_164 (by decide +kernel) rfl rfl rfl ?_
    refine mm_aload_n (pc := 21) (j := 0) dX12_laysHunger_21 rfl rfl ?_
    refine mm_iload_n (pc := 22) (j := 1) dX12_laysHunger_22 rfl rfl ?_
    refine mm_kVV (pc := 23) [.int y1] dX12_laysHunger_23 kX12_556 rfl sh_164 (Nat.le_of_ble_eq_true rfl) (Nat.le_of_ble_eq_true rfl) h (fun m23 hG h => ?_)
    refine mm_iconst (pc := 26) (x := 0) dX12_laysHunger_26 rfl ?_
    refine mm_istore_n (pc := 27) (lv' := [(3, .int 0), (0, .ref 164), (1, .int y1), (2, .int y2)]) dX12_laysHunger_27 rfl (by decide) rfl ?_
    exact mm_sub [1, 2, 3, 0] rfl h
set_option maxRecDepth 100000 in
set_option maxHeartbeats 4000000 in
theorem lX12_laysHunger_28 {d : Nat} {x1 : Int32} {M : mm_M} {K : mm_M → Prop} {y1 : Int32} {y2 : Int32} {y3 : Int32} (hG : mm_G M.2.2) (h : mm_CI mX12_houseMany d [.ref 164] M (fun z30 m30 => if z30 ≤ y3 then (mm_CV mX12_triesAnew d [.ref 164] m30 (fun m72 => jX12_laysHunger_6 d x1 m72 K y1 (y2 + 1))) else (mm_CI mX12_isThere d [.ref 164, .int y3] m30 (fun z48 m48 => if z48 = 0 then (vp_in ((7 * y2) + y3) 896 ∧ jX12_laysHunger_28 d x1 (mm_uI m48 211 ((7 * y2) + y3).toNatClampNeg 10) K y1 y2 (y3 + 1)) else (mm_CI mX12_hungerOf d [.ref 164, .int y3] m48 (fun z56 m56 => vp_in ((7 * y2) + y3) 896 ∧ jX12_laysHunger_28 d x1 (mm_uI m56 211 ((7 * y2) + y3).toNatClampNeg z56) K y1 y2 (y3 + 1))))))) : jX12_laysHunger_28 d x1 M K y1 y2 y3 := by
  unfold jX12_laysHunger_28
  refine mm_iload_n (pc := 28) (j := 3) dX12_laysHunger_28 rfl rfl ?_
  refine mm_aload_n (pc := 29) (j := 0) dX12_laysHunger_29 rfl rfl ?_
  refine mm_kVI (pc := 30) [] dX12_laysHunger_30 kX12_412 rfl sh_164 (Nat.le_of_ble_eq_true rfl) (Nat.le_of_ble_eq_true rfl) h (fun z30 m30 hG h => ?_)
  refine mm_icmp_ge (pc := 33) (tgt := 71) dX12_laysHunger_33 (by decide) (fun hc => ?_) (fun hc => ?_)
  · have h := mm_ift hc h
    refine mm_aload_n (pc := 71) (j := 0) dX12_laysHunger_71 rfl rfl ?_
    refine mm_kVV (pc := 72) [] dX12_laysHunger_72 kX12_519 rfl sh_164 (Nat.le_of_ble_eq_true rfl) (Nat.le_of_ble_eq_true rfl) h (fun m72 hG h => ?_)
    refine mm_iinc (pc := 75) (j := 2) (v := y2 + 1) (lv' := [(2, .int (y2 + 1)), (0, .ref 164), (1, .int y1), (3, .int y3)]) dX12_laysHunger_75 rfl rfl (by decide) rfl ?_
    refine mm_goto (pc := 78) (tgt := 6) dX12_laysHunger_78 (by decide) ?_
    exact mm_sub [1, 2, 0] rfl h
  · have h := mm_iff hc h
    refine mm_aload_n (pc := 36) (j := 0) dX12_laysHunger_36 rfl rfl ?_
    refine mm_getR (pc := 37) (ci := 12) (N := 116) (r := 211) dX12_laysHunger_37 fX12_154 sh_164 rfl (g_164_71 hG) ?_
    refine mm_bipush (pc := 40) (x := 7) dX12_laysHunger_40 rfl ?_
    refine mm_iload_n (pc := 42) (j := 2) dX12_laysHunger_42 rfl rfl ?_
    refine mm_imul (pc := 43) dX12_laysHunger_43 ?_
    refine mm_iload_n (pc := 44) (j := 3) dX12_laysHunger_44 rfl rfl ?_
    refine mm_iadd (pc := 45) dX12_laysHunger_45 ?_
    refine mm_aload_n (pc := 46) (j := 0) dX12_laysHunger_46 rfl rfl ?_
    refine mm_iload_n (pc := 47) (j := 3) dX12_laysHunger_47 rfl rfl ?_
    refine mm_kVI (pc := 48) [.int y3] dX12_laysHunger_48 kX12_462 rfl sh_164 (Nat.le_of_ble_eq_true rfl) (Nat.le_of_ble_eq_true rfl) h (fun z48 m48 hG h => ?_)
    refine mm_if_eq (pc := 51) (tgt := 62) dX12_laysHunger_51 (by decide) (fun hc => ?_) (fun hc => ?_)
    · have h := mm_ift hc h
      refine mm_bipush (pc := 62) (x := 10) dX12_laysHunger_62 rfl ?_
      obtain ⟨hi64, h⟩ := h
      refine mm_iastore (pc := 64) (N := 896) dX12_laysHunger_64 sh_211 hi64 ?_
      refine mm_iinc (pc := 65) (j := 3) (v := y3 + 1) (lv' := [(3, .int (y3 + 1)), (0, .ref 164), (1, .int y1), (2, .int y2)]) dX12_laysHunger_65 rfl rfl (by decide) rfl ?_
      refine mm_goto (pc := 68) (tgt := 28) dX12_laysHunger_68 (by decide) ?_
      exact mm_sub [1, 2, 3, 0] rfl h
    · have h := mm_iff hc h
      refine mm_aload_n (pc := 54) (j := 0) dX12_laysHunger_54 rfl rfl ?_
      refine mm_iload_n (pc := 55) (j := 3) dX12_laysHunger_55 rfl rfl ?_
      refine mm_kVI (pc := 56) [.int y3] dX12_laysHunger_56 kX12_459 rfl sh_164 (Nat.le_of_ble_eq_true rfl) (Nat.le_of_ble_eq_true rfl) h (fun z56 m56 hG h => ?_)
      refine mm_goto (pc := 59) (tgt := 64) dX12_laysHunger_59 (by decide) ?_
      obtain ⟨hi64, h⟩ := h
      refine mm_iastore (pc := 64) (N := 896) dX12_laysHunger_64 sh_211 hi64 ?_
      refine mm_iinc (pc := 65) (j := 3) (v := y3 + 1) (lv' := [(3, .int (y3 + 1)), (0, .ref 164), (1, .int y1), (2, .int y2)]) dX12_laysHunger_65 rfl rfl (by decide) rfl ?_
      refine mm_goto (pc := 68) (tgt := 28) dX12_laysHunger_68 (by decide) ?_
      exact mm_sub [1, 2, 3, 0] rfl h
def jX12_isRest_2 (d : Nat) (x1 : Int32) (M : mm_M) (K : Int32 → mm_M → Prop) (y1 : Int32) (y2 : Int32) : Prop := mm_W mX12_isRest (d + 1) 0 0 2 [(0, .ref 164), (1, .int y1), (2, .int y2)] [] mm_SH M 0 0 (mm_PI K)
set_option maxRecDepth 100000 in
set_option maxHeartbeats 4000000 in
theorem rX12_isRest {d : Nat} {x1 : Int32} {M : mm_M} {K : Int32 → mm_M → Prop} (hG : mm_G M.2.2) (h : jX12_isRest_2 d x1 M K x1 0) : mm_CI mX12_isRest (d + 1) [.ref 164, .int x1] M K := by
  show mm_W mX12_isRest (d + 1) 0 0 0 [(0, .ref 164), (1, .int x1)] [] mm_SH M 0 0 (mm_PI K)
  refine mm_iconst (pc := 0) (x := 0) dX12_isRest_0 rfl ?_
  refine mm_istore_n (pc := 1) (lv' := [(2, .int 0), (0, .ref 164), (1, .int x1)]) dX12_isRest_1 rfl (by decide) rfl ?_
  exact mm_sub [1, 2, 0] rfl h
set_option maxRecDepth 100000 in
set_option maxHeartbeats 4000000 in
theorem lX12_isRest_2 {d : Nat} {x1 : Int32} {M : mm_M} {K : Int32 → mm_M → Prop} {y1 : Int32} {y2 : Int32} (hG : mm_G M.2.2) (h : mm_CI mX12_houseMany d [.ref 164] M (fun z4 m4 => if z4 ≤ y2 then (K 1 m4) else (vp_in ((7 * (y1 ^^^ ((1 : Int32) <<< (y2 &&& 31)))) + y2) 896 ∧ vp_in ((7 * y1) + y2) 896 ∧ if (m4.1 211 ((7 * y1) + y2).toNatClampNeg) ≤ (m4.1 211 ((7 * (y1 ^^^ ((1 : Int32) <<< (y2 &&& 31)))) + y2).toNatClampNeg) then (jX12_isRest_2 d x1 m4 K y1 (y2 + 1)) else (K 0 m4)))) : jX12_isRest_2 d x1 M K y1 y2 := by
  unfold jX12_isRest_2
  refine mm_iload_n (pc := 2) (j := 2) dX12_isRest_2 rfl rfl ?_
  refine mm_aload_n (pc := 3) (j := 0) dX12_isRest_3 rfl rfl ?_
  refine mm_kVI (pc := 4) [] dX12_isRest_4 kX12_412 rfl sh_164 (Nat.le_of_ble_eq_true rfl) (Nat.le_of_ble_eq_true rfl) h (fun z4 m4 hG h => ?_)
  refine mm_icmp_ge (pc := 7) (tgt := 47) dX12_isRest_7 (by decide) (fun hc => ?_) (fun hc => ?_)
  · have h := mm_ift hc h
    refine mm_iconst (pc := 47) (x := 1) dX12_isRest_47 rfl ?_
    exact mm_zret (pc := 48) dX12_isRest_48 rfl rfl (Nat.le_refl 0) (Nat.le_refl 0) ⟨_, rfl, rfl, hG, h⟩
  · have h := mm_iff hc h
    refine mm_aload_n (pc := 10) (j := 0) dX12_isRest_10 rfl rfl ?_
    refine mm_getR (pc := 11) (ci := 12) (N := 116) (r := 211) dX12_isRest_11 fX12_154 sh_164 rfl (g_164_71 hG) ?_
    refine mm_bipush (pc := 14) (x := 7) dX12_isRest_14 rfl ?_
    refine mm_iload_n (pc := 16) (j := 1) dX12_isRest_16 rfl rfl ?_
    refine mm_iconst (pc := 17) (x := 1) dX12_isRest_17 rfl ?_
    refine mm_iload_n (pc := 18) (j := 2) dX12_isRest_18 rfl rfl ?_
    refine mm_ishl (pc := 19) dX12_isRest_19 ?_
    refine mm_ixor (pc := 20) dX12_isRest_20 ?_
    refine mm_imul (pc := 21) dX12_isRest_21 ?_
    refine mm_iload_n (pc := 22) (j := 2) dX12_isRest_22 rfl rfl ?_
    refine mm_iadd (pc := 23) dX12_isRest_23 ?_
    obtain ⟨hi24, h⟩ := h
    refine mm_iaload (pc := 24) (N := 896) dX12_isRest_24 sh_211 hi24 ?_
    refine mm_aload_n (pc := 25) (j := 0) dX12_isRest_25 rfl rfl ?_
    refine mm_getR (pc := 26) (ci := 12) (N := 116) (r := 211) dX12_isRest_26 fX12_154 sh_164 rfl (g_164_71 hG) ?_
    refine mm_bipush (pc := 29) (x := 7) dX12_isRest_29 rfl ?_
    refine mm_iload_n (pc := 31) (j := 1) dX12_isRest_31 rfl rfl ?_
    refine mm_imul (pc := 32) dX12_isRest_32 ?_
    refine mm_iload_n (pc := 33) (j := 2) dX12_isRest_33 rfl rfl ?_
    refine mm_iadd (pc := 34) dX12_isRest_34 ?_
    obtain ⟨hi35, h⟩ := h
    refine mm_iaload (pc := 35) (N := 896) dX12_isRest_35 sh_211 hi35 ?_
    refine mm_icmp_ge (pc := 36) (tgt := 41) dX12_isRest_36 (by decide) (fun hc => ?_) (fun hc => ?_)
    · have h := mm_ift hc h
      refine mm_iinc (pc := 41) (j := 2) (v := y2 + 1) (lv' := [(2, .int (y2 + 1)), (0, .ref 164), (1, .int y1)]) dX12_isRest_41 rfl rfl (by decide) rfl ?_
      refine mm_goto (pc := 44) (tgt := 2) dX12_isRest_44 (by decide) ?_
      exact mm_sub [1, 2, 0] rfl h
    · have h := mm_iff hc h
      refine mm_iconst (pc := 39) (x := 0) dX12_isRest_39 rfl ?_
      exact mm_zret (pc := 40) dX12_isRest_40 rfl rfl (Nat.le_refl 0) (Nat.le_refl 0) ⟨_, rfl, rfl, hG, h⟩
def jX12_rest_22 (d : Nat) (x1 : Int32) (M : mm_M) (K : Int32 → mm_M → Prop) (y2 : Int32) (y3 : Int32) : Prop := mm_W mX12_rest (d + 1) 0 0 22 [(0, .ref 164), (2, .int y2), (3, .int y3)] [] mm_SH M 0 0 (mm_PI K)
set_option maxRecDepth 100000 in
set_option maxHeartbeats 4000000 in
theorem rX12_rest {d : Nat} {x1 : Int32} {M : mm_M} {K : Int32 → mm_M → Prop} (hG : mm_G M.2.2) (h : mm_CI mX12_isAhead d [.ref 164, .int x1, .int 1, .int 20] M (fun z5 m5 => if z5 = 0 then (K (-1) m5) else (mm_CV mX12_laysHunger d [.ref 164, .int x1] m5 (fun m15 => jX12_rest_22 d x1 m15 K (-1) 0)))) : mm_CI mX12_rest (d + 1) [.ref 164, .int x1] M K := by
  show mm_W mX12_rest (d + 1) 0 0 0 [(0, .ref 164), (1, .int x1)] [] mm_SH M 0 0 (mm_PI K)
  refine mm_aload_n (pc := 0) (j := 0) dX12_rest_0 rfl rfl ?_
  refine mm_iload_n (pc := 1) (j := 1) dX12_rest_1 rfl rfl ?_
  refine mm_iconst (pc := 2) (x := 1) dX12_rest_2 rfl ?_
  refine mm_bipush (pc := 3) (x := 20) dX12_rest_3 rfl ?_
  refine mm_kVI (pc := 5) [.int x1, .int 1, .int 20] dX12_rest_5 kX12_550 rfl sh_164 (Nat.le_of_ble_eq_true rfl) (Nat.le_of_ble_eq_true rfl) h (fun z5 m5 hG h => ?_)
  refine mm_if_ne (pc := 8) (tgt := 13) dX12_rest_8 (by decide) (fun hc => ?_) (fun hc => ?_)
  · have h := mm_iff hc h
    refine mm_aload_n (pc := 13) (j := 0) dX12_rest_13 rfl rfl ?_
    refine mm_iload_n (pc := 14) (j := 1) dX12_rest_14 rfl rfl ?_
    refine mm_kVV (pc := 15) [.int x1] dX12_rest_15 kX12_598 rfl sh_164 (Nat.le_of_ble_eq_true rfl) (Nat.le_of_ble_eq_true rfl) h (fun m15 hG h => ?_)
    refine mm_iconst (pc := 18) (x := (-1)) dX12_rest_18 rfl ?_
    refine mm_istore_n (pc := 19) (lv' := [(2, .int (-1)), (0, .ref 164), (1, .int x1)]) dX12_rest_19 rfl (by decide) rfl ?_
    refine mm_iconst (pc := 20) (x := 0) dX12_rest_20 rfl ?_
    refine mm_istore_n (pc := 21) (lv' := [(3, .int 0), (2, .int (-1)), (0, .ref 164), (1, .int x1)]) dX12_rest_21 rfl (by decide) rfl ?_
    exact mm_sub [2, 1, 0] rfl h
  · have h := mm_ift hc h
    refine mm_iconst (pc := 11) (x := (-1)) dX12_rest_11 rfl ?_
    exact mm_iret (pc := 12) dX12_rest_12 rfl (Nat.le_refl 0) (Nat.le_refl 0) ⟨_, rfl, rfl, hG, h⟩
set_option maxRecDepth 100000 in
set_option maxHeartbeats 4000000 in
theorem lX12_rest_22 {d : Nat} {x1 : Int32} {M : mm_M} {K : Int32 → mm_M → Prop} {y2 : Int32} {y3 : Int32} (hG : mm_G M.2.2) (h : mm_CI mX12_houseMany d [.ref 164] M (fun z25 m25 => if ((1 : Int32) <<< (z25 &&& 31)) ≤ y3 then (K y2 m25) else (if y2 = (-1) then (mm_CI mX12_isRest d [.ref 164, .int y3] m25 (fun z53 m53 => if z53 = 0 then (jX12_rest_22 d x1 m53 K y2 (y3 + 1)) else (jX12_rest_22 d x1 m53 K y3 (y3 + 1)))) else (mm_CI mX12_bits d [.int y3] m25 (fun z38 m38 => mm_CI mX12_bits d [.int y2] m38 (fun z42 m42 => if z38 < z42 then (mm_CI mX12_isRest d [.ref 164, .int y3] m42 (fun z53 m53 => if z53 = 0 then (jX12_rest_22 d x1 m53 K y2 (y3 + 1)) else (jX12_rest_22 d x1 m53 K y3 (y3 + 1)))) else (jX12_rest_22 d x1 m42 K y2 (y3 + 1)))))))) : jX12_rest_22 d x1 M K y2 y3 := by
  unfold jX12_rest_22
  refine mm_iload_n (pc := 22) (j := 2) dX12_rest_22 rfl rfl ?_
  refine mm_iconst (pc := 23) (x := 1) dX12_rest_23 rfl ?_
  refine mm_aload_n (pc := 24) (j := 0) dX12_rest_24 rfl rfl ?_
  refine mm_kVI (pc := 25) [] dX12_rest_25 kX12_412 rfl sh_164 (Nat.le_of_ble_eq_true rfl) (Nat.le_of_ble_eq_true rfl) h (fun z25 m25 hG h => ?_)
  refine mm_ishl (pc := 28) dX12_rest_28 ?_
  refine mm_icmp_ge (pc := 29) (tgt := 67) dX12_rest_29 (by decide) (fun hc => ?_) (fun hc => ?_)
  · have h := mm_ift hc h
    refine mm_iload_n (pc := 67) (j := 1) dX12_rest_67 rfl rfl ?_
    exact mm_iret (pc := 68) dX12_rest_68 rfl (Nat.le_refl 0) (Nat.le_refl 0) ⟨_, rfl, rfl, hG, h⟩
  · have h := mm_iff hc h
    refine mm_iload_n (pc := 32) (j := 1) dX12_rest_32 rfl rfl ?_
    refine mm_iconst (pc := 33) (x := (-1)) dX12_rest_33 rfl ?_
    refine mm_icmp_eq (pc := 34) (tgt := 51) dX12_rest_34 (by decide) (fun hc => ?_) (fun hc => ?_)
    · have h := mm_ift hc h
      refine mm_aload_n (pc := 51) (j := 0) dX12_rest_51 rfl rfl ?_
      refine mm_iload_n (pc := 52) (j := 2) dX12_rest_52 rfl rfl ?_
      refine mm_kVI (pc := 53) [.int y3] dX12_rest_53 kX12_601 rfl sh_164 (Nat.le_of_ble_eq_true rfl) (Nat.le_of_ble_eq_true rfl) h (fun z53 m53 hG h => ?_)
      refine mm_if_eq (pc := 56) (tgt := 61) dX12_rest_56 (by decide) (fun hc => ?_) (fun hc => ?_)
      · have h := mm_ift hc h
        refine mm_iinc (pc := 61) (j := 2) (v := y3 + 1) (lv' := [(3, .int (y3 + 1)), (0, .ref 164), (2, .int y2)]) dX12_rest_61 rfl rfl (by decide) rfl ?_
        refine mm_goto (pc := 64) (tgt := 22) dX12_rest_64 (by decide) ?_
        exact mm_sub [1, 2, 0] rfl h
      · have h := mm_iff hc h
        refine mm_iload_n (pc := 59) (j := 2) dX12_rest_59 rfl rfl ?_
        refine mm_istore_n (pc := 60) (lv' := [(2, .int y3), (0, .ref 164), (3, .int y3)]) dX12_rest_60 rfl (by decide) rfl ?_
        refine mm_iinc (pc := 61) (j := 2) (v := y3 + 1) (lv' := [(3, .int (y3 + 1)), (2, .int y3), (0, .ref 164)]) dX12_rest_61 rfl rfl (by decide) rfl ?_
        refine mm_goto (pc := 64) (tgt := 22) dX12_rest_64 (by decide) ?_
        exact mm_sub [2, 1, 0] rfl h
    · have h := mm_iff hc h
      refine mm_iload_n (pc := 37) (j := 2) dX12_rest_37 rfl rfl ?_
      refine mm_kSI (pc := 38) [.int y3] dX12_rest_38 kX12_525 rfl (Nat.le_of_ble_eq_true rfl) (Nat.le_of_ble_eq_true rfl) h (fun z38 m38 hG h => ?_)
      refine mm_iload_n (pc := 41) (j := 1) dX12_rest_41 rfl rfl ?_
      refine mm_kSI (pc := 42) [.int y2] dX12_rest_42 kX12_525 rfl (Nat.le_of_ble_eq_true rfl) (Nat.le_of_ble_eq_true rfl) h (fun z42 m42 hG h => ?_)
      refine mm_icmp_lt (pc := 45) (tgt := 51) dX12_rest_45 (by decide) (fun hc => ?_) (fun hc => ?_)
      · have h := mm_ift hc h
        refine mm_aload_n (pc := 51) (j := 0) dX12_rest_51 rfl rfl ?_
        refine mm_iload_n (pc := 52) (j := 2) dX12_rest_52 rfl rfl ?_
        refine mm_kVI (pc := 53) [.int y3] dX12_rest_53 kX12_601 rfl sh_164 (Nat.le_of_ble_eq_true rfl) (Nat.le_of_ble_eq_true rfl) h (fun z53 m53 hG h => ?_)
        refine mm_if_eq (pc := 56) (tgt := 61) dX12_rest_56 (by decide) (fun hc => ?_) (fun hc => ?_)
        · have h := mm_ift hc h
          refine mm_iinc (pc := 61) (j := 2) (v := y3 + 1) (lv' := [(3, .int (y3 + 1)), (0, .ref 164), (2, .int y2)]) dX12_rest_61 rfl rfl (by decide) rfl ?_
          refine mm_goto (pc := 64) (tgt := 22) dX12_rest_64 (by decide) ?_
          exact mm_sub [1, 2, 0] rfl h
        · have h := mm_iff hc h
          refine mm_iload_n (pc := 59) (j := 2) dX12_rest_59 rfl rfl ?_
          refine mm_istore_n (pc := 60) (lv' := [(2, .int y3), (0, .ref 164), (3, .int y3)]) dX12_rest_60 rfl (by decide) rfl ?_
          refine mm_iinc (pc := 61) (j := 2) (v := y3 + 1) (lv' := [(3, .int (y3 + 1)), (2, .int y3), (0, .ref 164)]) dX12_rest_61 rfl rfl (by decide) rfl ?_
          refine mm_goto (pc := 64) (tgt := 22) dX12_rest_64 (by decide) ?_
          exact mm_sub [2, 1, 0] rfl h
      · have h := mm_iff hc h
        refine mm_goto (pc := 48) (tgt := 61) dX12_rest_48 (by decide) ?_
        refine mm_iinc (pc := 61) (j := 2) (v := y3 + 1) (lv' := [(3, .int (y3 + 1)), (0, .ref 164), (2, .int y2)]) dX12_rest_61 rfl rfl (by decide) rfl ?_
        refine mm_goto (pc := 64) (tgt := 22) dX12_rest_64 (by decide) ?_
        exact mm_sub [1, 2, 0] rfl h
set_option maxRecDepth 100000 in
set_option maxHeartbeats 4000000 in
theorem rX12_refuses {d : Nat} {x1 : Int32} {M : mm_M} {K : Int32 → mm_M → Prop} (hG : mm_G M.2.2) (h : vp_in x1 6 ∧ vp_in x1 6 ∧ K (-1) (mm_uI M 166 x1.toNatClampNeg ((M.1 166 x1.toNatClampNeg) + 1))) : mm_CI mX12_refuses d [.ref 164, .int x1] M K := by
  show mm_W mX12_refuses d 0 0 0 [(0, .ref 164), (1, .int x1)] [] mm_SH M 0 0 (mm_PI K)
  refine mm_aload_n (pc := 0) (j := 0) dX12_refuses_0 rfl rfl ?_
  refine mm_getR (pc := 1) (ci := 12) (N := 116) (r := 166) dX12_refuses_1 fX12_17 sh_164 rfl (g_164_9 hG) ?_
  refine mm_iload_n (pc := 4) (j := 1) dX12_refuses_4 rfl rfl ?_
  refine mm_dup2 (pc := 5) dX12_refuses_5 rfl rfl ?_
  obtain ⟨hi6, h⟩ := h
  refine mm_iaload (pc := 6) (N := 6) dX12_refuses_6 sh_166 hi6 ?_
  refine mm_iconst (pc := 7) (x := 1) dX12_refuses_7 rfl ?_
  refine mm_iadd (pc := 8) dX12_refuses_8 ?_
  obtain ⟨hi9, h⟩ := h
  refine mm_iastore (pc := 9) (N := 6) dX12_refuses_9 sh_166 hi9 ?_
  refine mm_iconst (pc := 10) (x := (-1)) dX12_refuses_10 rfl ?_
  exact mm_iret (pc := 11) dX12_refuses_11 rfl (Nat.le_refl 0) (Nat.le_refl 0) ⟨_, rfl, rfl, hG, h⟩
def jX12_see_36 (d : Nat) (M : mm_M) (K : Int32 → mm_M → Prop) (y1 : Int32) (y2 : Int32) (y3 : Int32) : Prop := mm_W mX12_see (d + 1) 0 0 36 [(0, .ref 164), (1, .int y1), (2, .int y2), (3, .int y3)] [] mm_SH M 0 0 (mm_PI K)
def jX12_see_123 (d : Nat) (M : mm_M) (K : Int32 → mm_M → Prop) (y1 : Int32) (y3 : Int32) : Prop := mm_W mX12_see (d + 1) 0 0 123 [(0, .ref 164), (1, .int y1), (3, .int y3)] [] mm_SH M 0 0 (mm_PI K)
set_option maxRecDepth 100000 in
set_option maxHeartbeats 4000000 in
theorem rX12_see {d : Nat} {M : mm_M} {K : Int32 → mm_M → Prop} (hG : mm_G M.2.2) (h : if (M.1 164 1) ≤ 0 then (jX12_see_36 d (mm_uI M 164 1 0) K (M.1 164 1) 0 0) else (if ((M.1 164 1) - (M.1 164 1) / 3 * 3) = 0 then (if 16 < ((M.1 164 1) / 3) then (jX12_see_36 d (mm_uI M 164 1 0) K (M.1 164 1) 0 0) else (jX12_see_36 d (mm_uI M 164 1 0) K (M.1 164 1) 1 0)) else (jX12_see_36 d (mm_uI M 164 1 0) K (M.1 164 1) 0 0))) : mm_CI mX12_see (d + 1) [.ref 164] M K := by
  show mm_W mX12_see (d + 1) 0 0 0 [(0, .ref 164)] [] mm_SH M 0 0 (mm_PI K)
  refine mm_aload_n (pc := 0) (j := 0) dX12_see_0 rfl rfl ?_
  refine mm_getI (pc := 1) (ci := 12) (N := 116) dX12_see_1 fX12_257 sh_164 rfl ?_
  refine mm_istore_n (pc := 4) (lv' := [(1, .int (M.1 164 1)), (0, .ref 164)]) dX12_see_4 rfl (by decide) rfl ?_
  refine mm_aload_n (pc := 5) (j := 1) dX12_see_5 rfl rfl ?_
  refine mm_iconst (pc := 6) (x := 0) dX12_see_6 rfl ?_
  refine mm_putI (pc := 7) (ci := 12) (N := 116) dX12_see_7 fX12_257 sh_164 (by decide +kernel) rfl rfl rfl ?_
  refine mm_iload_n (pc := 10) (j := 0) dX12_see_10 rfl rfl ?_
  refine mm_if_le (pc := 11) (tgt := 32) dX12_see_11 (by decide) (fun hc => ?_) (fun hc => ?_)
  · have h := mm_ift hc h
    refine mm_iconst (pc := 32) (x := 0) dX12_see_32 rfl ?_
    refine mm_istore_n (pc := 33) (lv' := [(2, .int 0), (1, .int (M.1 164 1)), (0, .ref 164)]) dX12_see_33 rfl (by decide) rfl ?_
    refine mm_iconst (pc := 34) (x := 0) dX12_see_34 rfl ?_
    refine mm_istore_n (pc := 35) (lv' := [(3, .int 0), (2, .int 0), (1, .int (M.1 164 1)), (0, .ref 164)]) dX12_see_35 rfl (by decide) rfl ?_
    exact mm_sub [3, 2, 1, 0] rfl h
  · have h := mm_iff hc h
    refine mm_iload_n (pc := 14) (j := 0) dX12_see_14 rfl rfl ?_
    refine mm_iconst (pc := 15) (x := 3) dX12_see_15 rfl ?_
    refine mm_irem (pc := 16) dX12_see_16 (by decide) ?_
    refine mm_if_ne (pc := 17) (tgt := 32) dX12_see_17 (by decide) (fun hc => ?_) (fun hc => ?_)
    · have h := mm_iff hc h
      refine mm_iconst (pc := 32) (x := 0) dX12_see_32 rfl ?_
      refine mm_istore_n (pc := 33) (lv' := [(2, .int 0), (1, .int (M.1 164 1)), (0, .ref 164)]) dX12_see_33 rfl (by decide) rfl ?_
      refine mm_iconst (pc := 34) (x := 0) dX12_see_34 rfl ?_
      refine mm_istore_n (pc := 35) (lv' := [(3, .int 0), (2, .int 0), (1, .int (M.1 164 1)), (0, .ref 164)]) dX12_see_35 rfl (by decide) rfl ?_
      exact mm_sub [3, 2, 1, 0] rfl h
    · have h := mm_ift hc h
      refine mm_iload_n (pc := 20) (j := 0) dX12_see_20 rfl rfl ?_
      refine mm_iconst (pc := 21) (x := 3) dX12_see_21 rfl ?_
      refine mm_idiv (pc := 22) dX12_see_22 (by decide) ?_
      refine mm_bipush (pc := 23) (x := 16) dX12_see_23 rfl ?_
      refine mm_icmp_gt (pc := 25) (tgt := 32) dX12_see_25 (by decide) (fun hc => ?_) (fun hc => ?_)
      · have h := mm_ift hc h
        refine mm_iconst (pc := 32) (x := 0) dX12_see_32 rfl ?_
        refine mm_istore_n (pc := 33) (lv' := [(2, .int 0), (1, .int (M.1 164 1)), (0, .ref 164)]) dX12_see_33 rfl (by decide) rfl ?_
        refine mm_iconst (pc := 34) (x := 0) dX12_see_34 rfl ?_
        refine mm_istore_n (pc := 35) (lv' := [(3, .int 0), (2, .int 0), (1, .int (M.1 164 1)), (0, .ref 164)]) dX12_see_35 rfl (by decide) rfl ?_
        exact mm_sub [3, 2, 1, 0] rfl h
      · have h := mm_iff hc h
        refine mm_iconst (pc := 28) (x := 1) dX12_see_28 rfl ?_
        refine mm_goto (pc := 29) (tgt := 33) dX12_see_29 (by decide) ?_
        refine mm_istore_n (pc := 33) (lv' := [(2, .int 1), (1, .int (M.1 164 1)), (0, .ref 164)]) dX12_see_33 rfl (by decide) rfl ?_
        refine mm_iconst (pc := 34) (x := 0) dX12_see_34 rfl ?_
        refine mm_istore_n (pc := 35) (lv' := [(3, .int 0), (2, .int 1), (1, .int (M.1 164 1)), (0, .ref 164)]) dX12_see_35 rfl (by decide) rfl ?_
        exact mm_sub [3, 2, 1, 0] rfl h
set_option maxRecDepth 100000 in
set_option maxHeartbeats 4000000 in
theorem lX12_see_36 {d : Nat} {M : mm_M} {K : Int32 → mm_M → Prop} {y1 : Int32} {y2 : Int32} {y3 : Int32} (hG : mm_G M.2.2) (h : if y1 ≤ y3 then (if y2 = 0 then (mm_CI mX12_refuses d [.ref 164, .int 1] M (fun z117 m117 => K z117 m117)) else (jX12_see_123 d M K y1 0)) else (if y2 = 0 then (if y2 = 0 then (mm_CI mX12_refuses d [.ref 164, .int 1] M (fun z117 m117 => K z117 m117)) else (jX12_see_123 d M K y1 0)) else (vp_in y3 1600 ∧ if 30 < (M.1 165 y3.toNatClampNeg) then (jX12_see_36 d M K y1 0 (y3 + 3)) else (vp_in (y3 + 1) 1600 ∧ mm_CI mX12_isHouse d [.ref 164, .long ((M.1 165 (y3 + 1).toNatClampNeg).toInt64)] M (fun z66 m66 => if z66 = 0 then (jX12_see_36 d m66 K y1 0 (y3 + 3)) else (vp_in (y3 + 2) 1600 ∧ if (m66.1 165 (y3 + 2).toNatClampNeg) ≤ 99 then (jX12_see_36 d m66 K y1 1 (y3 + 3)) else (vp_in (y3 + 2) 1600 ∧ if (m66.1 165 (y3 + 2).toNatClampNeg) = 255 then (jX12_see_36 d m66 K y1 1 (y3 + 3)) else (jX12_see_36 d m66 K y1 0 (y3 + 3))))))))) : jX12_see_36 d  M K y1 y2 y3 := by
  unfold jX12_see_36
  refine mm_iload_n (pc := 36) (j := 3) dX12_see_36 rfl rfl ?_
  refine mm_iload_n (pc := 37) (j := 1) dX12_see_37 rfl rfl ?_
  refine mm_icmp_ge (pc := 38) (tgt := 111) dX12_see_38 (by decide) (fun hc => ?_) (fun hc => ?_)
  · have h := mm_ift hc h
    refine mm_iload_n (pc := 111) (j := 2) dX12_see_111 rfl rfl ?_
    refine mm_if_ne (pc := 112) (tgt := 121) dX12_see_112 (by decide) (fun hc => ?_) (fun hc => ?_)
    · have h := mm_iff hc h
      refine mm_iconst (pc := 121) (x := 0) dX12_see_121 rfl ?_
      refine mm_istore_n (pc := 122) (lv' := [(3, .int 0), (0, .ref 164), (1, .int y1), (2, .int y2)]) dX12_see_122 rfl (by decide) rfl ?_
      exact mm_sub [1, 2, 0] rfl h
    · have h := mm_ift hc h
      refine mm_aload_n (pc := 115) (j := 0) dX12_see_115 rfl rfl ?_
      refine mm_iconst (pc := 116) (x := 1) dX12_see_116 rfl ?_
      refine mm_kVI (pc := 117) [.int 1] dX12_see_117 kX12_604 rfl sh_164 (Nat.le_of_ble_eq_true rfl) (Nat.le_of_ble_eq_true rfl) h (fun z117 m117 hG h => ?_)
      exact mm_iret (pc := 120) dX12_see_120 rfl (Nat.le_refl 0) (Nat.le_refl 0) ⟨_, rfl, rfl, hG, h⟩
  · have h := mm_iff hc h
    refine mm_iload_n (pc := 41) (j := 2) dX12_see_41 rfl rfl ?_
    refine mm_if_eq (pc := 42) (tgt := 111) dX12_see_42 (by decide) (fun hc => ?_) (fun hc => ?_)
    · have h := mm_ift hc h
      refine mm_iload_n (pc := 111) (j := 2) dX12_see_111 rfl rfl ?_
      refine mm_if_ne (pc := 112) (tgt := 121) dX12_see_112 (by decide) (fun hc => ?_) (fun hc => ?_)
      · have h := mm_iff hc h
        refine mm_iconst (pc := 121) (x := 0) dX12_see_121 rfl ?_
        refine mm_istore_n (pc := 122) (lv' := [(3, .int 0), (0, .ref 164), (1, .int y1), (2, .int y2)]) dX12_see_122 rfl (by decide) rfl ?_
        exact mm_sub [1, 2, 0] rfl h
      · have h := mm_ift hc h
        refine mm_aload_n (pc := 115) (j := 0) dX12_see_115 rfl rfl ?_
        refine mm_iconst (pc := 116) (x := 1) dX12_see_116 rfl ?_
        refine mm_kVI (pc := 117) [.int 1] dX12_see_117 kX12_604 rfl sh_164 (Nat.le_of_ble_eq_true rfl) (Nat.le_of_ble_eq_true rfl) h (fun z117 m117 hG h => ?_)
        exact mm_iret (pc := 120) dX12_see_120 rfl (Nat.le_refl 0) (Nat.le_refl 0) ⟨_, rfl, rfl, hG, h⟩
    · have h := mm_iff hc h
      refine mm_aload_n (pc := 45) (j := 0) dX12_see_45 rfl rfl ?_
      refine mm_getR (pc := 46) (ci := 12) (N := 116) (r := 165) dX12_see_46 fX12_7 sh_164 rfl (g_164_0 hG) ?_
      refine mm_iload_n (pc := 49) (j := 3) dX12_see_49 rfl rfl ?_
      obtain ⟨hi50, h⟩ := h
      refine mm_iaload (pc := 50) (N := 1600) dX12_see_50 sh_165 hi50 ?_
      refine mm_bipush (pc := 51) (x := 30) dX12_see_51 rfl ?_
      refine mm_icmp_gt (pc := 53) (tgt := 103) dX12_see_53 (by decide) (fun hc => ?_) (fun hc => ?_)
      · have h := mm_ift hc h
        refine mm_iconst (pc := 103) (x := 0) dX12_see_103 rfl ?_
        refine mm_istore_n (pc := 104) (lv' := [(2, .int 0), (0, .ref 164), (1, .int y1), (3, .int y3)]) dX12_see_104 rfl (by decide) rfl ?_
        refine mm_iinc (pc := 105) (j := 3) (v := y3 + 3) (lv' := [(3, .int (y3 + 3)), (2, .int 0), (0, .ref 164), (1, .int y1)]) dX12_see_105 rfl rfl (by decide) rfl ?_
        refine mm_goto (pc := 108) (tgt := 36) dX12_see_108 (by decide) ?_
        exact mm_sub [2, 3, 1, 0] rfl h
      · have h := mm_iff hc h
        refine mm_aload_n (pc := 56) (j := 0) dX12_see_56 rfl rfl ?_
        refine mm_aload_n (pc := 57) (j := 0) dX12_see_57 rfl rfl ?_
        refine mm_getR (pc := 58) (ci := 12) (N := 116) (r := 165) dX12_see_58 fX12_7 sh_164 rfl (g_164_0 hG) ?_
        refine mm_iload_n (pc := 61) (j := 3) dX12_see_61 rfl rfl ?_
        refine mm_iconst (pc := 62) (x := 1) dX12_see_62 rfl ?_
        refine mm_iadd (pc := 63) dX12_see_63 ?_
        obtain ⟨hi64, h⟩ := h
        refine mm_iaload (pc := 64) (N := 1600) dX12_see_64 sh_165 hi64 ?_
        refine mm_i2l (pc := 65) dX12_see_65 ?_
        refine mm_kVI (pc := 66) [.long ((M.1 165 (y3 + 1).toNatClampNeg).toInt64)] dX12_see_66 kX12_534 rfl sh_164 (Nat.le_of_ble_eq_true rfl) (Nat.le_of_ble_eq_true rfl) h (fun z66 m66 hG h => ?_)
        refine mm_if_eq (pc := 69) (tgt := 103) dX12_see_69 (by decide) (fun hc => ?_) (fun hc => ?_)
        · have h := mm_ift hc h
          refine mm_iconst (pc := 103) (x := 0) dX12_see_103 rfl ?_
          refine mm_istore_n (pc := 104) (lv' := [(2, .int 0), (0, .ref 164), (1, .int y1), (3, .int y3)]) dX12_see_104 rfl (by decide) rfl ?_
          refine mm_iinc (pc := 105) (j := 3) (v := y3 + 3) (lv' := [(3, .int (y3 + 3)), (2, .int 0), (0, .ref 164), (1, .int y1)]) dX12_see_105 rfl rfl (by decide) rfl ?_
          refine mm_goto (pc := 108) (tgt := 36) dX12_see_108 (by decide) ?_
          exact mm_sub [2, 3, 1, 0] rfl h
        · have h := mm_iff hc h
          refine mm_aload_n (pc := 72) (j := 0) dX12_see_72 rfl rfl ?_
          refine mm_getR (pc := 73) (ci := 12) (N := 116) (r := 165) dX12_see_73 fX12_7 sh_164 rfl (g_164_0 hG) ?_
          refine mm_iload_n (pc := 76) (j := 3) dX12_see_76 rfl rfl ?_
          refine mm_iconst (pc := 77) (x := 2) dX12_see_77 rfl ?_
          refine mm_iadd (pc := 78) dX12_see_78 ?_
          obtain ⟨hi79, h⟩ := h
          refine mm_iaload (pc := 79) (N := 1600) dX12_see_79 sh_165 hi79 ?_
          refine mm_bipush (pc := 80) (x := 99) dX12_see_80 rfl ?_
          refine mm_icmp_le (pc := 82) (tgt := 99) dX12_see_82 (by decide) (fun hc => ?_) (fun hc => ?_)
          · have h := mm_ift hc h
            refine mm_iconst (pc := 99) (x := 1) dX12_see_99 rfl ?_
            refine mm_goto (pc := 100) (tgt := 104) dX12_see_100 (by decide) ?_
            refine mm_istore_n (pc := 104) (lv' := [(2, .int 1), (0, .ref 164), (1, .int y1), (3, .int y3)]) dX12_see_104 rfl (by decide) rfl ?_
            refine mm_iinc (pc := 105) (j := 3) (v := y3 + 3) (lv' := [(3, .int (y3 + 3)), (2, .int 1), (0, .ref 164), (1, .int y1)]) dX12_see_105 rfl rfl (by decide) rfl ?_
            refine mm_goto (pc := 108) (tgt := 36) dX12_see_108 (by decide) ?_
            exact mm_sub [2, 3, 1, 0] rfl h
          · have h := mm_iff hc h
            refine mm_aload_n (pc := 85) (j := 0) dX12_see_85 rfl rfl ?_
            refine mm_getR (pc := 86) (ci := 12) (N := 116) (r := 165) dX12_see_86 fX12_7 sh_164 rfl (g_164_0 hG) ?_
            refine mm_iload_n (pc := 89) (j := 3) dX12_see_89 rfl rfl ?_
            refine mm_iconst (pc := 90) (x := 2) dX12_see_90 rfl ?_
            refine mm_iadd (pc := 91) dX12_see_91 ?_
            obtain ⟨hi92, h⟩ := h
            refine mm_iaload (pc := 92) (N := 1600) dX12_see_92 sh_165 hi92 ?_
            refine mm_sipush (pc := 93) (x := 255) dX12_see_93 rfl ?_
            refine mm_icmp_ne (pc := 96) (tgt := 103) dX12_see_96 (by decide) (fun hc => ?_) (fun hc => ?_)
            · have h := mm_iff hc h
              refine mm_iconst (pc := 103) (x := 0) dX12_see_103 rfl ?_
              refine mm_istore_n (pc := 104) (lv' := [(2, .int 0), (0, .ref 164), (1, .int y1), (3, .int y3)]) dX12_see_104 rfl (by decide) rfl ?_
              refine mm_iinc (pc := 105) (j := 3) (v := y3 + 3) (lv' := [(3, .int (y3 + 3)), (2, .int 0), (0, .ref 164), (1, .int y1)]) dX12_see_105 rfl rfl (by decide) rfl ?_
              refine mm_goto (pc := 108) (tgt := 36) dX12_see_108 (by decide) ?_
              exact mm_sub [2, 3, 1, 0] rfl h
            · have h := mm_ift hc h
              refine mm_iconst (pc := 99) (x := 1) dX12_see_99 rfl ?_
              refine mm_goto (pc := 100) (tgt := 104) dX12_see_100 (by decide) ?_
              refine mm_istore_n (pc := 104) (lv' := [(2, .int 1), (0, .ref 164), (1, .int y1), (3, .int y3)]) dX12_see_104 rfl (by decide) rfl ?_
              refine mm_iinc (pc := 105) (j := 3) (v := y3 + 3) (lv' := [(3, .int (y3 + 3)), (2, .int 1), (0, .ref 164), (1, .int y1)]) dX12_see_105 rfl rfl (by decide) rfl ?_
              refine mm_goto (pc := 108) (tgt := 36) dX12_see_108 (by decide) ?_
              exact mm_sub [2, 3, 1, 0] rfl h
set_option maxRecDepth 100000 in
set_option maxHeartbeats 4000000 in
theorem lX12_see_123 {d : Nat} {M : mm_M} {K : Int32 → mm_M → Prop} {y1 : Int32} {y3 : Int32} (hG : mm_G M.2.2) (h : if y1 ≤ y3 then (K ((mm_uI M 164 72 (y1 / 3)).1 164 72) (mm_uI M 164 72 (y1 / 3))) else (vp_in y3 1600 ∧ vp_in y3 48 ∧ jX12_see_123 d (mm_uI M 212 y3.toNatClampNeg (M.1 165 y3.toNatClampNeg)) K y1 (y3 + 1))) : jX12_see_123 d  M K y1 y3 := by
  unfold jX12_see_123
  refine mm_iload_n (pc := 123) (j := 2) dX12_see_123 rfl rfl ?_
  refine mm_iload_n (pc := 124) (j := 1) dX12_see_124 rfl rfl ?_
  refine mm_icmp_ge (pc := 125) (tgt := 146) dX12_see_125 (by decide) (fun hc => ?_) (fun hc => ?_)
  · have h := mm_ift hc h
    refine mm_aload_n (pc := 146) (j := 0) dX12_see_146 rfl rfl ?_
    refine mm_iload_n (pc := 147) (j := 1) dX12_see_147 rfl rfl ?_
    refine mm_iconst (pc := 148) (x := 3) dX12_see_148 rfl ?_
    refine mm_idiv (pc := 149) dX12_see_149 (by decide) ?_
    refine mm_putI (pc := 150) (ci := 12) (N := 116) dX12_see_150 fX12_409 sh_164 (by decide +kernel) rfl rfl rfl ?_
    refine mm_aload_n (pc := 153) (j := 0) dX12_see_153 rfl rfl ?_
    refine mm_getI (pc := 154) (ci := 12) (N := 116) dX12_see_154 fX12_409 sh_164 rfl ?_
    exact mm_iret (pc := 157) dX12_see_157 rfl (Nat.le_refl 0) (Nat.le_refl 0) ⟨_, rfl, rfl, hG, h⟩
  · have h := mm_iff hc h
    refine mm_aload_n (pc := 128) (j := 0) dX12_see_128 rfl rfl ?_
    refine mm_getR (pc := 129) (ci := 12) (N := 116) (r := 212) dX12_see_129 fX12_157 sh_164 rfl (g_164_73 hG) ?_
    refine mm_iload_n (pc := 132) (j := 2) dX12_see_132 rfl rfl ?_
    refine mm_aload_n (pc := 133) (j := 0) dX12_see_133 rfl rfl ?_
    refine mm_getR (pc := 134) (ci := 12) (N := 116) (r := 165) dX12_see_134 fX12_7 sh_164 rfl (g_164_0 hG) ?_
    refine mm_iload_n (pc := 137) (j := 2) dX12_see_137 rfl rfl ?_
    obtain ⟨hi138, h⟩ := h
    refine mm_iaload (pc := 138) (N := 1600) dX12_see_138 sh_165 hi138 ?_
    obtain ⟨hi139, h⟩ := h
    refine mm_iastore (pc := 139) (N := 48) dX12_see_139 sh_212 hi139 ?_
    refine mm_iinc (pc := 140) (j := 2) (v := y3 + 1) (lv' := [(3, .int (y3 + 1)), (0, .ref 164), (1, .int y1)]) dX12_see_140 rfl rfl (by decide) rfl ?_
    refine mm_goto (pc := 143) (tgt := 123) dX12_see_143 (by decide) ?_
    exact mm_sub [1, 2, 0] rfl h
set_option maxRecDepth 100000 in
set_option maxHeartbeats 4000000 in
theorem rX12_eatenTaste {d : Nat} {x1 : Int32} {M : mm_M} {K : Int32 → mm_M → Prop} (hG : mm_G M.2.2) (h : vp_in x1 7 ∧ if (M.1 202 x1.toNatClampNeg) = (-1) then (K (-1) M) else (vp_in x1 7 ∧ K (M.1 203 x1.toNatClampNeg) M)) : mm_CI mX12_eatenTaste d [.ref 164, .int x1] M K := by
  show mm_W mX12_eatenTaste d 0 0 0 [(0, .ref 164), (1, .int x1)] [] mm_SH M 0 0 (mm_PI K)
  refine mm_aload_n (pc := 0) (j := 0) dX12_eatenTaste_0 rfl rfl ?_
  refine mm_getR (pc := 1) (ci := 12) (N := 116) (r := 202) dX12_eatenTaste_1 fX12_127 sh_164 rfl (g_164_61 hG) ?_
  refine mm_iload_n (pc := 4) (j := 1) dX12_eatenTaste_4 rfl rfl ?_
  obtain ⟨hi5, h⟩ := h
  refine mm_iaload (pc := 5) (N := 7) dX12_eatenTaste_5 sh_202 hi5 ?_
  refine mm_iconst (pc := 6) (x := (-1)) dX12_eatenTaste_6 rfl ?_
  refine mm_icmp_ne (pc := 7) (tgt := 14) dX12_eatenTaste_7 (by decide) (fun hc => ?_) (fun hc => ?_)
  · have h := mm_iff hc h
    refine mm_aload_n (pc := 14) (j := 0) dX12_eatenTaste_14 rfl rfl ?_
    refine mm_getR (pc := 15) (ci := 12) (N := 116) (r := 203) dX12_eatenTaste_15 fX12_130 sh_164 rfl (g_164_62 hG) ?_
    refine mm_iload_n (pc := 18) (j := 1) dX12_eatenTaste_18 rfl rfl ?_
    obtain ⟨hi19, h⟩ := h
    refine mm_iaload (pc := 19) (N := 7) dX12_eatenTaste_19 sh_203 hi19 ?_
    exact mm_iret (pc := 20) dX12_eatenTaste_20 rfl (Nat.le_refl 0) (Nat.le_refl 0) ⟨_, rfl, rfl, hG, h⟩
  · have h := mm_ift hc h
    refine mm_iconst (pc := 10) (x := (-1)) dX12_eatenTaste_10 rfl ?_
    refine mm_goto (pc := 11) (tgt := 20) dX12_eatenTaste_11 (by decide) ?_
    exact mm_iret (pc := 20) dX12_eatenTaste_20 rfl (Nat.le_refl 0) (Nat.le_refl 0) ⟨_, rfl, rfl, hG, h⟩
def jX12_isAsSeen_2 (d : Nat) (x1 : Int32) (M : mm_M) (K : Int32 → mm_M → Prop) (y1 : Int32) (y2 : Int32) : Prop := mm_W mX12_isAsSeen (d + 1) 0 0 2 [(0, .ref 164), (1, .int y1), (2, .int y2)] [] mm_SH M 0 0 (mm_PI K)
def jX12_isAsSeen_55 (d : Nat) (x1 : Int32) (M : mm_M) (K : Int32 → mm_M → Prop) (y1 : Int32) (y2 : Int32) (u0 : Int32) : Prop := mm_W mX12_isAsSeen (d + 1) 0 0 55 [(0, .ref 164), (1, .int y1), (2, .int y2)] [.int u0] mm_SH M 0 0 (mm_PI K)
set_option maxRecDepth 100000 in
set_option maxHeartbeats 4000000 in
theorem rX12_isAsSeen {d : Nat} {x1 : Int32} {M : mm_M} {K : Int32 → mm_M → Prop} (hG : mm_G M.2.2) (h : jX12_isAsSeen_2 d x1 M K x1 0) : mm_CI mX12_isAsSeen (d + 1) [.ref 164, .int x1] M K := by
  show mm_W mX12_isAsSeen (d + 1) 0 0 0 [(0, .ref 164), (1, .int x1)] [] mm_SH M 0 0 (mm_PI K)
  refine mm_iconst (pc := 0) (x := 0) dX12_isAsSeen_0 rfl ?_
  refine mm_istore_n (pc := 1) (lv' := [(2, .int 0), (0, .ref 164), (1, .int x1)]) dX12_isAsSeen_1 rfl (by decide) rfl ?_
  exact mm_sub [1, 2, 0] rfl h
set_option maxRecDepth 100000 in
set_option maxHeartbeats 4000000 in
theorem lX12_isAsSeen_2 {d : Nat} {x1 : Int32} {M : mm_M} {K : Int32 → mm_M → Prop} {y1 : Int32} {y2 : Int32} (hG : mm_G M.2.2) (h : if (M.1 164 72) ≤ y2 then (K 1 M) else (vp_in (3 * y2) 48 ∧ if (M.1 212 (3 * y2).toNatClampNeg) = y1 then (vp_in ((3 * y2) + 2) 48 ∧ if (M.1 212 ((3 * y2) + 2).toNatClampNeg) = 255 then (jX12_isAsSeen_55 d x1 M K y1 y2 (-1)) else (vp_in ((3 * y2) + 2) 48 ∧ jX12_isAsSeen_55 d x1 M K y1 y2 (M.1 212 ((3 * y2) + 2).toNatClampNeg))) else (jX12_isAsSeen_2 d x1 M K y1 (y2 + 1)))) : jX12_isAsSeen_2 d x1 M K y1 y2 := by
  unfold jX12_isAsSeen_2
  refine mm_iload_n (pc := 2) (j := 2) dX12_isAsSeen_2 rfl rfl ?_
  refine mm_aload_n (pc := 3) (j := 0) dX12_isAsSeen_3 rfl rfl ?_
  refine mm_getI (pc := 4) (ci := 12) (N := 116) dX12_isAsSeen_4 fX12_409 sh_164 rfl ?_
  refine mm_icmp_ge (pc := 7) (tgt := 94) dX12_isAsSeen_7 (by decide) (fun hc => ?_) (fun hc => ?_)
  · have h := mm_ift hc h
    refine mm_iconst (pc := 94) (x := 1) dX12_isAsSeen_94 rfl ?_
    exact mm_zret (pc := 95) dX12_isAsSeen_95 rfl rfl (Nat.le_refl 0) (Nat.le_refl 0) ⟨_, rfl, rfl, hG, h⟩
  · have h := mm_iff hc h
    refine mm_aload_n (pc := 10) (j := 0) dX12_isAsSeen_10 rfl rfl ?_
    refine mm_getR (pc := 11) (ci := 12) (N := 116) (r := 212) dX12_isAsSeen_11 fX12_157 sh_164 rfl (g_164_73 hG) ?_
    refine mm_iconst (pc := 14) (x := 3) dX12_isAsSeen_14 rfl ?_
    refine mm_iload_n (pc := 15) (j := 2) dX12_isAsSeen_15 rfl rfl ?_
    refine mm_imul (pc := 16) dX12_isAsSeen_16 ?_
    obtain ⟨hi17, h⟩ := h
    refine mm_iaload (pc := 17) (N := 48) dX12_isAsSeen_17 sh_212 hi17 ?_
    refine mm_iload_n (pc := 18) (j := 1) dX12_isAsSeen_18 rfl rfl ?_
    refine mm_icmp_eq (pc := 19) (tgt := 25) dX12_isAsSeen_19 (by decide) (fun hc => ?_) (fun hc => ?_)
    · have h := mm_ift hc h
      refine mm_aload_n (pc := 25) (j := 0) dX12_isAsSeen_25 rfl rfl ?_
      refine mm_getR (pc := 26) (ci := 12) (N := 116) (r := 212) dX12_isAsSeen_26 fX12_157 sh_164 rfl (g_164_73 hG) ?_
      refine mm_iconst (pc := 29) (x := 3) dX12_isAsSeen_29 rfl ?_
      refine mm_iload_n (pc := 30) (j := 2) dX12_isAsSeen_30 rfl rfl ?_
      refine mm_imul (pc := 31) dX12_isAsSeen_31 ?_
      refine mm_iconst (pc := 32) (x := 2) dX12_isAsSeen_32 rfl ?_
      refine mm_iadd (pc := 33) dX12_isAsSeen_33 ?_
      obtain ⟨hi34, h⟩ := h
      refine mm_iaload (pc := 34) (N := 48) dX12_isAsSeen_34 sh_212 hi34 ?_
      refine mm_sipush (pc := 35) (x := 255) dX12_isAsSeen_35 rfl ?_
      refine mm_icmp_ne (pc := 38) (tgt := 45) dX12_isAsSeen_38 (by decide) (fun hc => ?_) (fun hc => ?_)
      · have h := mm_iff hc h
        refine mm_aload_n (pc := 45) (j := 0) dX12_isAsSeen_45 rfl rfl ?_
        refine mm_getR (pc := 46) (ci := 12) (N := 116) (r := 212) dX12_isAsSeen_46 fX12_157 sh_164 rfl (g_164_73 hG) ?_
        refine mm_iconst (pc := 49) (x := 3) dX12_isAsSeen_49 rfl ?_
        refine mm_iload_n (pc := 50) (j := 2) dX12_isAsSeen_50 rfl rfl ?_
        refine mm_imul (pc := 51) dX12_isAsSeen_51 ?_
        refine mm_iconst (pc := 52) (x := 2) dX12_isAsSeen_52 rfl ?_
        refine mm_iadd (pc := 53) dX12_isAsSeen_53 ?_
        obtain ⟨hi54, h⟩ := h
        refine mm_iaload (pc := 54) (N := 48) dX12_isAsSeen_54 sh_212 hi54 ?_
        exact h
      · have h := mm_ift hc h
        refine mm_iconst (pc := 41) (x := (-1)) dX12_isAsSeen_41 rfl ?_
        refine mm_goto (pc := 42) (tgt := 55) dX12_isAsSeen_42 (by decide) ?_
        exact h
    · have h := mm_iff hc h
      refine mm_goto (pc := 22) (tgt := 88) dX12_isAsSeen_22 (by decide) ?_
      refine mm_iinc (pc := 88) (j := 2) (v := y2 + 1) (lv' := [(2, .int (y2 + 1)), (0, .ref 164), (1, .int y1)]) dX12_isAsSeen_88 rfl rfl (by decide) rfl ?_
      refine mm_goto (pc := 91) (tgt := 2) dX12_isAsSeen_91 (by decide) ?_
      exact mm_sub [1, 2, 0] rfl h
set_option maxRecDepth 100000 in
set_option maxHeartbeats 4000000 in
theorem lX12_isAsSeen_55 {d : Nat} {x1 : Int32} {M : mm_M} {K : Int32 → mm_M → Prop} {y1 : Int32} {y2 : Int32} {u0 : Int32} (hG : mm_G M.2.2) (h : if 999 < (M.1 199 (0 : Int32).toNatClampNeg) then (K 0 M) else (vp_in ((3 * y2) + 1) 48 ∧ mm_CI mX12_eatenTaste d [.ref 164, .int (M.1 212 ((3 * y2) + 1).toNatClampNeg)] M (fun z79 m79 => if z79 = u0 then (jX12_isAsSeen_2 d x1 m79 K y1 (y2 + 1)) else (K 0 m79)))) : jX12_isAsSeen_55 d x1 M K y1 y2 u0 := by
  unfold jX12_isAsSeen_55
  refine mm_istore_n (pc := 55) (lv' := [(3, .int u0), (0, .ref 164), (1, .int y1), (2, .int y2)]) dX12_isAsSeen_55 rfl (by decide) rfl ?_
  refine mm_aload_n (pc := 56) (j := 1) dX12_isAsSeen_56 rfl rfl ?_
  refine mm_getR (pc := 57) (ci := 12) (N := 116) (r := 199) dX12_isAsSeen_57 fX12_118 sh_164 rfl (g_164_50 hG) ?_
  refine mm_iconst (pc := 60) (x := 0) dX12_isAsSeen_60 rfl ?_
  refine mm_iaload (pc := 61) (N := 204) dX12_isAsSeen_61 sh_199 (mm_vin (k := 0) rfl (by decide) (by decide)) ?_
  refine mm_sipush (pc := 62) (x := 999) dX12_isAsSeen_62 rfl ?_
  refine mm_icmp_gt (pc := 65) (tgt := 86) dX12_isAsSeen_65 (by decide) (fun hc => ?_) (fun hc => ?_)
  · have h := mm_ift hc h
    refine mm_iconst (pc := 86) (x := 0) dX12_isAsSeen_86 rfl ?_
    exact mm_zret (pc := 87) dX12_isAsSeen_87 rfl rfl (Nat.le_refl 0) (Nat.le_refl 0) ⟨_, rfl, rfl, hG, h⟩
  · have h := mm_iff hc h
    refine mm_aload_n (pc := 68) (j := 1) dX12_isAsSeen_68 rfl rfl ?_
    refine mm_aload_n (pc := 69) (j := 1) dX12_isAsSeen_69 rfl rfl ?_
    refine mm_getR (pc := 70) (ci := 12) (N := 116) (r := 212) dX12_isAsSeen_70 fX12_157 sh_164 rfl (g_164_73 hG) ?_
    refine mm_iconst (pc := 73) (x := 3) dX12_isAsSeen_73 rfl ?_
    refine mm_iload_n (pc := 74) (j := 3) dX12_isAsSeen_74 rfl rfl ?_
    refine mm_imul (pc := 75) dX12_isAsSeen_75 ?_
    refine mm_iconst (pc := 76) (x := 1) dX12_isAsSeen_76 rfl ?_
    refine mm_iadd (pc := 77) dX12_isAsSeen_77 ?_
    obtain ⟨hi78, h⟩ := h
    refine mm_iaload (pc := 78) (N := 48) dX12_isAsSeen_78 sh_212 hi78 ?_
    refine mm_kVI (pc := 79) [.int (M.1 212 ((3 * y2) + 1).toNatClampNeg)] dX12_isAsSeen_79 kX12_607 rfl sh_164 (Nat.le_of_ble_eq_true rfl) (Nat.le_of_ble_eq_true rfl) h (fun z79 m79 hG h => ?_)
    refine mm_iload_n (pc := 82) (j := 0) dX12_isAsSeen_82 rfl rfl ?_
    refine mm_icmp_eq (pc := 83) (tgt := 88) dX12_isAsSeen_83 (by decide) (fun hc => ?_) (fun hc => ?_)
    · have h := mm_ift hc h
      refine mm_iinc (pc := 88) (j := 3) (v := y2 + 1) (lv' := [(2, .int (y2 + 1)), (3, .int u0), (0, .ref 164), (1, .int y1)]) dX12_isAsSeen_88 rfl rfl (by decide) rfl ?_
      refine mm_goto (pc := 91) (tgt := 2) dX12_isAsSeen_91 (by decide) ?_
      exact mm_sub [2, 3, 0] rfl h
    · have h := mm_iff hc h
      refine mm_iconst (pc := 86) (x := 0) dX12_isAsSeen_86 rfl ?_
      exact mm_zret (pc := 87) dX12_isAsSeen_87 rfl rfl (Nat.le_refl 0) (Nat.le_refl 0) ⟨_, rfl, rfl, hG, h⟩
def jX12_laysFits_11 (d : Nat) (x1 : Int32) (M : mm_M) (K : mm_M → Prop) (y1 : Int32) (y2 : Int32) : Prop := mm_W mX12_laysFits (d + 1) 0 0 11 [(0, .ref 164), (1, .int y1), (2, .int y2)] [] mm_SH M 0 0 (mm_PV K)
def jX12_laysFits_33 (d : Nat) (x1 : Int32) (M : mm_M) (K : mm_M → Prop) (y1 : Int32) (y2 : Int32) (y3 : Int32) (y4 : Int32) : Prop := mm_W mX12_laysFits (d + 1) 0 0 33 [(0, .ref 164), (1, .int y1), (2, .int y2), (3, .int y3), (4, .int y4)] [] mm_SH M 0 0 (mm_PV K)
def jX12_laysFits_66 (d : Nat) (x1 : Int32) (M : mm_M) (K : mm_M → Prop) (y1 : Int32) (y2 : Int32) (y3 : Int32) (y4 : Int32) (y5 : Int32) : Prop := mm_W mX12_laysFits (d + 1) 0 0 66 [(0, .ref 164), (1, .int y1), (2, .int y2), (3, .int y3), (4, .int y4), (5, .int y5)] [] mm_SH M 0 0 (mm_PV K)
set_option maxRecDepth 100000 in
set_option maxHeartbeats 4000000 in
theorem rX12_laysFits {d : Nat} {x1 : Int32} {M : mm_M} {K : mm_M → Prop} (hG : mm_G M.2.2) (h : mm_CV mX12_putsAside d [.ref 164] (mm_uI M 164 76 0) (fun m6 => jX12_laysFits_11 d x1 m6 K x1 0)) : mm_CV mX12_laysFits (d + 1) [.ref 164, .int x1] M K := by
  show mm_W mX12_laysFits (d + 1) 0 0 0 [(0, .ref 164), (1, .int x1)] [] mm_SH M 0 0 (mm_PV K)
  refine mm_aload_n (pc := 0) (j := 0) dX12_laysFits_0 rfl rfl ?_
  refine mm_iconst (pc := 1) (x := 0) dX12_laysFits_1 rfl ?_
  refine mm_putI (pc := 2) (ci := 12) (N := 116) dX12_laysFits_2 fX12_610 sh_164 (by decide +kernel) rfl rfl rfl ?_
  refine mm_aload_n (pc := 5) (j := 0) dX12_laysFits_5 rfl rfl ?_
  refine mm_kVV (pc := 6) [] dX12_laysFits_6 kX12_544 rfl sh_164 (Nat.le_of_ble_eq_true rfl) (Nat.le_of_ble_eq_true rfl) h (fun m6 hG h => ?_)
  refine mm_iconst (pc := 9) (x := 0) dX12_laysFits_9 rfl ?_
  refine mm_istore_n (pc := 10) (lv' := [(2, .int 0), (0, .ref 164), (1, .int x1)]) dX12_laysFits_10 rfl (by decide) rfl ?_
  exact mm_sub [1, 2, 0] rfl h
set_option maxRecDepth 100000 in
set_option maxHeartbeats 4000000 in
theorem lX12_laysFits_11 {d : Nat} {x1 : Int32} {M : mm_M} {K : mm_M → Prop} {y1 : Int32} {y2 : Int32} (hG : mm_G M.2.2) (h : if 99 < y2 then (mm_CV mX12_takesBack d [.ref 164] M (fun m144 => K m144)) else (vp_in (2 + (3 * y1)) 204 ∧ jX12_laysFits_33 d x1 (mm_uI M 199 (2 + (3 * y1)).toNatClampNeg y2) K y1 y2 1 0)) : jX12_laysFits_11 d x1 M K y1 y2 := by
  unfold jX12_laysFits_11
  refine mm_iload_n (pc := 11) (j := 2) dX12_laysFits_11 rfl rfl ?_
  refine mm_bipush (pc := 12) (x := 99) dX12_laysFits_12 rfl ?_
  refine mm_icmp_gt (pc := 14) (tgt := 143) dX12_laysFits_14 (by decide) (fun hc => ?_) (fun hc => ?_)
  · have h := mm_ift hc h
    refine mm_aload_n (pc := 143) (j := 0) dX12_laysFits_143 rfl rfl ?_
    refine mm_kVV (pc := 144) [] dX12_laysFits_144 kX12_547 rfl sh_164 (Nat.le_of_ble_eq_true rfl) (Nat.le_of_ble_eq_true rfl) h (fun m144 hG h => ?_)
    exact mm_vret (pc := 147) dX12_laysFits_147 rfl (Nat.le_refl 0) (Nat.le_refl 0) ⟨rfl, rfl, hG, h⟩
  · have h := mm_iff hc h
    refine mm_aload_n (pc := 17) (j := 0) dX12_laysFits_17 rfl rfl ?_
    refine mm_getR (pc := 18) (ci := 12) (N := 116) (r := 199) dX12_laysFits_18 fX12_118 sh_164 rfl (g_164_50 hG) ?_
    refine mm_iconst (pc := 21) (x := 2) dX12_laysFits_21 rfl ?_
    refine mm_iconst (pc := 22) (x := 3) dX12_laysFits_22 rfl ?_
    refine mm_iload_n (pc := 23) (j := 1) dX12_laysFits_23 rfl rfl ?_
    refine mm_imul (pc := 24) dX12_laysFits_24 ?_
    refine mm_iadd (pc := 25) dX12_laysFits_25 ?_
    refine mm_iload_n (pc := 26) (j := 2) dX12_laysFits_26 rfl rfl ?_
    obtain ⟨hi27, h⟩ := h
    refine mm_iastore (pc := 27) (N := 204) dX12_laysFits_27 sh_199 hi27 ?_
    refine mm_iconst (pc := 28) (x := 1) dX12_laysFits_28 rfl ?_
    refine mm_istore_n (pc := 29) (lv' := [(3, .int 1), (0, .ref 164), (1, .int y1), (2, .int y2)]) dX12_laysFits_29 rfl (by decide) rfl ?_
    refine mm_iconst (pc := 30) (x := 0) dX12_laysFits_30 rfl ?_
    refine mm_istore (pc := 31) (lv' := [(4, .int 0), (3, .int 1), (0, .ref 164), (1, .int y1), (2, .int y2)]) dX12_laysFits_31 (by decide) rfl ?_
    exact mm_sub [2, 3, 4, 1, 0] rfl h
set_option maxRecDepth 100000 in
set_option maxHeartbeats 4000000 in
theorem lX12_laysFits_33 {d : Nat} {x1 : Int32} {M : mm_M} {K : mm_M → Prop} {y1 : Int32} {y2 : Int32} {y3 : Int32} {y4 : Int32} (hG : mm_G M.2.2) (h : if 30 < y4 then (mm_CV mX12_triesAnew d [.ref 164] M (fun m113 => vp_in y2 100 ∧ if y3 = 0 then (jX12_laysFits_11 d x1 (mm_uI m113 214 y2.toNatClampNeg (vp_nar .boolean y3)) K y1 (y2 + 1)) else (jX12_laysFits_11 d x1 (mm_uI (mm_uI m113 214 y2.toNatClampNeg (vp_nar .boolean y3)) 164 76 (((mm_uI m113 214 y2.toNatClampNeg (vp_nar .boolean y3)).1 164 76) + 1)) K y1 (y2 + 1)))) else (mm_CV mX12_dayGoes d [.ref 164] M (fun m41 => if y3 = 0 then (jX12_laysFits_66 d x1 m41 K y1 y2 0 y4 0) else (mm_CI mX12_isAsSeen d [.ref 164, .int y4] m41 (fun z51 m51 => if z51 = 0 then (jX12_laysFits_66 d x1 m51 K y1 y2 0 y4 0) else (jX12_laysFits_66 d x1 m51 K y1 y2 1 y4 0)))))) : jX12_laysFits_33 d x1 M K y1 y2 y3 y4 := by
  unfold jX12_laysFits_33
  refine mm_iload (pc := 33) (j := 4) dX12_laysFits_33 rfl ?_
  refine mm_bipush (pc := 35) (x := 30) dX12_laysFits_35 rfl ?_
  refine mm_icmp_gt (pc := 37) (tgt := 112) dX12_laysFits_37 (by decide) (fun hc => ?_) (fun hc => ?_)
  · have h := mm_ift hc h
    refine mm_aload_n (pc := 112) (j := 0) dX12_laysFits_112 rfl rfl ?_
    refine mm_kVV (pc := 113) [] dX12_laysFits_113 kX12_519 rfl sh_164 (Nat.le_of_ble_eq_true rfl) (Nat.le_of_ble_eq_true rfl) h (fun m113 hG h => ?_)
    refine mm_aload_n (pc := 116) (j := 0) dX12_laysFits_116 rfl rfl ?_
    refine mm_getR (pc := 117) (ci := 12) (N := 116) (r := 214) dX12_laysFits_117 fX12_163 sh_164 rfl (g_164_75 hG) ?_
    refine mm_iload_n (pc := 120) (j := 2) dX12_laysFits_120 rfl rfl ?_
    refine mm_iload_n (pc := 121) (j := 3) dX12_laysFits_121 rfl rfl ?_
    obtain ⟨hi122, h⟩ := h
    refine mm_zastore (pc := 122) (N := 100) dX12_laysFits_122 sh_214 hi122 ?_
    refine mm_iload_n (pc := 123) (j := 3) dX12_laysFits_123 rfl rfl ?_
    refine mm_if_eq (pc := 124) (tgt := 137) dX12_laysFits_124 (by decide) (fun hc => ?_) (fun hc => ?_)
    · have h := mm_ift hc h
      refine mm_iinc (pc := 137) (j := 2) (v := y2 + 1) (lv' := [(2, .int (y2 + 1)), (0, .ref 164), (1, .int y1), (3, .int y3), (4, .int y4)]) dX12_laysFits_137 rfl rfl (by decide) rfl ?_
      refine mm_goto (pc := 140) (tgt := 11) dX12_laysFits_140 (by decide) ?_
      exact mm_sub [1, 2, 0] rfl h
    · have h := mm_iff hc h
      refine mm_aload_n (pc := 127) (j := 0) dX12_laysFits_127 rfl rfl ?_
      refine mm_dup (pc := 128) dX12_laysFits_128 rfl ?_
      refine mm_getI (pc := 129) (ci := 12) (N := 116) dX12_laysFits_129 fX12_610 sh_164 rfl ?_
      refine mm_iconst (pc := 132) (x := 1) dX12_laysFits_132 rfl ?_
      refine mm_iadd (pc := 133) dX12_laysFits_133 ?_
      refine mm_putI (pc := 134) (ci := 12) (N := 116) dX12_laysFits_134 fX12_610 sh_164 (by decide +kernel) rfl rfl rfl ?_
      refine mm_iinc (pc := 137) (j := 2) (v := y2 + 1) (lv' := [(2, .int (y2 + 1)), (0, .ref 164), (1, .int y1), (3, .int y3), (4, .int y4)]) dX12_laysFits_137 rfl rfl (by decide) rfl ?_
      refine mm_goto (pc := 140) (tgt := 11) dX12_laysFits_140 (by decide) ?_
      exact mm_sub [1, 2, 0] rfl h
  · have h := mm_iff hc h
    refine mm_aload_n (pc := 40) (j := 0) dX12_laysFits_40 rfl rfl ?_
    refine mm_kVV (pc := 41) [] dX12_laysFits_41 kX12_516 rfl sh_164 (Nat.le_of_ble_eq_true rfl) (Nat.le_of_ble_eq_true rfl) h (fun m41 hG h => ?_)
    refine mm_iload_n (pc := 44) (j := 3) dX12_laysFits_44 rfl rfl ?_
    refine mm_if_eq (pc := 45) (tgt := 61) dX12_laysFits_45 (by decide) (fun hc => ?_) (fun hc => ?_)
    · have h := mm_ift hc h
      refine mm_iconst (pc := 61) (x := 0) dX12_laysFits_61 rfl ?_
      refine mm_istore_n (pc := 62) (lv' := [(3, .int 0), (0, .ref 164), (1, .int y1), (2, .int y2), (4, .int y4)]) dX12_laysFits_62 rfl (by decide) rfl ?_
      refine mm_iconst (pc := 63) (x := 0) dX12_laysFits_63 rfl ?_
      refine mm_istore (pc := 64) (lv' := [(5, .int 0), (3, .int 0), (0, .ref 164), (1, .int y1), (2, .int y2), (4, .int y4)]) dX12_laysFits_64 (by decide) rfl ?_
      exact mm_sub [2, 3, 4, 1, 5, 0] rfl h
    · have h := mm_iff hc h
      refine mm_aload_n (pc := 48) (j := 0) dX12_laysFits_48 rfl rfl ?_
      refine mm_iload (pc := 49) (j := 4) dX12_laysFits_49 rfl ?_
      refine mm_kVI (pc := 51) [.int y4] dX12_laysFits_51 kX12_613 rfl sh_164 (Nat.le_of_ble_eq_true rfl) (Nat.le_of_ble_eq_true rfl) h (fun z51 m51 hG h => ?_)
      refine mm_if_eq (pc := 54) (tgt := 61) dX12_laysFits_54 (by decide) (fun hc => ?_) (fun hc => ?_)
      · have h := mm_ift hc h
        refine mm_iconst (pc := 61) (x := 0) dX12_laysFits_61 rfl ?_
        refine mm_istore_n (pc := 62) (lv' := [(3, .int 0), (0, .ref 164), (1, .int y1), (2, .int y2), (4, .int y4)]) dX12_laysFits_62 rfl (by decide) rfl ?_
        refine mm_iconst (pc := 63) (x := 0) dX12_laysFits_63 rfl ?_
        refine mm_istore (pc := 64) (lv' := [(5, .int 0), (3, .int 0), (0, .ref 164), (1, .int y1), (2, .int y2), (4, .int y4)]) dX12_laysFits_64 (by decide) rfl ?_
        exact mm_sub [2, 3, 4, 1, 5, 0] rfl h
      · have h := mm_iff hc h
        refine mm_iconst (pc := 57) (x := 1) dX12_laysFits_57 rfl ?_
        refine mm_goto (pc := 58) (tgt := 62) dX12_laysFits_58 (by decide) ?_
        refine mm_istore_n (pc := 62) (lv' := [(3, .int 1), (0, .ref 164), (1, .int y1), (2, .int y2), (4, .int y4)]) dX12_laysFits_62 rfl (by decide) rfl ?_
        refine mm_iconst (pc := 63) (x := 0) dX12_laysFits_63 rfl ?_
        refine mm_istore (pc := 64) (lv' := [(5, .int 0), (3, .int 1), (0, .ref 164), (1, .int y1), (2, .int y2), (4, .int y4)]) dX12_laysFits_64 (by decide) rfl ?_
        exact mm_sub [2, 3, 4, 1, 5, 0] rfl h
set_option maxRecDepth 100000 in
set_option maxHeartbeats 4000000 in
theorem lX12_laysFits_66 {d : Nat} {x1 : Int32} {M : mm_M} {K : mm_M → Prop} {y1 : Int32} {y2 : Int32} {y3 : Int32} {y4 : Int32} {y5 : Int32} (hG : mm_G M.2.2) (h : mm_CI mX12_houseMany d [.ref 164] M (fun z69 m69 => if z69 ≤ y5 then (jX12_laysFits_33 d x1 m69 K y1 y2 y3 (y4 + 1)) else (mm_CI mX12_eatenTaste d [.ref 164, .int y5] m69 (fun z96 m96 => vp_in (((217 * y2) + (7 * y4)) + y5) 21700 ∧ jX12_laysFits_66 d x1 (mm_uI m96 213 (((217 * y2) + (7 * y4)) + y5).toNatClampNeg z96) K y1 y2 y3 y4 (y5 + 1))))) : jX12_laysFits_66 d x1 M K y1 y2 y3 y4 y5 := by
  unfold jX12_laysFits_66
  refine mm_iload (pc := 66) (j := 5) dX12_laysFits_66 rfl ?_
  refine mm_aload_n (pc := 68) (j := 0) dX12_laysFits_68 rfl rfl ?_
  refine mm_kVI (pc := 69) [] dX12_laysFits_69 kX12_412 rfl sh_164 (Nat.le_of_ble_eq_true rfl) (Nat.le_of_ble_eq_true rfl) h (fun z69 m69 hG h => ?_)
  refine mm_icmp_ge (pc := 72) (tgt := 106) dX12_laysFits_72 (by decide) (fun hc => ?_) (fun hc => ?_)
  · have h := mm_ift hc h
    refine mm_iinc (pc := 106) (j := 4) (v := y4 + 1) (lv' := [(4, .int (y4 + 1)), (0, .ref 164), (1, .int y1), (2, .int y2), (3, .int y3), (5, .int y5)]) dX12_laysFits_106 rfl rfl (by decide) rfl ?_
    refine mm_goto (pc := 109) (tgt := 33) dX12_laysFits_109 (by decide) ?_
    exact mm_sub [1, 2, 3, 4, 0] rfl h
  · have h := mm_iff hc h
    refine mm_aload_n (pc := 75) (j := 0) dX12_laysFits_75 rfl rfl ?_
    refine mm_getR (pc := 76) (ci := 12) (N := 116) (r := 213) dX12_laysFits_76 fX12_160 sh_164 rfl (g_164_74 hG) ?_
    refine mm_sipush (pc := 79) (x := 217) dX12_laysFits_79 rfl ?_
    refine mm_iload_n (pc := 82) (j := 2) dX12_laysFits_82 rfl rfl ?_
    refine mm_imul (pc := 83) dX12_laysFits_83 ?_
    refine mm_bipush (pc := 84) (x := 7) dX12_laysFits_84 rfl ?_
    refine mm_iload (pc := 86) (j := 4) dX12_laysFits_86 rfl ?_
    refine mm_imul (pc := 88) dX12_laysFits_88 ?_
    refine mm_iadd (pc := 89) dX12_laysFits_89 ?_
    refine mm_iload (pc := 90) (j := 5) dX12_laysFits_90 rfl ?_
    refine mm_iadd (pc := 92) dX12_laysFits_92 ?_
    refine mm_aload_n (pc := 93) (j := 0) dX12_laysFits_93 rfl rfl ?_
    refine mm_iload (pc := 94) (j := 5) dX12_laysFits_94 rfl ?_
    refine mm_kVI (pc := 96) [.int y5] dX12_laysFits_96 kX12_607 rfl sh_164 (Nat.le_of_ble_eq_true rfl) (Nat.le_of_ble_eq_true rfl) h (fun z96 m96 hG h => ?_)
    obtain ⟨hi99, h⟩ := h
    refine mm_iastore (pc := 99) (N := 21700) dX12_laysFits_99 sh_213 hi99 ?_
    refine mm_iinc (pc := 100) (j := 5) (v := y5 + 1) (lv' := [(5, .int (y5 + 1)), (0, .ref 164), (1, .int y1), (2, .int y2), (3, .int y3), (4, .int y4)]) dX12_laysFits_100 rfl rfl (by decide) rfl ?_
    refine mm_goto (pc := 103) (tgt := 66) dX12_laysFits_103 (by decide) ?_
    exact mm_sub [1, 2, 3, 4, 5, 0] rfl h
def jX12_flour_44 (d : Nat) (x1 : Int32) (x2 : Int32) (M : mm_M) (K : Int32 → mm_M → Prop) (y2 : Int32) (y3 : Int32) (y4 : Int32) (y5 : Int32) : Prop := mm_W mX12_flour (d + 1) 0 0 44 [(0, .ref 164), (2, .int y2), (3, .int y3), (4, .int y4), (5, .int y5)] [] mm_SH M 0 0 (mm_PI K)
set_option maxRecDepth 100000 in
set_option maxHeartbeats 4000000 in
theorem rX12_flour {d : Nat} {x1 : Int32} {x2 : Int32} {M : mm_M} {K : Int32 → mm_M → Prop} (hG : mm_G M.2.2) (h : mm_CI mX12_isHouse d [.ref 164, .long x1.toInt64] M (fun z3 m3 => if z3 = 0 then (K (-1) m3) else (mm_CI mX12_isThere d [.ref 164, .int x1] m3 (fun z11 m11 => if z11 = 0 then (K (-1) m11) else (mm_CI mX12_isIn d [.long x2.toInt64, .long 0, .long 2] m11 (fun z23 m23 => if z23 = 0 then (K (-1) m23) else (mm_CV mX12_laysFits d [.ref 164, .int x1] m23 (fun m33 => jX12_flour_44 d x1 x2 m33 K x2 (-1) (-1) 0)))))))) : mm_CI mX12_flour (d + 1) [.ref 164, .int x1, .int x2] M K := by
  show mm_W mX12_flour (d + 1) 0 0 0 [(0, .ref 164), (1, .int x1), (2, .int x2)] [] mm_SH M 0 0 (mm_PI K)
  refine mm_aload_n (pc := 0) (j := 0) dX12_flour_0 rfl rfl ?_
  refine mm_iload_n (pc := 1) (j := 1) dX12_flour_1 rfl rfl ?_
  refine mm_i2l (pc := 2) dX12_flour_2 ?_
  refine mm_kVI (pc := 3) [.long x1.toInt64] dX12_flour_3 kX12_534 rfl sh_164 (Nat.le_of_ble_eq_true rfl) (Nat.le_of_ble_eq_true rfl) h (fun z3 m3 hG h => ?_)
  refine mm_if_eq (pc := 6) (tgt := 29) dX12_flour_6 (by decide) (fun hc => ?_) (fun hc => ?_)
  · have h := mm_ift hc h
    refine mm_iconst (pc := 29) (x := (-1)) dX12_flour_29 rfl ?_
    exact mm_iret (pc := 30) dX12_flour_30 rfl (Nat.le_refl 0) (Nat.le_refl 0) ⟨_, rfl, rfl, hG, h⟩
  · have h := mm_iff hc h
    refine mm_aload_n (pc := 9) (j := 0) dX12_flour_9 rfl rfl ?_
    refine mm_iload_n (pc := 10) (j := 1) dX12_flour_10 rfl rfl ?_
    refine mm_kVI (pc := 11) [.int x1] dX12_flour_11 kX12_462 rfl sh_164 (Nat.le_of_ble_eq_true rfl) (Nat.le_of_ble_eq_true rfl) h (fun z11 m11 hG h => ?_)
    refine mm_if_eq (pc := 14) (tgt := 29) dX12_flour_14 (by decide) (fun hc => ?_) (fun hc => ?_)
    · have h := mm_ift hc h
      refine mm_iconst (pc := 29) (x := (-1)) dX12_flour_29 rfl ?_
      exact mm_iret (pc := 30) dX12_flour_30 rfl (Nat.le_refl 0) (Nat.le_refl 0) ⟨_, rfl, rfl, hG, h⟩
    · have h := mm_iff hc h
      refine mm_iload_n (pc := 17) (j := 2) dX12_flour_17 rfl rfl ?_
      refine mm_i2l (pc := 18) dX12_flour_18 ?_
      refine mm_lconst (pc := 19) (x := 0) dX12_flour_19 rfl ?_
      refine mm_ldc2 (pc := 20) (x := 2) dX12_flour_20 cX12_554 ?_
      refine mm_kSI (pc := 23) [.long x2.toInt64, .long 0, .long 2] dX12_flour_23 kX12_303 rfl (Nat.le_of_ble_eq_true rfl) (Nat.le_of_ble_eq_true rfl) h (fun z23 m23 hG h => ?_)
      refine mm_if_ne (pc := 26) (tgt := 31) dX12_flour_26 (by decide) (fun hc => ?_) (fun hc => ?_)
      · have h := mm_iff hc h
        refine mm_aload_n (pc := 31) (j := 0) dX12_flour_31 rfl rfl ?_
        refine mm_iload_n (pc := 32) (j := 1) dX12_flour_32 rfl rfl ?_
        refine mm_kVV (pc := 33) [.int x1] dX12_flour_33 kX12_616 rfl sh_164 (Nat.le_of_ble_eq_true rfl) (Nat.le_of_ble_eq_true rfl) h (fun m33 hG h => ?_)
        refine mm_iconst (pc := 36) (x := (-1)) dX12_flour_36 rfl ?_
        refine mm_istore_n (pc := 37) (lv' := [(3, .int (-1)), (0, .ref 164), (1, .int x1), (2, .int x2)]) dX12_flour_37 rfl (by decide) rfl ?_
        refine mm_iconst (pc := 38) (x := (-1)) dX12_flour_38 rfl ?_
        refine mm_istore (pc := 39) (lv' := [(4, .int (-1)), (3, .int (-1)), (0, .ref 164), (1, .int x1), (2, .int x2)]) dX12_flour_39 (by decide) rfl ?_
        refine mm_iconst (pc := 41) (x := 0) dX12_flour_41 rfl ?_
        refine mm_istore (pc := 42) (lv' := [(5, .int 0), (4, .int (-1)), (3, .int (-1)), (0, .ref 164), (1, .int x1), (2, .int x2)]) dX12_flour_42 (by decide) rfl ?_
        exact mm_sub [3, 5, 2, 1, 0] rfl h
      · have h := mm_ift hc h
        refine mm_iconst (pc := 29) (x := (-1)) dX12_flour_29 rfl ?_
        exact mm_iret (pc := 30) dX12_flour_30 rfl (Nat.le_refl 0) (Nat.le_refl 0) ⟨_, rfl, rfl, hG, h⟩
set_option maxRecDepth 100000 in
set_option maxHeartbeats 4000000 in
theorem lX12_flour_44 {d : Nat} {x1 : Int32} {x2 : Int32} {M : mm_M} {K : Int32 → mm_M → Prop} {y2 : Int32} {y3 : Int32} {y4 : Int32} {y5 : Int32} (hG : mm_G M.2.2) (h : if 99 < y5 then (if y2 = 0 then (K (M.1 164 76) M) else (if y2 = 1 then (K y3 M) else (K y4 M))) else (vp_in y5 100 ∧ if (M.1 214 y5.toNatClampNeg) = 0 then (jX12_flour_44 d x1 x2 M K y2 y3 y4 (y5 + 1)) else (if y3 = (-1) then (jX12_flour_44 d x1 x2 M K y2 y5 y5 (y5 + 1)) else (jX12_flour_44 d x1 x2 M K y2 y3 y5 (y5 + 1))))) : jX12_flour_44 d x1 x2 M K y2 y3 y4 y5 := by
  unfold jX12_flour_44
  refine mm_iload (pc := 44) (j := 4) dX12_flour_44 rfl ?_
  refine mm_bipush (pc := 46) (x := 99) dX12_flour_46 rfl ?_
  refine mm_icmp_gt (pc := 48) (tgt := 79) dX12_flour_48 (by decide) (fun hc => ?_) (fun hc => ?_)
  · have h := mm_ift hc h
    refine mm_iload_n (pc := 79) (j := 1) dX12_flour_79 rfl rfl ?_
    refine mm_if_ne (pc := 80) (tgt := 90) dX12_flour_80 (by decide) (fun hc => ?_) (fun hc => ?_)
    · have h := mm_iff hc h
      refine mm_iload_n (pc := 90) (j := 1) dX12_flour_90 rfl rfl ?_
      refine mm_iconst (pc := 91) (x := 1) dX12_flour_91 rfl ?_
      refine mm_icmp_ne (pc := 92) (tgt := 99) dX12_flour_92 (by decide) (fun hc => ?_) (fun hc => ?_)
      · have h := mm_iff hc h
        refine mm_iload (pc := 99) (j := 3) dX12_flour_99 rfl ?_
        exact mm_iret (pc := 101) dX12_flour_101 rfl (Nat.le_refl 0) (Nat.le_refl 0) ⟨_, rfl, rfl, hG, h⟩
      · have h := mm_ift hc h
        refine mm_iload_n (pc := 95) (j := 2) dX12_flour_95 rfl rfl ?_
        refine mm_goto (pc := 96) (tgt := 101) dX12_flour_96 (by decide) ?_
        exact mm_iret (pc := 101) dX12_flour_101 rfl (Nat.le_refl 0) (Nat.le_refl 0) ⟨_, rfl, rfl, hG, h⟩
    · have h := mm_ift hc h
      refine mm_aload_n (pc := 83) (j := 0) dX12_flour_83 rfl rfl ?_
      refine mm_getI (pc := 84) (ci := 12) (N := 116) dX12_flour_84 fX12_610 sh_164 rfl ?_
      refine mm_goto (pc := 87) (tgt := 101) dX12_flour_87 (by decide) ?_
      exact mm_iret (pc := 101) dX12_flour_101 rfl (Nat.le_refl 0) (Nat.le_refl 0) ⟨_, rfl, rfl, hG, h⟩
  · have h := mm_iff hc h
    refine mm_aload_n (pc := 51) (j := 0) dX12_flour_51 rfl rfl ?_
    refine mm_getR (pc := 52) (ci := 12) (N := 116) (r := 214) dX12_flour_52 fX12_163 sh_164 rfl (g_164_75 hG) ?_
    refine mm_iload (pc := 55) (j := 4) dX12_flour_55 rfl ?_
    obtain ⟨hi57, h⟩ := h
    refine mm_zaload (pc := 57) (N := 100) dX12_flour_57 sh_214 hi57 ?_
    refine mm_if_eq (pc := 58) (tgt := 73) dX12_flour_58 (by decide) (fun hc => ?_) (fun hc => ?_)
    · have h := mm_ift hc h
      refine mm_iinc (pc := 73) (j := 4) (v := y5 + 1) (lv' := [(5, .int (y5 + 1)), (0, .ref 164), (2, .int y2), (3, .int y3), (4, .int y4)]) dX12_flour_73 rfl rfl (by decide) rfl ?_
      refine mm_goto (pc := 76) (tgt := 44) dX12_flour_76 (by decide) ?_
      exact mm_sub [1, 2, 3, 4, 0] rfl h
    · have h := mm_iff hc h
      refine mm_iload_n (pc := 61) (j := 2) dX12_flour_61 rfl rfl ?_
      refine mm_iconst (pc := 62) (x := (-1)) dX12_flour_62 rfl ?_
      refine mm_icmp_ne (pc := 63) (tgt := 69) dX12_flour_63 (by decide) (fun hc => ?_) (fun hc => ?_)
      · have h := mm_iff hc h
        refine mm_iload (pc := 69) (j := 4) dX12_flour_69 rfl ?_
        refine mm_istore (pc := 71) (lv' := [(4, .int y5), (0, .ref 164), (2, .int y2), (3, .int y3), (5, .int y5)]) dX12_flour_71 (by decide) rfl ?_
        refine mm_iinc (pc := 73) (j := 4) (v := y5 + 1) (lv' := [(5, .int (y5 + 1)), (4, .int y5), (0, .ref 164), (2, .int y2), (3, .int y3)]) dX12_flour_73 rfl rfl (by decide) rfl ?_
        refine mm_goto (pc := 76) (tgt := 44) dX12_flour_76 (by decide) ?_
        exact mm_sub [2, 3, 4, 1, 0] rfl h
      · have h := mm_ift hc h
        refine mm_iload (pc := 66) (j := 4) dX12_flour_66 rfl ?_
        refine mm_istore_n (pc := 68) (lv' := [(3, .int y5), (0, .ref 164), (2, .int y2), (4, .int y4), (5, .int y5)]) dX12_flour_68 rfl (by decide) rfl ?_
        refine mm_iload (pc := 69) (j := 4) dX12_flour_69 rfl ?_
        refine mm_istore (pc := 71) (lv' := [(4, .int y5), (3, .int y5), (0, .ref 164), (2, .int y2), (5, .int y5)]) dX12_flour_71 (by decide) rfl ?_
        refine mm_iinc (pc := 73) (j := 4) (v := y5 + 1) (lv' := [(5, .int (y5 + 1)), (4, .int y5), (3, .int y5), (0, .ref 164), (2, .int y2)]) dX12_flour_73 rfl rfl (by decide) rfl ?_
        refine mm_goto (pc := 76) (tgt := 44) dX12_flour_76 (by decide) ?_
        exact mm_sub [3, 4, 2, 1, 0] rfl h
def jX12_mostAlike_4 (d : Nat) (x1 : Int32) (M : mm_M) (K : Int32 → mm_M → Prop) (y1 : Int32) (y2 : Int32) (y3 : Int32) : Prop := mm_W mX12_mostAlike d 0 0 4 [(0, .ref 164), (1, .int y1), (2, .int y2), (3, .int y3)] [] mm_SH M 0 0 (mm_PI K)
def jX12_mostAlike_25 (d : Nat) (x1 : Int32) (M : mm_M) (K : Int32 → mm_M → Prop) (y1 : Int32) (y2 : Int32) (y3 : Int32) : Prop := mm_W mX12_mostAlike d 0 0 25 [(0, .ref 164), (1, .int y1), (2, .int y2), (3, .int y3)] [] mm_SH M 0 0 (mm_PI K)
set_option maxRecDepth 100000 in
set_option maxHeartbeats 4000000 in
theorem rX12_mostAlike {d : Nat} {x1 : Int32} {M : mm_M} {K : Int32 → mm_M → Prop} (hG : mm_G M.2.2) (h : jX12_mostAlike_4 d x1 M K x1 0 0) : mm_CI mX12_mostAlike d [.ref 164, .int x1] M K := by
  show mm_W mX12_mostAlike d 0 0 0 [(0, .ref 164), (1, .int x1)] [] mm_SH M 0 0 (mm_PI K)
  refine mm_iconst (pc := 0) (x := 0) dX12_mostAlike_0 rfl ?_
  refine mm_istore_n (pc := 1) (lv' := [(2, .int 0), (0, .ref 164), (1, .int x1)]) dX12_mostAlike_1 rfl (by decide) rfl ?_
  refine mm_iconst (pc := 2) (x := 0) dX12_mostAlike_2 rfl ?_
  refine mm_istore_n (pc := 3) (lv' := [(3, .int 0), (2, .int 0), (0, .ref 164), (1, .int x1)]) dX12_mostAlike_3 rfl (by decide) rfl ?_
  exact mm_sub [2, 3, 1, 0] rfl h
set_option maxRecDepth 100000 in
set_option maxHeartbeats 4000000 in
theorem lX12_mostAlike_4 {d : Nat} {x1 : Int32} {M : mm_M} {K : Int32 → mm_M → Prop} {y1 : Int32} {y2 : Int32} {y3 : Int32} (hG : mm_G M.2.2) (h : if 100 < y3 then (jX12_mostAlike_25 d x1 M K y1 y2 0) else (vp_in y3 101 ∧ jX12_mostAlike_4 d x1 (mm_uI M 215 y3.toNatClampNeg 0) K y1 y2 (y3 + 1))) : jX12_mostAlike_4 d x1 M K y1 y2 y3 := by
  unfold jX12_mostAlike_4
  refine mm_iload_n (pc := 4) (j := 3) dX12_mostAlike_4 rfl rfl ?_
  refine mm_bipush (pc := 5) (x := 100) dX12_mostAlike_5 rfl ?_
  refine mm_icmp_gt (pc := 7) (tgt := 23) dX12_mostAlike_7 (by decide) (fun hc => ?_) (fun hc => ?_)
  · have h := mm_ift hc h
    refine mm_iconst (pc := 23) (x := 0) dX12_mostAlike_23 rfl ?_
    refine mm_istore_n (pc := 24) (lv' := [(3, .int 0), (0, .ref 164), (1, .int y1), (2, .int y2)]) dX12_mostAlike_24 rfl (by decide) rfl ?_
    exact mm_sub [1, 2, 3, 0] rfl h
  · have h := mm_iff hc h
    refine mm_aload_n (pc := 10) (j := 0) dX12_mostAlike_10 rfl rfl ?_
    refine mm_getR (pc := 11) (ci := 12) (N := 116) (r := 215) dX12_mostAlike_11 fX12_167 sh_164 rfl (g_164_77 hG) ?_
    refine mm_iload_n (pc := 14) (j := 3) dX12_mostAlike_14 rfl rfl ?_
    refine mm_iconst (pc := 15) (x := 0) dX12_mostAlike_15 rfl ?_
    obtain ⟨hi16, h⟩ := h
    refine mm_iastore (pc := 16) (N := 101) dX12_mostAlike_16 sh_215 hi16 ?_
    refine mm_iinc (pc := 17) (j := 3) (v := y3 + 1) (lv' := [(3, .int (y3 + 1)), (0, .ref 164), (1, .int y1), (2, .int y2)]) dX12_mostAlike_17 rfl rfl (by decide) rfl ?_
    refine mm_goto (pc := 20) (tgt := 4) dX12_mostAlike_20 (by decide) ?_
    exact mm_sub [1, 2, 3, 0] rfl h
set_option maxRecDepth 100000 in
set_option maxHeartbeats 4000000 in
theorem lX12_mostAlike_25 {d : Nat} {x1 : Int32} {M : mm_M} {K : Int32 → mm_M → Prop} {y1 : Int32} {y2 : Int32} {y3 : Int32} (hG : mm_G M.2.2) (h : if 99 < y3 then (K y2 M) else (vp_in y3 100 ∧ if (M.1 214 y3.toNatClampNeg) = 0 then (jX12_mostAlike_25 d x1 M K y1 y2 (y3 + 1)) else (vp_in ((217 * y3) + y1) 21700 ∧ vp_in ((M.1 213 ((217 * y3) + y1).toNatClampNeg) + 1) 101 ∧ vp_in ((M.1 213 ((217 * y3) + y1).toNatClampNeg) + 1) 101 ∧ vp_in ((M.1 213 ((217 * y3) + y1).toNatClampNeg) + 1) 101 ∧ if ((mm_uI M 215 ((M.1 213 ((217 * y3) + y1).toNatClampNeg) + 1).toNatClampNeg ((M.1 215 ((M.1 213 ((217 * y3) + y1).toNatClampNeg) + 1).toNatClampNeg) + 1)).1 215 ((M.1 213 ((217 * y3) + y1).toNatClampNeg) + 1).toNatClampNeg) ≤ y2 then (jX12_mostAlike_25 d x1 (mm_uI M 215 ((M.1 213 ((217 * y3) + y1).toNatClampNeg) + 1).toNatClampNeg ((M.1 215 ((M.1 213 ((217 * y3) + y1).toNatClampNeg) + 1).toNatClampNeg) + 1)) K y1 y2 (y3 + 1)) else (vp_in ((M.1 213 ((217 * y3) + y1).toNatClampNeg) + 1) 101 ∧ jX12_mostAlike_25 d x1 (mm_uI M 215 ((M.1 213 ((217 * y3) + y1).toNatClampNeg) + 1).toNatClampNeg ((M.1 215 ((M.1 213 ((217 * y3) + y1).toNatClampNeg) + 1).toNatClampNeg) + 1)) K y1 ((mm_uI M 215 ((M.1 213 ((217 * y3) + y1).toNatClampNeg) + 1).toNatClampNeg ((M.1 215 ((M.1 213 ((217 * y3) + y1).toNatClampNeg) + 1).toNatClampNeg) + 1)).1 215 ((M.1 213 ((217 * y3) + y1).toNatClampNeg) + 1).toNatClampNeg) (y3 + 1))))) : jX12_mostAlike_25 d x1 M K y1 y2 y3 := by
  unfold jX12_mostAlike_25
  refine mm_iload_n (pc := 25) (j := 3) dX12_mostAlike_25 rfl rfl ?_
  refine mm_bipush (pc := 26) (x := 99) dX12_mostAlike_26 rfl ?_
  refine mm_icmp_gt (pc := 28) (tgt := 95) dX12_mostAlike_28 (by decide) (fun hc => ?_) (fun hc => ?_)
  · have h := mm_ift hc h
    refine mm_iload_n (pc := 95) (j := 2) dX12_mostAlike_95 rfl rfl ?_
    exact mm_iret (pc := 96) dX12_mostAlike_96 rfl (Nat.le_refl 0) (Nat.le_refl 0) ⟨_, rfl, rfl, hG, h⟩
  · have h := mm_iff hc h
    refine mm_aload_n (pc := 31) (j := 0) dX12_mostAlike_31 rfl rfl ?_
    refine mm_getR (pc := 32) (ci := 12) (N := 116) (r := 214) dX12_mostAlike_32 fX12_163 sh_164 rfl (g_164_75 hG) ?_
    refine mm_iload_n (pc := 35) (j := 3) dX12_mostAlike_35 rfl rfl ?_
    obtain ⟨hi36, h⟩ := h
    refine mm_zaload (pc := 36) (N := 100) dX12_mostAlike_36 sh_214 hi36 ?_
    refine mm_if_ne (pc := 37) (tgt := 43) dX12_mostAlike_37 (by decide) (fun hc => ?_) (fun hc => ?_)
    · have h := mm_iff hc h
      refine mm_aload_n (pc := 43) (j := 0) dX12_mostAlike_43 rfl rfl ?_
      refine mm_getR (pc := 44) (ci := 12) (N := 116) (r := 213) dX12_mostAlike_44 fX12_160 sh_164 rfl (g_164_74 hG) ?_
      refine mm_sipush (pc := 47) (x := 217) dX12_mostAlike_47 rfl ?_
      refine mm_iload_n (pc := 50) (j := 3) dX12_mostAlike_50 rfl rfl ?_
      refine mm_imul (pc := 51) dX12_mostAlike_51 ?_
      refine mm_iload_n (pc := 52) (j := 1) dX12_mostAlike_52 rfl rfl ?_
      refine mm_iadd (pc := 53) dX12_mostAlike_53 ?_
      obtain ⟨hi54, h⟩ := h
      refine mm_iaload (pc := 54) (N := 21700) dX12_mostAlike_54 sh_213 hi54 ?_
      refine mm_iconst (pc := 55) (x := 1) dX12_mostAlike_55 rfl ?_
      refine mm_iadd (pc := 56) dX12_mostAlike_56 ?_
      refine mm_istore (pc := 57) (lv' := [(4, .int ((M.1 213 ((217 * y3) + y1).toNatClampNeg) + 1)), (0, .ref 164), (1, .int y1), (2, .int y2), (3, .int y3)]) dX12_mostAlike_57 (by decide) rfl ?_
      refine mm_aload_n (pc := 59) (j := 1) dX12_mostAlike_59 rfl rfl ?_
      refine mm_getR (pc := 60) (ci := 12) (N := 116) (r := 215) dX12_mostAlike_60 fX12_167 sh_164 rfl (g_164_77 hG) ?_
      refine mm_iload (pc := 63) (j := 0) dX12_mostAlike_63 rfl ?_
      refine mm_dup2 (pc := 65) dX12_mostAlike_65 rfl rfl ?_
      obtain ⟨hi66, h⟩ := h
      refine mm_iaload (pc := 66) (N := 101) dX12_mostAlike_66 sh_215 hi66 ?_
      refine mm_iconst (pc := 67) (x := 1) dX12_mostAlike_67 rfl ?_
      refine mm_iadd (pc := 68) dX12_mostAlike_68 ?_
      obtain ⟨hi69, h⟩ := h
      refine mm_iastore (pc := 69) (N := 101) dX12_mostAlike_69 sh_215 hi69 ?_
      refine mm_aload_n (pc := 70) (j := 1) dX12_mostAlike_70 rfl rfl ?_
      refine mm_getR (pc := 71) (ci := 12) (N := 116) (r := 215) dX12_mostAlike_71 fX12_167 sh_164 rfl (g_164_77 hG) ?_
      refine mm_iload (pc := 74) (j := 0) dX12_mostAlike_74 rfl ?_
      obtain ⟨hi76, h⟩ := h
      refine mm_iaload (pc := 76) (N := 101) dX12_mostAlike_76 sh_215 hi76 ?_
      refine mm_iload_n (pc := 77) (j := 3) dX12_mostAlike_77 rfl rfl ?_
      refine mm_icmp_le (pc := 78) (tgt := 89) dX12_mostAlike_78 (by decide) (fun hc => ?_) (fun hc => ?_)
      · have h := mm_ift hc h
        refine mm_iinc (pc := 89) (j := 4) (v := y3 + 1) (lv' := [(3, .int (y3 + 1)), (4, .int ((M.1 213 ((217 * y3) + y1).toNatClampNeg) + 1)), (0, .ref 164), (1, .int y1), (2, .int y2)]) dX12_mostAlike_89 rfl rfl (by decide) rfl ?_
        refine mm_goto (pc := 92) (tgt := 25) dX12_mostAlike_92 (by decide) ?_
        exact mm_sub [2, 3, 4, 0] rfl h
      · have h := mm_iff hc h
        refine mm_aload_n (pc := 81) (j := 1) dX12_mostAlike_81 rfl rfl ?_
        refine mm_getR (pc := 82) (ci := 12) (N := 116) (r := 215) dX12_mostAlike_82 fX12_167 sh_164 rfl (g_164_77 hG) ?_
        refine mm_iload (pc := 85) (j := 0) dX12_mostAlike_85 rfl ?_
        obtain ⟨hi87, h⟩ := h
        refine mm_iaload (pc := 87) (N := 101) dX12_mostAlike_87 sh_215 hi87 ?_
        refine mm_istore_n (pc := 88) (lv' := [(2, .int ((mm_uI M 215 ((M.1 213 ((217 * y3) + y1).toNatClampNeg) + 1).toNatClampNeg ((M.1 215 ((M.1 213 ((217 * y3) + y1).toNatClampNeg) + 1).toNatClampNeg) + 1)).1 215 ((M.1 213 ((217 * y3) + y1).toNatClampNeg) + 1).toNatClampNeg)), (4, .int ((M.1 213 ((217 * y3) + y1).toNatClampNeg) + 1)), (0, .ref 164), (1, .int y1), (3, .int y3)]) dX12_mostAlike_88 rfl (by decide) rfl ?_
        refine mm_iinc (pc := 89) (j := 4) (v := y3 + 1) (lv' := [(3, .int (y3 + 1)), (2, .int ((mm_uI M 215 ((M.1 213 ((217 * y3) + y1).toNatClampNeg) + 1).toNatClampNeg ((M.1 215 ((M.1 213 ((217 * y3) + y1).toNatClampNeg) + 1).toNatClampNeg) + 1)).1 215 ((M.1 213 ((217 * y3) + y1).toNatClampNeg) + 1).toNatClampNeg)), (4, .int ((M.1 213 ((217 * y3) + y1).toNatClampNeg) + 1)), (0, .ref 164), (1, .int y1)]) dX12_mostAlike_89 rfl rfl (by decide) rfl ?_
        refine mm_goto (pc := 92) (tgt := 25) dX12_mostAlike_92 (by decide) ?_
        exact mm_sub [3, 4, 1, 0] rfl h
    · have h := mm_ift hc h
      refine mm_goto (pc := 40) (tgt := 89) dX12_mostAlike_40 (by decide) ?_
      refine mm_iinc (pc := 89) (j := 3) (v := y3 + 1) (lv' := [(3, .int (y3 + 1)), (0, .ref 164), (1, .int y1), (2, .int y2)]) dX12_mostAlike_89 rfl rfl (by decide) rfl ?_
      refine mm_goto (pc := 92) (tgt := 25) dX12_mostAlike_92 (by decide) ?_
      exact mm_sub [1, 2, 3, 0] rfl h
def jX12_tells_47 (d : Nat) (x1 : Int32) (x2 : Int32) (M : mm_M) (K : Int32 → mm_M → Prop) (y2 : Int32) (y3 : Int32) (y4 : Int32) (y5 : Int32) (y6 : Int32) : Prop := mm_W mX12_tells (d + 1) 0 0 47 [(0, .ref 164), (2, .int y2), (3, .int y3), (4, .int y4), (5, .int y5), (6, .int y6)] [] mm_SH M 0 0 (mm_PI K)
def jX12_tells_140 (d : Nat) (x1 : Int32) (x2 : Int32) (M : mm_M) (K : Int32 → mm_M → Prop) (y2 : Int32) (y3 : Int32) (y4 : Int32) (y5 : Int32) : Prop := mm_W mX12_tells (d + 1) 0 0 140 [(2, .int y2), (3, .int y3), (4, .int y4), (5, .int y5)] [] mm_SH M 0 0 (mm_PI K)
def jX12_tells_79 (d : Nat) (x1 : Int32) (x2 : Int32) (M : mm_M) (K : Int32 → mm_M → Prop) (y2 : Int32) (y3 : Int32) (y4 : Int32) (y5 : Int32) (y6 : Int32) (y7 : Int32) : Prop := mm_W mX12_tells (d + 1) 0 0 79 [(0, .ref 164), (2, .int y2), (3, .int y3), (4, .int y4), (5, .int y5), (6, .int y6), (7, .int y7)] [] mm_SH M 0 0 (mm_PI K)
set_option maxRecDepth 100000 in
set_option maxHeartbeats 4000000 in
theorem rX12_tells {d : Nat} {x1 : Int32} {x2 : Int32} {M : mm_M} {K : Int32 → mm_M → Prop} (hG : mm_G M.2.2) (h : mm_CI mX12_isHouse d [.ref 164, .long x1.toInt64] M (fun z3 m3 => if z3 = 0 then (K (-1) m3) else (mm_CI mX12_isThere d [.ref 164, .int x1] m3 (fun z11 m11 => if z11 = 0 then (K (-1) m11) else (mm_CI mX12_isIn d [.long x2.toInt64, .long 0, .long 2] m11 (fun z23 m23 => if z23 = 0 then (K (-1) m23) else (mm_CV mX12_laysFits d [.ref 164, .int x1] m23 (fun m33 => jX12_tells_47 d x1 x2 m33 K x2 (-1) (-1) 0 0)))))))) : mm_CI mX12_tells (d + 1) [.ref 164, .int x1, .int x2] M K := by
  show mm_W mX12_tells (d + 1) 0 0 0 [(0, .ref 164), (1, .int x1), (2, .int x2)] [] mm_SH M 0 0 (mm_PI K)
  refine mm_aload_n (pc := 0) (j := 0) dX12_tells_0 rfl rfl ?_
  refine mm_iload_n (pc := 1) (j := 1) dX12_tells_1 rfl rfl ?_
  refine mm_i2l (pc := 2) dX12_tells_2 ?_
  refine mm_kVI (pc := 3) [.long x1.toInt64] dX12_tells_3 kX12_534 rfl sh_164 (Nat.le_of_ble_eq_true rfl) (Nat.le_of_ble_eq_true rfl) h (fun z3 m3 hG h => ?_)
  refine mm_if_eq (pc := 6) (tgt := 29) dX12_tells_6 (by decide) (fun hc => ?_) (fun hc => ?_)
  · have h := mm_ift hc h
    refine mm_iconst (pc := 29) (x := (-1)) dX12_tells_29 rfl ?_
    exact mm_iret (pc := 30) dX12_tells_30 rfl (Nat.le_refl 0) (Nat.le_refl 0) ⟨_, rfl, rfl, hG, h⟩
  · have h := mm_iff hc h
    refine mm_aload_n (pc := 9) (j := 0) dX12_tells_9 rfl rfl ?_
    refine mm_iload_n (pc := 10) (j := 1) dX12_tells_10 rfl rfl ?_
    refine mm_kVI (pc := 11) [.int x1] dX12_tells_11 kX12_462 rfl sh_164 (Nat.le_of_ble_eq_true rfl) (Nat.le_of_ble_eq_true rfl) h (fun z11 m11 hG h => ?_)
    refine mm_if_eq (pc := 14) (tgt := 29) dX12_tells_14 (by decide) (fun hc => ?_) (fun hc => ?_)
    · have h := mm_ift hc h
      refine mm_iconst (pc := 29) (x := (-1)) dX12_tells_29 rfl ?_
      exact mm_iret (pc := 30) dX12_tells_30 rfl (Nat.le_refl 0) (Nat.le_refl 0) ⟨_, rfl, rfl, hG, h⟩
    · have h := mm_iff hc h
      refine mm_iload_n (pc := 17) (j := 2) dX12_tells_17 rfl rfl ?_
      refine mm_i2l (pc := 18) dX12_tells_18 ?_
      refine mm_lconst (pc := 19) (x := 0) dX12_tells_19 rfl ?_
      refine mm_ldc2 (pc := 20) (x := 2) dX12_tells_20 cX12_554 ?_
      refine mm_kSI (pc := 23) [.long x2.toInt64, .long 0, .long 2] dX12_tells_23 kX12_303 rfl (Nat.le_of_ble_eq_true rfl) (Nat.le_of_ble_eq_true rfl) h (fun z23 m23 hG h => ?_)
      refine mm_if_ne (pc := 26) (tgt := 31) dX12_tells_26 (by decide) (fun hc => ?_) (fun hc => ?_)
      · have h := mm_iff hc h
        refine mm_aload_n (pc := 31) (j := 0) dX12_tells_31 rfl rfl ?_
        refine mm_iload_n (pc := 32) (j := 1) dX12_tells_32 rfl rfl ?_
        refine mm_kVV (pc := 33) [.int x1] dX12_tells_33 kX12_616 rfl sh_164 (Nat.le_of_ble_eq_true rfl) (Nat.le_of_ble_eq_true rfl) h (fun m33 hG h => ?_)
        refine mm_iconst (pc := 36) (x := (-1)) dX12_tells_36 rfl ?_
        refine mm_istore_n (pc := 37) (lv' := [(3, .int (-1)), (0, .ref 164), (1, .int x1), (2, .int x2)]) dX12_tells_37 rfl (by decide) rfl ?_
        refine mm_iconst (pc := 38) (x := (-1)) dX12_tells_38 rfl ?_
        refine mm_istore (pc := 39) (lv' := [(4, .int (-1)), (3, .int (-1)), (0, .ref 164), (1, .int x1), (2, .int x2)]) dX12_tells_39 (by decide) rfl ?_
        refine mm_iconst (pc := 41) (x := 0) dX12_tells_41 rfl ?_
        refine mm_istore (pc := 42) (lv' := [(5, .int 0), (4, .int (-1)), (3, .int (-1)), (0, .ref 164), (1, .int x1), (2, .int x2)]) dX12_tells_42 (by decide) rfl ?_
        refine mm_iconst (pc := 44) (x := 0) dX12_tells_44 rfl ?_
        refine mm_istore (pc := 45) (lv' := [(6, .int 0), (5, .int 0), (4, .int (-1)), (3, .int (-1)), (0, .ref 164), (1, .int x1), (2, .int x2)]) dX12_tells_45 (by decide) rfl ?_
        exact mm_sub [4, 6, 3, 2, 1, 0] rfl h
      · have h := mm_ift hc h
        refine mm_iconst (pc := 29) (x := (-1)) dX12_tells_29 rfl ?_
        exact mm_iret (pc := 30) dX12_tells_30 rfl (Nat.le_refl 0) (Nat.le_refl 0) ⟨_, rfl, rfl, hG, h⟩
set_option maxRecDepth 100000 in
set_option maxHeartbeats 4000000 in
theorem lX12_tells_47 {d : Nat} {x1 : Int32} {x2 : Int32} {M : mm_M} {K : Int32 → mm_M → Prop} {y2 : Int32} {y3 : Int32} {y4 : Int32} {y5 : Int32} {y6 : Int32} (hG : mm_G M.2.2) (h : if (M.1 164 76) ≤ 0 then (jX12_tells_140 d x1 x2 M K y2 y3 y4 y5) else (if 30 < y6 then (jX12_tells_140 d x1 x2 M K y2 y3 y4 y5) else (if 999 ≤ ((M.1 199 (0 : Int32).toNatClampNeg) + y6) then (jX12_tells_140 d x1 x2 M K y2 y3 y4 y5) else (jX12_tells_79 d x1 x2 M K y2 y3 y4 y5 y6 0)))) : jX12_tells_47 d x1 x2 M K y2 y3 y4 y5 y6 := by
  unfold jX12_tells_47
  refine mm_aload_n (pc := 47) (j := 0) dX12_tells_47 rfl rfl ?_
  refine mm_getI (pc := 48) (ci := 12) (N := 116) dX12_tells_48 fX12_610 sh_164 rfl ?_
  refine mm_if_le (pc := 51) (tgt := 140) dX12_tells_51 (by decide) (fun hc => ?_) (fun hc => ?_)
  · have h := mm_ift hc h
    exact mm_sub [1, 2, 3, 4] rfl h
  · have h := mm_iff hc h
    refine mm_iload (pc := 54) (j := 5) dX12_tells_54 rfl ?_
    refine mm_bipush (pc := 56) (x := 30) dX12_tells_56 rfl ?_
    refine mm_icmp_gt (pc := 58) (tgt := 140) dX12_tells_58 (by decide) (fun hc => ?_) (fun hc => ?_)
    · have h := mm_ift hc h
      exact mm_sub [1, 2, 3, 4] rfl h
    · have h := mm_iff hc h
      refine mm_aload_n (pc := 61) (j := 0) dX12_tells_61 rfl rfl ?_
      refine mm_getR (pc := 62) (ci := 12) (N := 116) (r := 199) dX12_tells_62 fX12_118 sh_164 rfl (g_164_50 hG) ?_
      refine mm_iconst (pc := 65) (x := 0) dX12_tells_65 rfl ?_
      refine mm_iaload (pc := 66) (N := 204) dX12_tells_66 sh_199 (mm_vin (k := 0) rfl (by decide) (by decide)) ?_
      refine mm_iload (pc := 67) (j := 5) dX12_tells_67 rfl ?_
      refine mm_iadd (pc := 69) dX12_tells_69 ?_
      refine mm_sipush (pc := 70) (x := 999) dX12_tells_70 rfl ?_
      refine mm_icmp_ge (pc := 73) (tgt := 140) dX12_tells_73 (by decide) (fun hc => ?_) (fun hc => ?_)
      · have h := mm_ift hc h
        exact mm_sub [1, 2, 3, 4] rfl h
      · have h := mm_iff hc h
        refine mm_iconst (pc := 76) (x := 0) dX12_tells_76 rfl ?_
        refine mm_istore (pc := 77) (lv' := [(7, .int 0), (0, .ref 164), (2, .int y2), (3, .int y3), (4, .int y4), (5, .int y5), (6, .int y6)]) dX12_tells_77 (by decide) rfl ?_
        exact mm_sub [1, 2, 3, 4, 5, 6, 0] rfl h
set_option maxRecDepth 100000 in
set_option maxHeartbeats 4000000 in
theorem lX12_tells_140 {d : Nat} {x1 : Int32} {x2 : Int32} {M : mm_M} {K : Int32 → mm_M → Prop} {y2 : Int32} {y3 : Int32} {y4 : Int32} {y5 : Int32} (hG : mm_G M.2.2) (h : if y3 = (-1) then (K (-1) M) else (if y2 = 0 then (K y3 M) else (if y2 = 1 then (K y4 M) else (K y5 M)))) : jX12_tells_140 d x1 x2 M K y2 y3 y4 y5 := by
  unfold jX12_tells_140
  refine mm_iload_n (pc := 140) (j := 1) dX12_tells_140 rfl rfl ?_
  refine mm_iconst (pc := 141) (x := (-1)) dX12_tells_141 rfl ?_
  refine mm_icmp_ne (pc := 142) (tgt := 149) dX12_tells_142 (by decide) (fun hc => ?_) (fun hc => ?_)
  · have h := mm_iff hc h
    refine mm_iload_n (pc := 149) (j := 0) dX12_tells_149 rfl rfl ?_
    refine mm_if_ne (pc := 150) (tgt := 157) dX12_tells_150 (by decide) (fun hc => ?_) (fun hc => ?_)
    · have h := mm_iff hc h
      refine mm_iload_n (pc := 157) (j := 0) dX12_tells_157 rfl rfl ?_
      refine mm_iconst (pc := 158) (x := 1) dX12_tells_158 rfl ?_
      refine mm_icmp_ne (pc := 159) (tgt := 167) dX12_tells_159 (by decide) (fun hc => ?_) (fun hc => ?_)
      · have h := mm_iff hc h
        refine mm_iload (pc := 167) (j := 3) dX12_tells_167 rfl ?_
        exact mm_iret (pc := 169) dX12_tells_169 rfl (Nat.le_refl 0) (Nat.le_refl 0) ⟨_, rfl, rfl, hG, h⟩
      · have h := mm_ift hc h
        refine mm_iload (pc := 162) (j := 2) dX12_tells_162 rfl ?_
        refine mm_goto (pc := 164) (tgt := 169) dX12_tells_164 (by decide) ?_
        exact mm_iret (pc := 169) dX12_tells_169 rfl (Nat.le_refl 0) (Nat.le_refl 0) ⟨_, rfl, rfl, hG, h⟩
    · have h := mm_ift hc h
      refine mm_iload_n (pc := 153) (j := 1) dX12_tells_153 rfl rfl ?_
      refine mm_goto (pc := 154) (tgt := 169) dX12_tells_154 (by decide) ?_
      exact mm_iret (pc := 169) dX12_tells_169 rfl (Nat.le_refl 0) (Nat.le_refl 0) ⟨_, rfl, rfl, hG, h⟩
  · have h := mm_ift hc h
    refine mm_iconst (pc := 145) (x := (-1)) dX12_tells_145 rfl ?_
    refine mm_goto (pc := 146) (tgt := 169) dX12_tells_146 (by decide) ?_
    exact mm_iret (pc := 169) dX12_tells_169 rfl (Nat.le_refl 0) (Nat.le_refl 0) ⟨_, rfl, rfl, hG, h⟩
set_option maxRecDepth 100000 in
set_option maxHeartbeats 4000000 in
theorem lX12_tells_79 {d : Nat} {x1 : Int32} {x2 : Int32} {M : mm_M} {K : Int32 → mm_M → Prop} {y2 : Int32} {y3 : Int32} {y4 : Int32} {y5 : Int32} {y6 : Int32} {y7 : Int32} (hG : mm_G M.2.2) (h : mm_CI mX12_houseMany d [.ref 164] M (fun z82 m82 => if z82 ≤ y7 then (jX12_tells_47 d x1 x2 m82 K y2 y3 y4 y5 (y6 + 1)) else (mm_CI mX12_mostAlike d [.ref 164, .int ((7 * y6) + y7)] m82 (fun z97 m97 => if y3 = (-1) then (jX12_tells_79 d x1 x2 m97 K y2 y6 y7 z97 y6 (y7 + 1)) else (if z97 < y5 then (jX12_tells_79 d x1 x2 m97 K y2 y6 y7 z97 y6 (y7 + 1)) else (jX12_tells_79 d x1 x2 m97 K y2 y3 y4 y5 y6 (y7 + 1))))))) : jX12_tells_79 d x1 x2 M K y2 y3 y4 y5 y6 y7 := by
  unfold jX12_tells_79
  refine mm_iload (pc := 79) (j := 6) dX12_tells_79 rfl ?_
  refine mm_aload_n (pc := 81) (j := 0) dX12_tells_81 rfl rfl ?_
  refine mm_kVI (pc := 82) [] dX12_tells_82 kX12_412 rfl sh_164 (Nat.le_of_ble_eq_true rfl) (Nat.le_of_ble_eq_true rfl) h (fun z82 m82 hG h => ?_)
  refine mm_icmp_ge (pc := 85) (tgt := 134) dX12_tells_85 (by decide) (fun hc => ?_) (fun hc => ?_)
  · have h := mm_ift hc h
    refine mm_iinc (pc := 134) (j := 5) (v := y6 + 1) (lv' := [(6, .int (y6 + 1)), (0, .ref 164), (2, .int y2), (3, .int y3), (4, .int y4), (5, .int y5), (7, .int y7)]) dX12_tells_134 rfl rfl (by decide) rfl ?_
    refine mm_goto (pc := 137) (tgt := 47) dX12_tells_137 (by decide) ?_
    exact mm_sub [1, 2, 3, 4, 5, 0] rfl h
  · have h := mm_iff hc h
    refine mm_aload_n (pc := 88) (j := 0) dX12_tells_88 rfl rfl ?_
    refine mm_bipush (pc := 89) (x := 7) dX12_tells_89 rfl ?_
    refine mm_iload (pc := 91) (j := 5) dX12_tells_91 rfl ?_
    refine mm_imul (pc := 93) dX12_tells_93 ?_
    refine mm_iload (pc := 94) (j := 6) dX12_tells_94 rfl ?_
    refine mm_iadd (pc := 96) dX12_tells_96 ?_
    refine mm_kVI (pc := 97) [.int ((7 * y6) + y7)] dX12_tells_97 kX12_619 rfl sh_164 (Nat.le_of_ble_eq_true rfl) (Nat.le_of_ble_eq_true rfl) h (fun z97 m97 hG h => ?_)
    refine mm_istore (pc := 100) (lv' := [(8, .int z97), (0, .ref 164), (2, .int y2), (3, .int y3), (4, .int y4), (5, .int y5), (6, .int y6), (7, .int y7)]) dX12_tells_100 (by decide) rfl ?_
    refine mm_iload_n (pc := 102) (j := 3) dX12_tells_102 rfl rfl ?_
    refine mm_iconst (pc := 103) (x := (-1)) dX12_tells_103 rfl ?_
    refine mm_icmp_eq (pc := 104) (tgt := 117) dX12_tells_104 (by decide) (fun hc => ?_) (fun hc => ?_)
    · have h := mm_ift hc h
      refine mm_iload (pc := 117) (j := 6) dX12_tells_117 rfl ?_
      refine mm_istore_n (pc := 119) (lv' := [(3, .int y6), (8, .int z97), (0, .ref 164), (2, .int y2), (4, .int y4), (5, .int y5), (6, .int y6), (7, .int y7)]) dX12_tells_119 rfl (by decide) rfl ?_
      refine mm_iload (pc := 120) (j := 7) dX12_tells_120 rfl ?_
      refine mm_istore (pc := 122) (lv' := [(4, .int y7), (3, .int y6), (8, .int z97), (0, .ref 164), (2, .int y2), (5, .int y5), (6, .int y6), (7, .int y7)]) dX12_tells_122 (by decide) rfl ?_
      refine mm_iload (pc := 124) (j := 2) dX12_tells_124 rfl ?_
      refine mm_istore (pc := 126) (lv' := [(5, .int z97), (4, .int y7), (3, .int y6), (8, .int z97), (0, .ref 164), (2, .int y2), (6, .int y6), (7, .int y7)]) dX12_tells_126 (by decide) rfl ?_
      refine mm_iinc (pc := 128) (j := 7) (v := y7 + 1) (lv' := [(7, .int (y7 + 1)), (5, .int z97), (4, .int y7), (3, .int y6), (8, .int z97), (0, .ref 164), (2, .int y2), (6, .int y6)]) dX12_tells_128 rfl rfl (by decide) rfl ?_
      refine mm_goto (pc := 131) (tgt := 79) dX12_tells_131 (by decide) ?_
      exact mm_sub [5, 6, 3, 2, 1, 7, 0] rfl h
    · have h := mm_iff hc h
      refine mm_iload (pc := 107) (j := 0) dX12_tells_107 rfl ?_
      refine mm_iload (pc := 109) (j := 5) dX12_tells_109 rfl ?_
      refine mm_icmp_lt (pc := 111) (tgt := 117) dX12_tells_111 (by decide) (fun hc => ?_) (fun hc => ?_)
      · have h := mm_ift hc h
        refine mm_iload (pc := 117) (j := 6) dX12_tells_117 rfl ?_
        refine mm_istore_n (pc := 119) (lv' := [(3, .int y6), (8, .int z97), (0, .ref 164), (2, .int y2), (4, .int y4), (5, .int y5), (6, .int y6), (7, .int y7)]) dX12_tells_119 rfl (by decide) rfl ?_
        refine mm_iload (pc := 120) (j := 7) dX12_tells_120 rfl ?_
        refine mm_istore (pc := 122) (lv' := [(4, .int y7), (3, .int y6), (8, .int z97), (0, .ref 164), (2, .int y2), (5, .int y5), (6, .int y6), (7, .int y7)]) dX12_tells_122 (by decide) rfl ?_
        refine mm_iload (pc := 124) (j := 2) dX12_tells_124 rfl ?_
        refine mm_istore (pc := 126) (lv' := [(5, .int z97), (4, .int y7), (3, .int y6), (8, .int z97), (0, .ref 164), (2, .int y2), (6, .int y6), (7, .int y7)]) dX12_tells_126 (by decide) rfl ?_
        refine mm_iinc (pc := 128) (j := 7) (v := y7 + 1) (lv' := [(7, .int (y7 + 1)), (5, .int z97), (4, .int y7), (3, .int y6), (8, .int z97), (0, .ref 164), (2, .int y2), (6, .int y6)]) dX12_tells_128 rfl rfl (by decide) rfl ?_
        refine mm_goto (pc := 131) (tgt := 79) dX12_tells_131 (by decide) ?_
        exact mm_sub [5, 6, 3, 2, 1, 7, 0] rfl h
      · have h := mm_iff hc h
        refine mm_goto (pc := 114) (tgt := 128) dX12_tells_114 (by decide) ?_
        refine mm_iinc (pc := 128) (j := 7) (v := y7 + 1) (lv' := [(7, .int (y7 + 1)), (8, .int z97), (0, .ref 164), (2, .int y2), (3, .int y3), (4, .int y4), (5, .int y5), (6, .int y6)]) dX12_tells_128 rfl rfl (by decide) rfl ?_
        refine mm_goto (pc := 131) (tgt := 79) dX12_tells_131 (by decide) ?_
        exact mm_sub [2, 3, 4, 5, 6, 7, 0] rfl h
