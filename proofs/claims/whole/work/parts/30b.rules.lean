set_option maxRecDepth 100000 in
set_option maxHeartbeats 4000000 in
theorem rX12_hungerOf {d : Nat} {x1 : Int32} {M : mm_M} {K : Int32 → mm_M → Prop} (hG : mm_G M.2.2) (h : vp_in (3 + (3 * x1)) 204 ∧ K (M.1 199 (3 + (3 * x1)).toNatClampNeg) M) : mm_CI mX12_hungerOf d [.ref 164, .int x1] M K := by
  show mm_W mX12_hungerOf d 0 0 0 [(0, .ref 164), (1, .int x1)] [] mm_SH M 0 0 (mm_PI K)
  refine mm_aload_n (j := 0) dX12_hungerOf_0 rfl rfl ?_
  refine mm_getR (ci := 12) (N := 116) (r := 199) dX12_hungerOf_1 fX12_118 sh_164 rfl (g_164_50 hG) ?_
  refine mm_iconst (x := 3) dX12_hungerOf_4 rfl ?_
  refine mm_iconst (x := 3) dX12_hungerOf_5 rfl ?_
  refine mm_iload_n (j := 1) dX12_hungerOf_6 rfl rfl ?_
  refine mm_imul dX12_hungerOf_7 ?_
  refine mm_iadd dX12_hungerOf_8 ?_
  obtain ⟨hi9, h⟩ := h
  refine mm_iaload (N := 204) dX12_hungerOf_9 sh_199 hi9 ?_
  exact mm_iret dX12_hungerOf_10 rfl (Nat.le_refl 0) (Nat.le_refl 0) ⟨_, rfl, rfl, hG, h⟩
set_option maxRecDepth 100000 in
set_option maxHeartbeats 4000000 in
theorem rX12_hateOf {d : Nat} {x1 : Int32} {x2 : Int32} {M : mm_M} {K : Int32 → mm_M → Prop} (hG : mm_G M.2.2) (h : mm_CI mX12_pairOf d [.int x1, .int x2] M (fun z8 m8 => vp_in (22 + z8) 204 ∧ K (m8.1 199 (22 + z8).toNatClampNeg) m8)) : mm_CI mX12_hateOf (d + 1) [.ref 164, .int x1, .int x2] M K := by
  show mm_W mX12_hateOf (d + 1) 0 0 0 [(0, .ref 164), (1, .int x1), (2, .int x2)] [] mm_SH M 0 0 (mm_PI K)
  refine mm_aload_n (j := 0) dX12_hateOf_0 rfl rfl ?_
  refine mm_getR (ci := 12) (N := 116) (r := 199) dX12_hateOf_1 fX12_118 sh_164 rfl (g_164_50 hG) ?_
  refine mm_bipush (x := 22) dX12_hateOf_4 rfl ?_
  refine mm_iload_n (j := 1) dX12_hateOf_6 rfl rfl ?_
  refine mm_iload_n (j := 2) dX12_hateOf_7 rfl rfl ?_
  refine mm_kSI [.int x1, .int x2] dX12_hateOf_8 kX12_347 rfl (by decide) (by decide) h (fun z8 m8 hG h => ?_)
  refine mm_iadd dX12_hateOf_11 ?_
  obtain ⟨hi12, h⟩ := h
  refine mm_iaload (N := 204) dX12_hateOf_12 sh_199 hi12 ?_
  exact mm_iret dX12_hateOf_13 rfl (Nat.le_refl 0) (Nat.le_refl 0) ⟨_, rfl, rfl, hG, h⟩
set_option maxRecDepth 100000 in
set_option maxHeartbeats 4000000 in
theorem rX12_areEnemies {d : Nat} {x1 : Int32} {x2 : Int32} {M : mm_M} {K : Int32 → mm_M → Prop} (hG : mm_G M.2.2) (h : if x1 = x2 then (K 0 M) else (mm_CI mX12_hateOf d [.ref 164, .int x1, .int x2] M (fun z8 m8 => if z8 ≤ 0 then (K 0 m8) else (K 1 m8)))) : mm_CI mX12_areEnemies (d + 1) [.ref 164, .int x1, .int x2] M K := by
  show mm_W mX12_areEnemies (d + 1) 0 0 0 [(0, .ref 164), (1, .int x1), (2, .int x2)] [] mm_SH M 0 0 (mm_PI K)
  refine mm_iload_n (j := 1) dX12_areEnemies_0 rfl rfl ?_
  refine mm_iload_n (j := 2) dX12_areEnemies_1 rfl rfl ?_
  refine mm_icmp_eq (tgt := 18) dX12_areEnemies_2 (by decide) (fun hc => ?_) (fun hc => ?_)
  · rw [if_pos hc] at h
    refine mm_iconst (x := 0) dX12_areEnemies_18 rfl ?_
    exact mm_zret dX12_areEnemies_19 rfl rfl (Nat.le_refl 0) (Nat.le_refl 0) ⟨_, rfl, rfl, hG, h⟩
  · rw [if_neg hc] at h
    refine mm_aload_n (j := 0) dX12_areEnemies_5 rfl rfl ?_
    refine mm_iload_n (j := 1) dX12_areEnemies_6 rfl rfl ?_
    refine mm_iload_n (j := 2) dX12_areEnemies_7 rfl rfl ?_
    refine mm_kVI [.int x1, .int x2] dX12_areEnemies_8 kX12_415 rfl sh_164 (by decide) (by decide) h (fun z8 m8 hG h => ?_)
    refine mm_if_le (tgt := 18) dX12_areEnemies_11 (by decide) (fun hc => ?_) (fun hc => ?_)
    · rw [if_pos hc] at h
      refine mm_iconst (x := 0) dX12_areEnemies_18 rfl ?_
      exact mm_zret dX12_areEnemies_19 rfl rfl (Nat.le_refl 0) (Nat.le_refl 0) ⟨_, rfl, rfl, hG, h⟩
    · rw [if_neg hc] at h
      refine mm_iconst (x := 1) dX12_areEnemies_14 rfl ?_
      refine mm_goto (tgt := 19) dX12_areEnemies_15 (by decide) ?_
      exact mm_zret dX12_areEnemies_19 rfl rfl (Nat.le_refl 0) (Nat.le_refl 0) ⟨_, rfl, rfl, hG, h⟩
def jX12_enemyMany_4 (d : Nat) (x1 : Int32) (M : mm_M) (K : Int32 → mm_M → Prop) (y1 : Int32) (y2 : Int32) (y3 : Int32) : Prop := mm_W mX12_enemyMany (d + 1) 0 0 4 [(0, .ref 164), (1, .int y1), (2, .int y2), (3, .int y3)] [] mm_SH M 0 0 (mm_PI K)
set_option maxRecDepth 100000 in
set_option maxHeartbeats 4000000 in
theorem rX12_enemyMany {d : Nat} {x1 : Int32} {M : mm_M} {K : Int32 → mm_M → Prop} (hG : mm_G M.2.2) (h : jX12_enemyMany_4 d x1 M K x1 0 0) : mm_CI mX12_enemyMany (d + 1) [.ref 164, .int x1] M K := by
  show mm_W mX12_enemyMany (d + 1) 0 0 0 [(0, .ref 164), (1, .int x1)] [] mm_SH M 0 0 (mm_PI K)
  refine mm_iconst (x := 0) dX12_enemyMany_0 rfl ?_
  refine mm_istore_n (lv' := [(2, .int 0), (0, .ref 164), (1, .int x1)]) dX12_enemyMany_1 rfl (by decide) rfl ?_
  refine mm_iconst (x := 0) dX12_enemyMany_2 rfl ?_
  refine mm_istore_n (lv' := [(3, .int 0), (2, .int 0), (0, .ref 164), (1, .int x1)]) dX12_enemyMany_3 rfl (by decide) rfl ?_
  exact mm_sub [2, 3, 1, 0] rfl h
set_option maxRecDepth 100000 in
set_option maxHeartbeats 4000000 in
theorem lX12_enemyMany_4 {d : Nat} {x1 : Int32} {M : mm_M} {K : Int32 → mm_M → Prop} {y1 : Int32} {y2 : Int32} {y3 : Int32} (hG : mm_G M.2.2) (h : mm_CI mX12_houseMany d [.ref 164] M (fun z6 m6 => if z6 ≤ y3 then (K y2 m6) else (mm_CI mX12_areEnemies d [.ref 164, .int y1, .int y3] m6 (fun z15 m15 => if z15 = 0 then (jX12_enemyMany_4 d x1 m15 K y1 y2 (y3 + 1)) else (jX12_enemyMany_4 d x1 m15 K y1 (y2 + 1) (y3 + 1)))))) : jX12_enemyMany_4 d x1 M K y1 y2 y3 := by
  unfold jX12_enemyMany_4
  refine mm_iload_n (j := 3) dX12_enemyMany_4 rfl rfl ?_
  refine mm_aload_n (j := 0) dX12_enemyMany_5 rfl rfl ?_
  refine mm_kVI [] dX12_enemyMany_6 kX12_412 rfl sh_164 (by decide) (by decide) h (fun z6 m6 hG h => ?_)
  refine mm_icmp_ge (tgt := 30) dX12_enemyMany_9 (by decide) (fun hc => ?_) (fun hc => ?_)
  · rw [if_pos hc] at h
    refine mm_iload_n (j := 2) dX12_enemyMany_30 rfl rfl ?_
    exact mm_iret dX12_enemyMany_31 rfl (Nat.le_refl 0) (Nat.le_refl 0) ⟨_, rfl, rfl, hG, h⟩
  · rw [if_neg hc] at h
    refine mm_aload_n (j := 0) dX12_enemyMany_12 rfl rfl ?_
    refine mm_iload_n (j := 1) dX12_enemyMany_13 rfl rfl ?_
    refine mm_iload_n (j := 3) dX12_enemyMany_14 rfl rfl ?_
    refine mm_kVI [.int y1, .int y3] dX12_enemyMany_15 kX12_418 rfl sh_164 (by decide) (by decide) h (fun z15 m15 hG h => ?_)
    refine mm_if_eq (tgt := 24) dX12_enemyMany_18 (by decide) (fun hc => ?_) (fun hc => ?_)
    · rw [if_pos hc] at h
      refine mm_iinc (j := 3) (v := y3 + 1) (lv' := [(3, .int (y3 + 1)), (0, .ref 164), (1, .int y1), (2, .int y2)]) dX12_enemyMany_24 rfl rfl (by decide) rfl ?_
      refine mm_goto (tgt := 4) dX12_enemyMany_27 (by decide) ?_
      exact mm_sub [1, 2, 3, 0] rfl h
    · rw [if_neg hc] at h
      refine mm_iinc (j := 2) (v := y2 + 1) (lv' := [(2, .int (y2 + 1)), (0, .ref 164), (1, .int y1), (3, .int y3)]) dX12_enemyMany_21 rfl rfl (by decide) rfl ?_
      refine mm_iinc (j := 3) (v := y3 + 1) (lv' := [(3, .int (y3 + 1)), (2, .int (y2 + 1)), (0, .ref 164), (1, .int y1)]) dX12_enemyMany_24 rfl rfl (by decide) rfl ?_
      refine mm_goto (tgt := 4) dX12_enemyMany_27 (by decide) ?_
      exact mm_sub [2, 3, 1, 0] rfl h
set_option maxRecDepth 100000 in
set_option maxHeartbeats 4000000 in
theorem rX12_isTold {d : Nat} {x1 : Int32} {M : mm_M} {K : Int32 → mm_M → Prop} (hG : mm_G M.2.2) (h : vp_in (5 + x1) 10 ∧ if (M.1 196 (5 + x1).toNatClampNeg) = (-1) then (K 0 M) else (K 1 M)) : mm_CI mX12_isTold d [.ref 164, .int x1] M K := by
  show mm_W mX12_isTold d 0 0 0 [(0, .ref 164), (1, .int x1)] [] mm_SH M 0 0 (mm_PI K)
  refine mm_aload_n (j := 0) dX12_isTold_0 rfl rfl ?_
  refine mm_getR (ci := 12) (N := 116) (r := 196) dX12_isTold_1 fX12_109 sh_164 rfl (g_164_43 hG) ?_
  refine mm_iconst (x := 5) dX12_isTold_4 rfl ?_
  refine mm_iload_n (j := 1) dX12_isTold_5 rfl rfl ?_
  refine mm_iadd dX12_isTold_6 ?_
  obtain ⟨hi7, h⟩ := h
  refine mm_iaload (N := 10) dX12_isTold_7 sh_196 hi7 ?_
  refine mm_iconst (x := (-1)) dX12_isTold_8 rfl ?_
  refine mm_icmp_eq (tgt := 16) dX12_isTold_9 (by decide) (fun hc => ?_) (fun hc => ?_)
  · rw [if_pos hc] at h
    refine mm_iconst (x := 0) dX12_isTold_16 rfl ?_
    exact mm_zret dX12_isTold_17 rfl rfl (Nat.le_refl 0) (Nat.le_refl 0) ⟨_, rfl, rfl, hG, h⟩
  · rw [if_neg hc] at h
    refine mm_iconst (x := 1) dX12_isTold_12 rfl ?_
    refine mm_goto (tgt := 17) dX12_isTold_13 (by decide) ?_
    exact mm_zret dX12_isTold_17 rfl rfl (Nat.le_refl 0) (Nat.le_refl 0) ⟨_, rfl, rfl, hG, h⟩
def jX12_codesTell_22 (d : Nat) (x1 : Int32) (M : mm_M) (K : Int64 → mm_M → Prop) (y1 : Int32) (y2 : Int32) : Prop := mm_W mX12_codesTell (d + 1) 0 0 22 [(0, .ref 164), (1, .int y1), (2, .int y2)] [] mm_SH M 0 0 (mm_PL K)
set_option maxRecDepth 100000 in
set_option maxHeartbeats 4000000 in
theorem rX12_codesTell {d : Nat} {x1 : Int32} {M : mm_M} {K : Int64 → mm_M → Prop} (hG : mm_G M.2.2) (h : mm_CI mX12_kindOf d [.int x1] M (fun z2 m2 => vp_in (5 + x1) 10 ∧ jX12_codesTell_22 d x1 (mm_uI (mm_uI m2 164 49 z2) 164 111 0) K x1 ((mm_uI (mm_uI m2 164 49 z2) 164 111 0).1 196 (5 + x1).toNatClampNeg))) : mm_CL mX12_codesTell (d + 1) [.ref 164, .int x1] M K := by
  show mm_W mX12_codesTell (d + 1) 0 0 0 [(0, .ref 164), (1, .int x1)] [] mm_SH M 0 0 (mm_PL K)
  refine mm_aload_n (j := 0) dX12_codesTell_0 rfl rfl ?_
  refine mm_iload_n (j := 1) dX12_codesTell_1 rfl rfl ?_
  refine mm_kSI [.int x1] dX12_codesTell_2 kX12_350 rfl (by decide) (by decide) h (fun z2 m2 hG h => ?_)
  refine mm_putI (ci := 12) (N := 116) dX12_codesTell_5 fX12_318 sh_164 (by decide +kernel) rfl rfl rfl ?_
  refine mm_aload_n (j := 0) dX12_codesTell_8 rfl rfl ?_
  refine mm_iconst (x := 0) dX12_codesTell_9 rfl ?_
  refine mm_putI (ci := 12) (N := 116) dX12_codesTell_10 fX12_422 sh_164 (by decide +kernel) rfl rfl rfl ?_
  refine mm_aload_n (j := 0) dX12_codesTell_13 rfl rfl ?_
  refine mm_getR (ci := 12) (N := 116) (r := 196) dX12_codesTell_14 fX12_109 sh_164 rfl (g_164_43 hG) ?_
  refine mm_iconst (x := 5) dX12_codesTell_17 rfl ?_
  refine mm_iload_n (j := 1) dX12_codesTell_18 rfl rfl ?_
  refine mm_iadd dX12_codesTell_19 ?_
  obtain ⟨hi20, h⟩ := h
  refine mm_iaload (N := 10) dX12_codesTell_20 sh_196 hi20 ?_
  refine mm_istore_n (lv' := [(2, .int ((mm_uI (mm_uI m2 164 49 z2) 164 111 0).1 196 (5 + x1).toNatClampNeg)), (0, .ref 164), (1, .int x1)]) dX12_codesTell_21 rfl (by decide) rfl ?_
  exact mm_sub [1, 2, 0] rfl h
set_option maxRecDepth 100000 in
set_option maxHeartbeats 4000000 in
theorem lX12_codesTell_22 {d : Nat} {x1 : Int32} {M : mm_M} {K : Int64 → mm_M → Prop} {y1 : Int32} {y2 : Int32} (hG : mm_G M.2.2) (h : vp_in (5 + y1) 10 ∧ if (M.1 197 (5 + y1).toNatClampNeg) ≤ y2 then (K (M.2.1 241 (0).toNatClampNeg) M) else (vp_in (1600 + y2) 3200 ∧ if (M.1 198 (1600 + y2).toNatClampNeg) < 1000 then (if (M.1 198 (1600 + y2).toNatClampNeg) < 40 then (if (M.1 198 (1600 + y2).toNatClampNeg) = 13 then (mm_CV mX12_qPuts d [.ref 164, .long 1] M (fun m98 => jX12_codesTell_22 d x1 m98 K y1 (y2 + 1))) else (if (M.1 198 (1600 + y2).toNatClampNeg) = 12 then (vp_in ((M.1 164 111) - 1) 1700 ∧ vp_in ((M.1 164 111) - 1) 1700 ∧ jX12_codesTell_22 d x1 (mm_uL M 241 ((M.1 164 111) - 1).toNatClampNeg (1 - (M.2.1 241 ((M.1 164 111) - 1).toNatClampNeg))) K y1 (y2 + 1)) else (mm_CV mX12_qJoins d [.ref 164, .int (M.1 198 (1600 + y2).toNatClampNeg)] M (fun m139 => jX12_codesTell_22 d x1 m139 K y1 (y2 + 1))))) else (mm_CL mX12_qPartOf d [.ref 164, .int ((M.1 198 (1600 + y2).toNatClampNeg) - 40), .int (M.1 164 52)] M (fun z81 m81 => mm_CV mX12_qPuts d [.ref 164, .long z81] m81 (fun m84 => jX12_codesTell_22 d x1 m84 K y1 (y2 + 1))))) else (mm_CV mX12_qPuts d [.ref 164, .long (((M.1 198 (1600 + y2).toNatClampNeg) - 1000).toInt64)] M (fun m59 => jX12_codesTell_22 d x1 m59 K y1 (y2 + 1))))) : jX12_codesTell_22 d x1 M K y1 y2 := by
  unfold jX12_codesTell_22
  refine mm_iload_n (j := 2) dX12_codesTell_22 rfl rfl ?_
  refine mm_aload_n (j := 0) dX12_codesTell_23 rfl rfl ?_
  refine mm_getR (ci := 12) (N := 116) (r := 197) dX12_codesTell_24 fX12_112 sh_164 rfl (g_164_44 hG) ?_
  refine mm_iconst (x := 5) dX12_codesTell_27 rfl ?_
  refine mm_iload_n (j := 1) dX12_codesTell_28 rfl rfl ?_
  refine mm_iadd dX12_codesTell_29 ?_
  obtain ⟨hi30, h⟩ := h
  refine mm_iaload (N := 10) dX12_codesTell_30 sh_197 hi30 ?_
  refine mm_icmp_ge (tgt := 148) dX12_codesTell_31 (by decide) (fun hc => ?_) (fun hc => ?_)
  · rw [if_pos hc] at h
    refine mm_aload_n (j := 0) dX12_codesTell_148 rfl rfl ?_
    refine mm_getR (ci := 12) (N := 116) (r := 241) dX12_codesTell_149 fX12_249 sh_164 rfl (g_164_110 hG) ?_
    refine mm_iconst (x := 0) dX12_codesTell_152 rfl ?_
    refine mm_laload (N := 1700) dX12_codesTell_153 sh_241 (by decide) ?_
    exact mm_lret dX12_codesTell_154 rfl (Nat.le_refl 0) (Nat.le_refl 0) ⟨_, rfl, rfl, hG, h⟩
  · rw [if_neg hc] at h
    refine mm_aload_n (j := 0) dX12_codesTell_34 rfl rfl ?_
    refine mm_getR (ci := 12) (N := 116) (r := 198) dX12_codesTell_35 fX12_115 sh_164 rfl (g_164_45 hG) ?_
    refine mm_sipush (x := 1600) dX12_codesTell_38 rfl ?_
    refine mm_iload_n (j := 2) dX12_codesTell_41 rfl rfl ?_
    refine mm_iadd dX12_codesTell_42 ?_
    obtain ⟨hi43, h⟩ := h
    refine mm_iaload (N := 3200) dX12_codesTell_43 sh_198 hi43 ?_
    refine mm_istore_n (lv' := [(3, .int (M.1 198 (1600 + y2).toNatClampNeg)), (0, .ref 164), (1, .int y1), (2, .int y2)]) dX12_codesTell_44 rfl (by decide) rfl ?_
    refine mm_iload_n (j := 0) dX12_codesTell_45 rfl rfl ?_
    refine mm_sipush (x := 1000) dX12_codesTell_46 rfl ?_
    refine mm_icmp_lt (tgt := 65) dX12_codesTell_49 (by decide) (fun hc => ?_) (fun hc => ?_)
    · rw [if_pos hc] at h
      refine mm_iload_n (j := 0) dX12_codesTell_65 rfl rfl ?_
      refine mm_bipush (x := 40) dX12_codesTell_66 rfl ?_
      refine mm_icmp_lt (tgt := 90) dX12_codesTell_68 (by decide) (fun hc => ?_) (fun hc => ?_)
      · rw [if_pos hc] at h
        refine mm_iload_n (j := 0) dX12_codesTell_90 rfl rfl ?_
        refine mm_bipush (x := 13) dX12_codesTell_91 rfl ?_
        refine mm_icmp_ne (tgt := 104) dX12_codesTell_93 (by decide) (fun hc => ?_) (fun hc => ?_)
        · rw [if_neg hc] at h
          refine mm_iload_n (j := 0) dX12_codesTell_104 rfl rfl ?_
          refine mm_bipush (x := 12) dX12_codesTell_105 rfl ?_
          refine mm_icmp_ne (tgt := 137) dX12_codesTell_107 (by decide) (fun hc => ?_) (fun hc => ?_)
          · rw [if_neg hc] at h
            refine mm_aload_n (j := 1) dX12_codesTell_137 rfl rfl ?_
            refine mm_iload_n (j := 0) dX12_codesTell_138 rfl rfl ?_
            refine mm_kVV [.int (M.1 198 (1600 + y2).toNatClampNeg)] dX12_codesTell_139 kX12_436 rfl sh_164 (by decide) (by decide) h (fun m139 hG h => ?_)
            refine mm_iinc (j := 3) (v := y2 + 1) (lv' := [(2, .int (y2 + 1)), (3, .int (M.1 198 (1600 + y2).toNatClampNeg)), (0, .ref 164), (1, .int y1)]) dX12_codesTell_142 rfl rfl (by decide) rfl ?_
            refine mm_goto (tgt := 22) dX12_codesTell_145 (by decide) ?_
            exact mm_sub [2, 3, 0] rfl h
          · rw [if_pos hc] at h
            refine mm_aload_n (j := 1) dX12_codesTell_110 rfl rfl ?_
            refine mm_getR (ci := 12) (N := 116) (r := 241) dX12_codesTell_111 fX12_249 sh_164 rfl (g_164_110 hG) ?_
            refine mm_aload_n (j := 1) dX12_codesTell_114 rfl rfl ?_
            refine mm_getI (ci := 12) (N := 116) dX12_codesTell_115 fX12_422 sh_164 rfl ?_
            refine mm_iconst (x := 1) dX12_codesTell_118 rfl ?_
            refine mm_isub dX12_codesTell_119 ?_
            refine mm_lconst (x := 1) dX12_codesTell_120 rfl ?_
            refine mm_aload_n (j := 1) dX12_codesTell_121 rfl rfl ?_
            refine mm_getR (ci := 12) (N := 116) (r := 241) dX12_codesTell_122 fX12_249 sh_164 rfl (g_164_110 hG) ?_
            refine mm_aload_n (j := 1) dX12_codesTell_125 rfl rfl ?_
            refine mm_getI (ci := 12) (N := 116) dX12_codesTell_126 fX12_422 sh_164 rfl ?_
            refine mm_iconst (x := 1) dX12_codesTell_129 rfl ?_
            refine mm_isub dX12_codesTell_130 ?_
            obtain ⟨hi131, h⟩ := h
            refine mm_laload (N := 1700) dX12_codesTell_131 sh_241 hi131 ?_
            refine mm_lsub dX12_codesTell_132 ?_
            obtain ⟨hi133, h⟩ := h
            refine mm_lastore (N := 1700) dX12_codesTell_133 sh_241 hi133 ?_
            refine mm_goto (tgt := 142) dX12_codesTell_134 (by decide) ?_
            refine mm_iinc (j := 3) (v := y2 + 1) (lv' := [(2, .int (y2 + 1)), (3, .int (M.1 198 (1600 + y2).toNatClampNeg)), (0, .ref 164), (1, .int y1)]) dX12_codesTell_142 rfl rfl (by decide) rfl ?_
            refine mm_goto (tgt := 22) dX12_codesTell_145 (by decide) ?_
            exact mm_sub [2, 3, 0] rfl h
        · rw [if_pos hc] at h
          refine mm_aload_n (j := 1) dX12_codesTell_96 rfl rfl ?_
          refine mm_lconst (x := 1) dX12_codesTell_97 rfl ?_
          refine mm_kVV [.long 1] dX12_codesTell_98 kX12_425 rfl sh_164 (by decide) (by decide) h (fun m98 hG h => ?_)
          refine mm_goto (tgt := 142) dX12_codesTell_101 (by decide) ?_
          refine mm_iinc (j := 3) (v := y2 + 1) (lv' := [(2, .int (y2 + 1)), (3, .int (M.1 198 (1600 + y2).toNatClampNeg)), (0, .ref 164), (1, .int y1)]) dX12_codesTell_142 rfl rfl (by decide) rfl ?_
          refine mm_goto (tgt := 22) dX12_codesTell_145 (by decide) ?_
          exact mm_sub [2, 3, 0] rfl h
      · rw [if_neg hc] at h
        refine mm_aload_n (j := 1) dX12_codesTell_71 rfl rfl ?_
        refine mm_aload_n (j := 1) dX12_codesTell_72 rfl rfl ?_
        refine mm_iload_n (j := 0) dX12_codesTell_73 rfl rfl ?_
        refine mm_bipush (x := 40) dX12_codesTell_74 rfl ?_
        refine mm_isub dX12_codesTell_76 ?_
        refine mm_aload_n (j := 1) dX12_codesTell_77 rfl rfl ?_
        refine mm_getI (ci := 12) (N := 116) dX12_codesTell_78 fX12_429 sh_164 rfl ?_
        refine mm_kVL [.int ((M.1 198 (1600 + y2).toNatClampNeg) - 40), .int (M.1 164 52)] dX12_codesTell_81 kX12_432 rfl sh_164 (by decide) (by decide) h (fun z81 m81 hG h => ?_)
        refine mm_kVV [.long z81] dX12_codesTell_84 kX12_425 rfl sh_164 (by decide) (by decide) h (fun m84 hG h => ?_)
        refine mm_goto (tgt := 142) dX12_codesTell_87 (by decide) ?_
        refine mm_iinc (j := 3) (v := y2 + 1) (lv' := [(2, .int (y2 + 1)), (3, .int (M.1 198 (1600 + y2).toNatClampNeg)), (0, .ref 164), (1, .int y1)]) dX12_codesTell_142 rfl rfl (by decide) rfl ?_
        refine mm_goto (tgt := 22) dX12_codesTell_145 (by decide) ?_
        exact mm_sub [2, 3, 0] rfl h
    · rw [if_neg hc] at h
      refine mm_aload_n (j := 1) dX12_codesTell_52 rfl rfl ?_
      refine mm_iload_n (j := 0) dX12_codesTell_53 rfl rfl ?_
      refine mm_sipush (x := 1000) dX12_codesTell_54 rfl ?_
      refine mm_isub dX12_codesTell_57 ?_
      refine mm_i2l dX12_codesTell_58 ?_
      refine mm_kVV [.long (((M.1 198 (1600 + y2).toNatClampNeg) - 1000).toInt64)] dX12_codesTell_59 kX12_425 rfl sh_164 (by decide) (by decide) h (fun m59 hG h => ?_)
      refine mm_goto (tgt := 142) dX12_codesTell_62 (by decide) ?_
      refine mm_iinc (j := 3) (v := y2 + 1) (lv' := [(2, .int (y2 + 1)), (3, .int (M.1 198 (1600 + y2).toNatClampNeg)), (0, .ref 164), (1, .int y1)]) dX12_codesTell_142 rfl rfl (by decide) rfl ?_
      refine mm_goto (tgt := 22) dX12_codesTell_145 (by decide) ?_
      exact mm_sub [2, 3, 0] rfl h
set_option maxRecDepth 100000 in
set_option maxHeartbeats 4000000 in
theorem rX12_asksOf {d : Nat} {x1 : Int32} {x2 : Int32} {M : mm_M} {K : mm_M → Prop} (hG : mm_G M.2.2) (h : mm_CI mX12_hateOf d [.ref 164, .int x1, .int x2] (mm_uI (mm_uI M 164 52 x1) 164 53 x2) (fun z14 m14 => K (mm_uL m14 164 54 z14.toInt64))) : mm_CV mX12_asksOf (d + 1) [.ref 164, .int x1, .int x2] M K := by
  show mm_W mX12_asksOf (d + 1) 0 0 0 [(0, .ref 164), (1, .int x1), (2, .int x2)] [] mm_SH M 0 0 (mm_PV K)
  refine mm_aload_n (j := 0) dX12_asksOf_0 rfl rfl ?_
  refine mm_iload_n (j := 1) dX12_asksOf_1 rfl rfl ?_
  refine mm_putI (ci := 12) (N := 116) dX12_asksOf_2 fX12_429 sh_164 (by decide +kernel) rfl rfl rfl ?_
  refine mm_aload_n (j := 0) dX12_asksOf_5 rfl rfl ?_
  refine mm_iload_n (j := 2) dX12_asksOf_6 rfl rfl ?_
  refine mm_putI (ci := 12) (N := 116) dX12_asksOf_7 fX12_439 sh_164 (by decide +kernel) rfl rfl rfl ?_
  refine mm_aload_n (j := 0) dX12_asksOf_10 rfl rfl ?_
  refine mm_aload_n (j := 0) dX12_asksOf_11 rfl rfl ?_
  refine mm_iload_n (j := 1) dX12_asksOf_12 rfl rfl ?_
  refine mm_iload_n (j := 2) dX12_asksOf_13 rfl rfl ?_
  refine mm_kVI [.int x1, .int x2] dX12_asksOf_14 kX12_415 rfl sh_164 (by decide) (by decide) h (fun z14 m14 hG h => ?_)
  refine mm_i2l dX12_asksOf_17 ?_
  refine mm_putL (ci := 12) (N := 116) dX12_asksOf_18 fX12_442 sh_164 (by decide +kernel) rfl ?_
  exact mm_vret dX12_asksOf_21 rfl (Nat.le_refl 0) (Nat.le_refl 0) ⟨rfl, rfl, hG, h⟩
set_option maxRecDepth 100000 in
set_option maxHeartbeats 4000000 in
theorem rX12_bakesFor {d : Nat} {x1 : Int32} {x2 : Int32} {M : mm_M} {K : Int64 → mm_M → Prop} (hG : mm_G M.2.2) (h : mm_CV mX12_asksOf d [.ref 164, .int x1, .int x2] M (fun m3 => mm_CI mX12_isTold d [.ref 164, .int 0] m3 (fun z8 m8 => if z8 = 0 then (K (m8.2.1 164 54) m8) else (mm_CL mX12_codesTell d [.ref 164, .int 0] m8 (fun z16 m16 => K z16 m16))))) : mm_CL mX12_bakesFor (d + 1) [.ref 164, .int x1, .int x2] M K := by
  show mm_W mX12_bakesFor (d + 1) 0 0 0 [(0, .ref 164), (1, .int x1), (2, .int x2)] [] mm_SH M 0 0 (mm_PL K)
  refine mm_aload_n (j := 0) dX12_bakesFor_0 rfl rfl ?_
  refine mm_iload_n (j := 1) dX12_bakesFor_1 rfl rfl ?_
  refine mm_iload_n (j := 2) dX12_bakesFor_2 rfl rfl ?_
  refine mm_kVV [.int x1, .int x2] dX12_bakesFor_3 kX12_445 rfl sh_164 (by decide) (by decide) h (fun m3 hG h => ?_)
  refine mm_aload_n (j := 0) dX12_bakesFor_6 rfl rfl ?_
  refine mm_iconst (x := 0) dX12_bakesFor_7 rfl ?_
  refine mm_kVI [.int 0] dX12_bakesFor_8 kX12_448 rfl sh_164 (by decide) (by decide) h (fun z8 m8 hG h => ?_)
  refine mm_if_eq (tgt := 22) dX12_bakesFor_11 (by decide) (fun hc => ?_) (fun hc => ?_)
  · rw [if_pos hc] at h
    refine mm_aload_n (j := 0) dX12_bakesFor_22 rfl rfl ?_
    refine mm_getL (ci := 12) (N := 116) dX12_bakesFor_23 fX12_442 sh_164 rfl ?_
    exact mm_lret dX12_bakesFor_26 rfl (Nat.le_refl 0) (Nat.le_refl 0) ⟨_, rfl, rfl, hG, h⟩
  · rw [if_neg hc] at h
    refine mm_aload_n (j := 0) dX12_bakesFor_14 rfl rfl ?_
    refine mm_iconst (x := 0) dX12_bakesFor_15 rfl ?_
    refine mm_kVL [.int 0] dX12_bakesFor_16 kX12_451 rfl sh_164 (by decide) (by decide) h (fun z16 m16 hG h => ?_)
    refine mm_goto (tgt := 26) dX12_bakesFor_19 (by decide) ?_
    exact mm_lret dX12_bakesFor_26 rfl (Nat.le_refl 0) (Nat.le_refl 0) ⟨_, rfl, rfl, hG, h⟩
set_option maxRecDepth 100000 in
set_option maxHeartbeats 4000000 in
theorem rX12_tasteOf {d : Nat} {x1 : Int32} {x2 : Int32} {M : mm_M} {K : Int32 → mm_M → Prop} (hG : mm_G M.2.2) (h : mm_CV mX12_asksOf d [.ref 164, .int x1, .int x2] M (fun m3 => mm_CI mX12_isTold d [.ref 164, .int 1] m3 (fun z8 m8 => if z8 = 0 then (vp_in (7 + x1) 14 ∧ mm_CI mX12_cut d [.long ((m8.1 194 (7 + x1).toNatClampNeg).toInt64)] m8 (fun z32 m32 => K z32 m32)) else (mm_CL mX12_codesTell d [.ref 164, .int 1] m8 (fun z16 m16 => mm_CI mX12_cut d [.long z16] m16 (fun z32 m32 => K z32 m32)))))) : mm_CI mX12_tasteOf (d + 1) [.ref 164, .int x1, .int x2] M K := by
  show mm_W mX12_tasteOf (d + 1) 0 0 0 [(0, .ref 164), (1, .int x1), (2, .int x2)] [] mm_SH M 0 0 (mm_PI K)
  refine mm_aload_n (j := 0) dX12_tasteOf_0 rfl rfl ?_
  refine mm_iload_n (j := 1) dX12_tasteOf_1 rfl rfl ?_
  refine mm_iload_n (j := 2) dX12_tasteOf_2 rfl rfl ?_
  refine mm_kVV [.int x1, .int x2] dX12_tasteOf_3 kX12_445 rfl sh_164 (by decide) (by decide) h (fun m3 hG h => ?_)
  refine mm_aload_n (j := 0) dX12_tasteOf_6 rfl rfl ?_
  refine mm_iconst (x := 1) dX12_tasteOf_7 rfl ?_
  refine mm_kVI [.int 1] dX12_tasteOf_8 kX12_448 rfl sh_164 (by decide) (by decide) h (fun z8 m8 hG h => ?_)
  refine mm_if_eq (tgt := 22) dX12_tasteOf_11 (by decide) (fun hc => ?_) (fun hc => ?_)
  · rw [if_pos hc] at h
    refine mm_aload_n (j := 0) dX12_tasteOf_22 rfl rfl ?_
    refine mm_getR (ci := 12) (N := 116) (r := 194) dX12_tasteOf_23 fX12_103 sh_164 rfl (g_164_41 hG) ?_
    refine mm_bipush (x := 7) dX12_tasteOf_26 rfl ?_
    refine mm_iload_n (j := 1) dX12_tasteOf_28 rfl rfl ?_
    refine mm_iadd dX12_tasteOf_29 ?_
    obtain ⟨hi30, h⟩ := h
    refine mm_iaload (N := 14) dX12_tasteOf_30 sh_194 hi30 ?_
    refine mm_i2l dX12_tasteOf_31 ?_
    refine mm_kSI [.long ((m8.1 194 (7 + x1).toNatClampNeg).toInt64)] dX12_tasteOf_32 kX12_455 rfl (by decide) (by decide) h (fun z32 m32 hG h => ?_)
    exact mm_iret dX12_tasteOf_35 rfl (Nat.le_refl 0) (Nat.le_refl 0) ⟨_, rfl, rfl, hG, h⟩
  · rw [if_neg hc] at h
    refine mm_aload_n (j := 0) dX12_tasteOf_14 rfl rfl ?_
    refine mm_iconst (x := 1) dX12_tasteOf_15 rfl ?_
    refine mm_kVL [.int 1] dX12_tasteOf_16 kX12_451 rfl sh_164 (by decide) (by decide) h (fun z16 m16 hG h => ?_)
    refine mm_goto (tgt := 32) dX12_tasteOf_19 (by decide) ?_
    refine mm_kSI [.long z16] dX12_tasteOf_32 kX12_455 rfl (by decide) (by decide) h (fun z32 m32 hG h => ?_)
    exact mm_iret dX12_tasteOf_35 rfl (Nat.le_refl 0) (Nat.le_refl 0) ⟨_, rfl, rfl, hG, h⟩
set_option maxRecDepth 100000 in
set_option maxHeartbeats 4000000 in
theorem rX12_doesStarve {d : Nat} {x1 : Int32} {M : mm_M} {K : Int32 → mm_M → Prop} (hG : mm_G M.2.2) (h : mm_CI mX12_isTold d [.ref 164, .int 2] M (fun z2 m2 => if z2 = 0 then (mm_CI mX12_hungerOf d [.ref 164, .int x1] m2 (fun z10 m10 => if z10 ≤ 5 then (K 0 m10) else (K 1 m10))) else (mm_CL mX12_codesTell d [.ref 164, .int 2] (mm_uI (mm_uI m2 164 52 x1) 164 53 x1) (fun z35 m35 => if z35 = 1 then (K 1 m35) else (K 0 m35))))) : mm_CI mX12_doesStarve (d + 1) [.ref 164, .int x1] M K := by
  show mm_W mX12_doesStarve (d + 1) 0 0 0 [(0, .ref 164), (1, .int x1)] [] mm_SH M 0 0 (mm_PI K)
  refine mm_aload_n (j := 0) dX12_doesStarve_0 rfl rfl ?_
  refine mm_iconst (x := 2) dX12_doesStarve_1 rfl ?_
  refine mm_kVI [.int 2] dX12_doesStarve_2 kX12_448 rfl sh_164 (by decide) (by decide) h (fun z2 m2 hG h => ?_)
  refine mm_if_ne (tgt := 23) dX12_doesStarve_5 (by decide) (fun hc => ?_) (fun hc => ?_)
  · rw [if_neg hc] at h
    refine mm_aload_n (j := 0) dX12_doesStarve_23 rfl rfl ?_
    refine mm_iload_n (j := 1) dX12_doesStarve_24 rfl rfl ?_
    refine mm_putI (ci := 12) (N := 116) dX12_doesStarve_25 fX12_429 sh_164 (by decide +kernel) rfl rfl rfl ?_
    refine mm_aload_n (j := 0) dX12_doesStarve_28 rfl rfl ?_
    refine mm_iload_n (j := 1) dX12_doesStarve_29 rfl rfl ?_
    refine mm_putI (ci := 12) (N := 116) dX12_doesStarve_30 fX12_439 sh_164 (by decide +kernel) rfl rfl rfl ?_
    refine mm_aload_n (j := 0) dX12_doesStarve_33 rfl rfl ?_
    refine mm_iconst (x := 2) dX12_doesStarve_34 rfl ?_
    refine mm_kVL [.int 2] dX12_doesStarve_35 kX12_451 rfl sh_164 (by decide) (by decide) h (fun z35 m35 hG h => ?_)
    refine mm_lconst (x := 1) dX12_doesStarve_38 rfl ?_
    refine mm_lcmp dX12_doesStarve_39 ?_
    refine mm_if_ne (tgt := 47) dX12_doesStarve_40 (by decide) (fun hc => ?_) (fun hc => ?_)
    · rw [if_neg (fun q => hc (lgc_eq.mpr q))] at h
      refine mm_iconst (x := 0) dX12_doesStarve_47 rfl ?_
      exact mm_zret dX12_doesStarve_48 rfl rfl (Nat.le_refl 0) (Nat.le_refl 0) ⟨_, rfl, rfl, hG, h⟩
    · rw [if_pos (lgc_eq.mp hc)] at h
      refine mm_iconst (x := 1) dX12_doesStarve_43 rfl ?_
      refine mm_goto (tgt := 48) dX12_doesStarve_44 (by decide) ?_
      exact mm_zret dX12_doesStarve_48 rfl rfl (Nat.le_refl 0) (Nat.le_refl 0) ⟨_, rfl, rfl, hG, h⟩
  · rw [if_pos hc] at h
    refine mm_aload_n (j := 0) dX12_doesStarve_8 rfl rfl ?_
    refine mm_iload_n (j := 1) dX12_doesStarve_9 rfl rfl ?_
    refine mm_kVI [.int x1] dX12_doesStarve_10 kX12_459 rfl sh_164 (by decide) (by decide) h (fun z10 m10 hG h => ?_)
    refine mm_iconst (x := 5) dX12_doesStarve_13 rfl ?_
    refine mm_icmp_le (tgt := 21) dX12_doesStarve_14 (by decide) (fun hc => ?_) (fun hc => ?_)
    · rw [if_pos hc] at h
      refine mm_iconst (x := 0) dX12_doesStarve_21 rfl ?_
      exact mm_zret dX12_doesStarve_22 rfl rfl (Nat.le_refl 0) (Nat.le_refl 0) ⟨_, rfl, rfl, hG, h⟩
    · rw [if_neg hc] at h
      refine mm_iconst (x := 1) dX12_doesStarve_17 rfl ?_
      refine mm_goto (tgt := 22) dX12_doesStarve_18 (by decide) ?_
      exact mm_zret dX12_doesStarve_22 rfl rfl (Nat.le_refl 0) (Nat.le_refl 0) ⟨_, rfl, rfl, hG, h⟩
set_option maxRecDepth 100000 in
set_option maxHeartbeats 4000000 in
theorem rX12_canBake {d : Nat} {x1 : Int32} {M : mm_M} {K : Int32 → mm_M → Prop} (hG : mm_G M.2.2) (h : mm_CI mX12_isThere d [.ref 164, .int x1] M (fun z2 m2 => if z2 = 0 then (K 0 m2) else (mm_CI mX12_flourOf d [.ref 164, .int x1] m2 (fun z10 m10 => if z10 < (m10.1 191 (2).toNatClampNeg) then (K 0 m10) else (if ((((m10.1 164 59) ||| (m10.1 164 60)) >>> (x1 &&& 31)) &&& 1) = 0 then (K 1 m10) else (K 0 m10)))))) : mm_CI mX12_canBake (d + 1) [.ref 164, .int x1] M K := by
  show mm_W mX12_canBake (d + 1) 0 0 0 [(0, .ref 164), (1, .int x1)] [] mm_SH M 0 0 (mm_PI K)
  refine mm_aload_n (j := 0) dX12_canBake_0 rfl rfl ?_
  refine mm_iload_n (j := 1) dX12_canBake_1 rfl rfl ?_
  refine mm_kVI [.int x1] dX12_canBake_2 kX12_462 rfl sh_164 (by decide) (by decide) h (fun z2 m2 hG h => ?_)
  refine mm_if_eq (tgt := 42) dX12_canBake_5 (by decide) (fun hc => ?_) (fun hc => ?_)
  · rw [if_pos hc] at h
    refine mm_iconst (x := 0) dX12_canBake_42 rfl ?_
    exact mm_zret dX12_canBake_43 rfl rfl (Nat.le_refl 0) (Nat.le_refl 0) ⟨_, rfl, rfl, hG, h⟩
  · rw [if_neg hc] at h
    refine mm_aload_n (j := 0) dX12_canBake_8 rfl rfl ?_
    refine mm_iload_n (j := 1) dX12_canBake_9 rfl rfl ?_
    refine mm_kVI [.int x1] dX12_canBake_10 kX12_465 rfl sh_164 (by decide) (by decide) h (fun z10 m10 hG h => ?_)
    refine mm_aload_n (j := 0) dX12_canBake_13 rfl rfl ?_
    refine mm_getR (ci := 12) (N := 116) (r := 191) dX12_canBake_14 fX12_93 sh_164 rfl (g_164_36 hG) ?_
    refine mm_iconst (x := 2) dX12_canBake_17 rfl ?_
    refine mm_iaload (N := 4) dX12_canBake_18 sh_191 (by decide) ?_
    refine mm_icmp_lt (tgt := 42) dX12_canBake_19 (by decide) (fun hc => ?_) (fun hc => ?_)
    · rw [if_pos hc] at h
      refine mm_iconst (x := 0) dX12_canBake_42 rfl ?_
      exact mm_zret dX12_canBake_43 rfl rfl (Nat.le_refl 0) (Nat.le_refl 0) ⟨_, rfl, rfl, hG, h⟩
    · rw [if_neg hc] at h
      refine mm_aload_n (j := 0) dX12_canBake_22 rfl rfl ?_
      refine mm_getI (ci := 12) (N := 116) dX12_canBake_23 fX12_468 sh_164 rfl ?_
      refine mm_aload_n (j := 0) dX12_canBake_26 rfl rfl ?_
      refine mm_getI (ci := 12) (N := 116) dX12_canBake_27 fX12_471 sh_164 rfl ?_
      refine mm_ior dX12_canBake_30 ?_
      refine mm_iload_n (j := 1) dX12_canBake_31 rfl rfl ?_
      refine mm_ishr dX12_canBake_32 ?_
      refine mm_iconst (x := 1) dX12_canBake_33 rfl ?_
      refine mm_iand dX12_canBake_34 ?_
      refine mm_if_ne (tgt := 42) dX12_canBake_35 (by decide) (fun hc => ?_) (fun hc => ?_)
      · rw [if_neg hc] at h
        refine mm_iconst (x := 0) dX12_canBake_42 rfl ?_
        exact mm_zret dX12_canBake_43 rfl rfl (Nat.le_refl 0) (Nat.le_refl 0) ⟨_, rfl, rfl, hG, h⟩
      · rw [if_pos hc] at h
        refine mm_iconst (x := 1) dX12_canBake_38 rfl ?_
        refine mm_goto (tgt := 43) dX12_canBake_39 (by decide) ?_
        exact mm_zret dX12_canBake_43 rfl rfl (Nat.le_refl 0) (Nat.le_refl 0) ⟨_, rfl, rfl, hG, h⟩
def jX12_bakerFor_7 (d : Nat) (x1 : Int32) (M : mm_M) (K : Int32 → mm_M → Prop) (y1 : Int32) (y2 : Int32) (y3 : Int64) (y5 : Int32) : Prop := mm_W mX12_bakerFor (d + 1) 0 0 7 [(0, .ref 164), (1, .int y1), (2, .int y2), (3, .long y3), (5, .int y5)] [] mm_SH M 0 0 (mm_PI K)
set_option maxRecDepth 100000 in
set_option maxHeartbeats 4000000 in
theorem rX12_bakerFor {d : Nat} {x1 : Int32} {M : mm_M} {K : Int32 → mm_M → Prop} (hG : mm_G M.2.2) (h : jX12_bakerFor_7 d x1 M K x1 (-1) 0 0) : mm_CI mX12_bakerFor (d + 1) [.ref 164, .int x1] M K := by
  show mm_W mX12_bakerFor (d + 1) 0 0 0 [(0, .ref 164), (1, .int x1)] [] mm_SH M 0 0 (mm_PI K)
  refine mm_iconst (x := (-1)) dX12_bakerFor_0 rfl ?_
  refine mm_istore_n (lv' := [(2, .int (-1)), (0, .ref 164), (1, .int x1)]) dX12_bakerFor_1 rfl (by decide) rfl ?_
  refine mm_lconst (x := 0) dX12_bakerFor_2 rfl ?_
  refine mm_lstore_n (lv' := [(3, .long 0), (2, .int (-1)), (0, .ref 164), (1, .int x1)]) dX12_bakerFor_3 rfl (by decide) rfl ?_
  refine mm_iconst (x := 0) dX12_bakerFor_4 rfl ?_
  refine mm_istore (lv' := [(5, .int 0), (3, .long 0), (2, .int (-1)), (0, .ref 164), (1, .int x1)]) dX12_bakerFor_5 (by decide) rfl ?_
  exact mm_sub [3, 4, 2, 1, 0] rfl h
set_option maxRecDepth 100000 in
set_option maxHeartbeats 4000000 in
theorem lX12_bakerFor_7 {d : Nat} {x1 : Int32} {M : mm_M} {K : Int32 → mm_M → Prop} {y1 : Int32} {y2 : Int32} {y3 : Int64} {y5 : Int32} (hG : mm_G M.2.2) (h : mm_CI mX12_houseMany d [.ref 164] M (fun z10 m10 => if z10 ≤ y5 then (K y2 m10) else (mm_CI mX12_areEnemies d [.ref 164, .int y1, .int y5] m10 (fun z20 m20 => if z20 = 0 then (jX12_bakerFor_7 d x1 m20 K y1 y2 y3 (y5 + 1)) else (mm_CI mX12_canBake d [.ref 164, .int y5] m20 (fun z29 m29 => if z29 = 0 then (jX12_bakerFor_7 d x1 m29 K y1 y2 y3 (y5 + 1)) else (mm_CL mX12_bakesFor d [.ref 164, .int y5, .int y1] m29 (fun z42 m42 => if y2 = (-1) then (jX12_bakerFor_7 d x1 m42 K y1 y5 z42 (y5 + 1)) else (if y3 < z42 then (jX12_bakerFor_7 d x1 m42 K y1 y5 z42 (y5 + 1)) else (jX12_bakerFor_7 d x1 m42 K y1 y2 y3 (y5 + 1))))))))))) : jX12_bakerFor_7 d x1 M K y1 y2 y3 y5 := by
  unfold jX12_bakerFor_7
  refine mm_iload (j := 4) dX12_bakerFor_7 rfl ?_
  refine mm_aload_n (j := 0) dX12_bakerFor_9 rfl rfl ?_
  refine mm_kVI [] dX12_bakerFor_10 kX12_412 rfl sh_164 (by decide) (by decide) h (fun z10 m10 hG h => ?_)
  refine mm_icmp_ge (tgt := 74) dX12_bakerFor_13 (by decide) (fun hc => ?_) (fun hc => ?_)
  · rw [if_pos hc] at h
    refine mm_iload_n (j := 2) dX12_bakerFor_74 rfl rfl ?_
    exact mm_iret dX12_bakerFor_75 rfl (Nat.le_refl 0) (Nat.le_refl 0) ⟨_, rfl, rfl, hG, h⟩
  · rw [if_neg hc] at h
    refine mm_aload_n (j := 0) dX12_bakerFor_16 rfl rfl ?_
    refine mm_iload_n (j := 1) dX12_bakerFor_17 rfl rfl ?_
    refine mm_iload (j := 4) dX12_bakerFor_18 rfl ?_
    refine mm_kVI [.int y1, .int y5] dX12_bakerFor_20 kX12_418 rfl sh_164 (by decide) (by decide) h (fun z20 m20 hG h => ?_)
    refine mm_if_eq (tgt := 68) dX12_bakerFor_23 (by decide) (fun hc => ?_) (fun hc => ?_)
    · rw [if_pos hc] at h
      refine mm_iinc (j := 4) (v := y5 + 1) (lv' := [(5, .int (y5 + 1)), (0, .ref 164), (1, .int y1), (2, .int y2), (3, .long y3)]) dX12_bakerFor_68 rfl rfl (by decide) rfl ?_
      refine mm_goto (tgt := 7) dX12_bakerFor_71 (by decide) ?_
      exact mm_sub [1, 2, 3, 4, 0] rfl h
    · rw [if_neg hc] at h
      refine mm_aload_n (j := 0) dX12_bakerFor_26 rfl rfl ?_
      refine mm_iload (j := 4) dX12_bakerFor_27 rfl ?_
      refine mm_kVI [.int y5] dX12_bakerFor_29 kX12_474 rfl sh_164 (by decide) (by decide) h (fun z29 m29 hG h => ?_)
      refine mm_if_ne (tgt := 38) dX12_bakerFor_32 (by decide) (fun hc => ?_) (fun hc => ?_)
      · rw [if_neg hc] at h
        refine mm_aload_n (j := 0) dX12_bakerFor_38 rfl rfl ?_
        refine mm_iload (j := 4) dX12_bakerFor_39 rfl ?_
        refine mm_iload_n (j := 1) dX12_bakerFor_41 rfl rfl ?_
        refine mm_kVL [.int y5, .int y1] dX12_bakerFor_42 kX12_477 rfl sh_164 (by decide) (by decide) h (fun z42 m42 hG h => ?_)
        refine mm_lstore (lv' := [(6, .long z42), (0, .ref 164), (1, .int y1), (2, .int y2), (3, .long y3), (5, .int y5)]) dX12_bakerFor_45 (by decide) rfl ?_
        refine mm_iload_n (j := 3) dX12_bakerFor_47 rfl rfl ?_
        refine mm_iconst (x := (-1)) dX12_bakerFor_48 rfl ?_
        refine mm_icmp_eq (tgt := 62) dX12_bakerFor_49 (by decide) (fun hc => ?_) (fun hc => ?_)
        · rw [if_pos hc] at h
          refine mm_iload (j := 5) dX12_bakerFor_62 rfl ?_
          refine mm_istore_n (lv' := [(2, .int y5), (6, .long z42), (0, .ref 164), (1, .int y1), (3, .long y3), (5, .int y5)]) dX12_bakerFor_64 rfl (by decide) rfl ?_
          refine mm_lload (j := 1) dX12_bakerFor_65 rfl ?_
          refine mm_lstore_n (lv' := [(3, .long z42), (2, .int y5), (6, .long z42), (0, .ref 164), (1, .int y1), (5, .int y5)]) dX12_bakerFor_67 rfl (by decide) rfl ?_
          refine mm_iinc (j := 5) (v := y5 + 1) (lv' := [(5, .int (y5 + 1)), (3, .long z42), (2, .int y5), (6, .long z42), (0, .ref 164), (1, .int y1)]) dX12_bakerFor_68 rfl rfl (by decide) rfl ?_
          refine mm_goto (tgt := 7) dX12_bakerFor_71 (by decide) ?_
          exact mm_sub [4, 5, 2, 1, 0] rfl h
        · rw [if_neg hc] at h
          refine mm_lload (j := 0) dX12_bakerFor_52 rfl ?_
          refine mm_lload_n (j := 4) dX12_bakerFor_54 rfl rfl ?_
          refine mm_lcmp dX12_bakerFor_55 ?_
          refine mm_if_gt (tgt := 62) dX12_bakerFor_56 (by decide) (fun hc => ?_) (fun hc => ?_)
          · rw [if_pos (lgc_gt.mp hc)] at h
            refine mm_iload (j := 5) dX12_bakerFor_62 rfl ?_
            refine mm_istore_n (lv' := [(2, .int y5), (6, .long z42), (0, .ref 164), (1, .int y1), (3, .long y3), (5, .int y5)]) dX12_bakerFor_64 rfl (by decide) rfl ?_
            refine mm_lload (j := 1) dX12_bakerFor_65 rfl ?_
            refine mm_lstore_n (lv' := [(3, .long z42), (2, .int y5), (6, .long z42), (0, .ref 164), (1, .int y1), (5, .int y5)]) dX12_bakerFor_67 rfl (by decide) rfl ?_
            refine mm_iinc (j := 5) (v := y5 + 1) (lv' := [(5, .int (y5 + 1)), (3, .long z42), (2, .int y5), (6, .long z42), (0, .ref 164), (1, .int y1)]) dX12_bakerFor_68 rfl rfl (by decide) rfl ?_
            refine mm_goto (tgt := 7) dX12_bakerFor_71 (by decide) ?_
            exact mm_sub [4, 5, 2, 1, 0] rfl h
          · rw [if_neg (fun q => hc (lgc_gt.mpr q))] at h
            refine mm_goto (tgt := 68) dX12_bakerFor_59 (by decide) ?_
            refine mm_iinc (j := 5) (v := y5 + 1) (lv' := [(5, .int (y5 + 1)), (6, .long z42), (0, .ref 164), (1, .int y1), (2, .int y2), (3, .long y3)]) dX12_bakerFor_68 rfl rfl (by decide) rfl ?_
            refine mm_goto (tgt := 7) dX12_bakerFor_71 (by decide) ?_
            exact mm_sub [2, 3, 4, 5, 0] rfl h
      · rw [if_pos hc] at h
        refine mm_goto (tgt := 68) dX12_bakerFor_35 (by decide) ?_
        refine mm_iinc (j := 4) (v := y5 + 1) (lv' := [(5, .int (y5 + 1)), (0, .ref 164), (1, .int y1), (2, .int y2), (3, .long y3)]) dX12_bakerFor_68 rfl rfl (by decide) rfl ?_
        refine mm_goto (tgt := 7) dX12_bakerFor_71 (by decide) ?_
        exact mm_sub [1, 2, 3, 4, 0] rfl h
def jX12_isKept_64 (d : Nat) (x1 : Int32) (x2 : Int32) (M : mm_M) (K : mm_M → Prop) (y1 : Int32) (y2 : Int32) : Prop := mm_W mX12_isKept d 0 0 64 [(0, .ref 164), (1, .int y1), (2, .int y2)] [] mm_SH M 0 0 (mm_PV K)
def jX12_isKept_23 (d : Nat) (x1 : Int32) (x2 : Int32) (M : mm_M) (K : mm_M → Prop) (y1 : Int32) (y2 : Int32) (y3 : Int32) : Prop := mm_W mX12_isKept d 0 0 23 [(0, .ref 164), (1, .int y1), (2, .int y2), (3, .int y3)] [] mm_SH M 0 0 (mm_PV K)
set_option maxRecDepth 100000 in
set_option maxHeartbeats 4000000 in
theorem rX12_isKept {d : Nat} {x1 : Int32} {x2 : Int32} {M : mm_M} {K : mm_M → Prop} (hG : mm_G M.2.2) (h : if (M.1 164 57) = 0 then (if (M.1 199 (43).toNatClampNeg) = 40 then (jX12_isKept_23 d x1 x2 M K x1 x2 44) else (jX12_isKept_64 d x1 x2 (mm_uI M 199 (43).toNatClampNeg ((M.1 199 (43).toNatClampNeg) + 1)) K x1 x2)) else (K M)) : mm_CV mX12_isKept d [.ref 164, .int x1, .int x2] M K := by
  show mm_W mX12_isKept d 0 0 0 [(0, .ref 164), (1, .int x1), (2, .int x2)] [] mm_SH M 0 0 (mm_PV K)
  refine mm_aload_n (j := 0) dX12_isKept_0 rfl rfl ?_
  refine mm_getI (ci := 12) (N := 116) dX12_isKept_1 fX12_480 sh_164 rfl ?_
  refine mm_if_eq (tgt := 8) dX12_isKept_4 (by decide) (fun hc => ?_) (fun hc => ?_)
  · rw [if_pos hc] at h
    refine mm_aload_n (j := 0) dX12_isKept_8 rfl rfl ?_
    refine mm_getR (ci := 12) (N := 116) (r := 199) dX12_isKept_9 fX12_118 sh_164 rfl (g_164_50 hG) ?_
    refine mm_bipush (x := 43) dX12_isKept_12 rfl ?_
    refine mm_iaload (N := 204) dX12_isKept_14 sh_199 (by decide) ?_
    refine mm_bipush (x := 40) dX12_isKept_15 rfl ?_
    refine mm_icmp_ne (tgt := 53) dX12_isKept_17 (by decide) (fun hc => ?_) (fun hc => ?_)
    · rw [if_neg hc] at h
      refine mm_aload_n (j := 0) dX12_isKept_53 rfl rfl ?_
      refine mm_getR (ci := 12) (N := 116) (r := 199) dX12_isKept_54 fX12_118 sh_164 rfl (g_164_50 hG) ?_
      refine mm_bipush (x := 43) dX12_isKept_57 rfl ?_
      refine mm_dup2 dX12_isKept_59 rfl rfl ?_
      refine mm_iaload (N := 204) dX12_isKept_60 sh_199 (by decide) ?_
      refine mm_iconst (x := 1) dX12_isKept_61 rfl ?_
      refine mm_iadd dX12_isKept_62 ?_
      refine mm_iastore (N := 204) dX12_isKept_63 sh_199 (by decide) ?_
      exact h
    · rw [if_pos hc] at h
      refine mm_bipush (x := 44) dX12_isKept_20 rfl ?_
      refine mm_istore_n (lv' := [(3, .int 44), (0, .ref 164), (1, .int x1), (2, .int x2)]) dX12_isKept_22 rfl (by decide) rfl ?_
      exact mm_sub [1, 2, 3, 0] rfl h
  · rw [if_neg hc] at h
    exact mm_vret dX12_isKept_7 rfl (Nat.le_refl 0) (Nat.le_refl 0) ⟨rfl, rfl, hG, h⟩
set_option maxRecDepth 100000 in
set_option maxHeartbeats 4000000 in
theorem lX12_isKept_64 {d : Nat} {x1 : Int32} {x2 : Int32} {M : mm_M} {K : mm_M → Prop} {y1 : Int32} {y2 : Int32} (hG : mm_G M.2.2) (h : vp_in ((44 + (4 * (M.1 199 (43).toNatClampNeg))) - 4) 204 ∧ vp_in (((44 + (4 * (M.1 199 (43).toNatClampNeg))) - 4) + 1) 204 ∧ vp_in (((44 + (4 * (M.1 199 (43).toNatClampNeg))) - 4) + 2) 204 ∧ vp_in y2 7 ∧ vp_in (((44 + (4 * (M.1 199 (43).toNatClampNeg))) - 4) + 3) 204 ∧ K (mm_uI (mm_uI (mm_uI (mm_uI M 199 ((44 + (4 * (M.1 199 (43).toNatClampNeg))) - 4).toNatClampNeg (M.1 199 (0).toNatClampNeg)) 199 (((44 + (4 * (M.1 199 (43).toNatClampNeg))) - 4) + 1).toNatClampNeg y1) 199 (((44 + (4 * (M.1 199 (43).toNatClampNeg))) - 4) + 2).toNatClampNeg y2) 199 (((44 + (4 * (M.1 199 (43).toNatClampNeg))) - 4) + 3).toNatClampNeg ((mm_uI (mm_uI (mm_uI M 199 ((44 + (4 * (M.1 199 (43).toNatClampNeg))) - 4).toNatClampNeg (M.1 199 (0).toNatClampNeg)) 199 (((44 + (4 * (M.1 199 (43).toNatClampNeg))) - 4) + 1).toNatClampNeg y1) 199 (((44 + (4 * (M.1 199 (43).toNatClampNeg))) - 4) + 2).toNatClampNeg y2).1 203 (y2).toNatClampNeg))) : jX12_isKept_64 d x1 x2 M K y1 y2 := by
  unfold jX12_isKept_64
  refine mm_bipush (x := 44) dX12_isKept_64 rfl ?_
  refine mm_iconst (x := 4) dX12_isKept_66 rfl ?_
  refine mm_aload_n (j := 0) dX12_isKept_67 rfl rfl ?_
  refine mm_getR (ci := 12) (N := 116) (r := 199) dX12_isKept_68 fX12_118 sh_164 rfl (g_164_50 hG) ?_
  refine mm_bipush (x := 43) dX12_isKept_71 rfl ?_
  refine mm_iaload (N := 204) dX12_isKept_73 sh_199 (by decide) ?_
  refine mm_imul dX12_isKept_74 ?_
  refine mm_iadd dX12_isKept_75 ?_
  refine mm_iconst (x := 4) dX12_isKept_76 rfl ?_
  refine mm_isub dX12_isKept_77 ?_
  refine mm_istore_n (lv' := [(3, .int ((44 + (4 * (M.1 199 (43).toNatClampNeg))) - 4)), (0, .ref 164), (1, .int y1), (2, .int y2)]) dX12_isKept_78 rfl (by decide) rfl ?_
  refine mm_aload_n (j := 1) dX12_isKept_79 rfl rfl ?_
  refine mm_getR (ci := 12) (N := 116) (r := 199) dX12_isKept_80 fX12_118 sh_164 rfl (g_164_50 hG) ?_
  refine mm_iload_n (j := 0) dX12_isKept_83 rfl rfl ?_
  refine mm_aload_n (j := 1) dX12_isKept_84 rfl rfl ?_
  refine mm_getR (ci := 12) (N := 116) (r := 199) dX12_isKept_85 fX12_118 sh_164 rfl (g_164_50 hG) ?_
  refine mm_iconst (x := 0) dX12_isKept_88 rfl ?_
  refine mm_iaload (N := 204) dX12_isKept_89 sh_199 (by decide) ?_
  obtain ⟨hi90, h⟩ := h
  refine mm_iastore (N := 204) dX12_isKept_90 sh_199 hi90 ?_
  refine mm_aload_n (j := 1) dX12_isKept_91 rfl rfl ?_
  refine mm_getR (ci := 12) (N := 116) (r := 199) dX12_isKept_92 fX12_118 sh_164 rfl (g_164_50 hG) ?_
  refine mm_iload_n (j := 0) dX12_isKept_95 rfl rfl ?_
  refine mm_iconst (x := 1) dX12_isKept_96 rfl ?_
  refine mm_iadd dX12_isKept_97 ?_
  refine mm_iload_n (j := 2) dX12_isKept_98 rfl rfl ?_
  obtain ⟨hi99, h⟩ := h
  refine mm_iastore (N := 204) dX12_isKept_99 sh_199 hi99 ?_
  refine mm_aload_n (j := 1) dX12_isKept_100 rfl rfl ?_
  refine mm_getR (ci := 12) (N := 116) (r := 199) dX12_isKept_101 fX12_118 sh_164 rfl (g_164_50 hG) ?_
  refine mm_iload_n (j := 0) dX12_isKept_104 rfl rfl ?_
  refine mm_iconst (x := 2) dX12_isKept_105 rfl ?_
  refine mm_iadd dX12_isKept_106 ?_
  refine mm_iload_n (j := 3) dX12_isKept_107 rfl rfl ?_
  obtain ⟨hi108, h⟩ := h
  refine mm_iastore (N := 204) dX12_isKept_108 sh_199 hi108 ?_
  refine mm_aload_n (j := 1) dX12_isKept_109 rfl rfl ?_
  refine mm_getR (ci := 12) (N := 116) (r := 199) dX12_isKept_110 fX12_118 sh_164 rfl (g_164_50 hG) ?_
  refine mm_iload_n (j := 0) dX12_isKept_113 rfl rfl ?_
  refine mm_iconst (x := 3) dX12_isKept_114 rfl ?_
  refine mm_iadd dX12_isKept_115 ?_
  refine mm_aload_n (j := 1) dX12_isKept_116 rfl rfl ?_
  refine mm_getR (ci := 12) (N := 116) (r := 203) dX12_isKept_117 fX12_130 sh_164 rfl (g_164_62 hG) ?_
  refine mm_iload_n (j := 3) dX12_isKept_120 rfl rfl ?_
  obtain ⟨hi121, h⟩ := h
  refine mm_iaload (N := 7) dX12_isKept_121 sh_203 hi121 ?_
  obtain ⟨hi122, h⟩ := h
  refine mm_iastore (N := 204) dX12_isKept_122 sh_199 hi122 ?_
  exact mm_vret dX12_isKept_123 rfl (Nat.le_refl 0) (Nat.le_refl 0) ⟨rfl, rfl, hG, h⟩
set_option maxRecDepth 100000 in
set_option maxHeartbeats 4000000 in
theorem lX12_isKept_23 {d : Nat} {x1 : Int32} {x2 : Int32} {M : mm_M} {K : mm_M → Prop} {y1 : Int32} {y2 : Int32} {y3 : Int32} (hG : mm_G M.2.2) (h : if 200 ≤ y3 then (jX12_isKept_64 d x1 x2 M K y1 y2) else (vp_in (y3 + 4) 204 ∧ vp_in y3 204 ∧ jX12_isKept_23 d x1 x2 (mm_uI M 199 (y3).toNatClampNeg (M.1 199 (y3 + 4).toNatClampNeg)) K y1 y2 (y3 + 1))) : jX12_isKept_23 d x1 x2 M K y1 y2 y3 := by
  unfold jX12_isKept_23
  refine mm_iload_n (j := 3) dX12_isKept_23 rfl rfl ?_
  refine mm_sipush (x := 200) dX12_isKept_24 rfl ?_
  refine mm_icmp_ge (tgt := 50) dX12_isKept_27 (by decide) (fun hc => ?_) (fun hc => ?_)
  · rw [if_pos hc] at h
    refine mm_goto (tgt := 64) dX12_isKept_50 (by decide) ?_
    exact mm_sub [0, 1, 2] rfl h
  · rw [if_neg hc] at h
    refine mm_aload_n (j := 0) dX12_isKept_30 rfl rfl ?_
    refine mm_getR (ci := 12) (N := 116) (r := 199) dX12_isKept_31 fX12_118 sh_164 rfl (g_164_50 hG) ?_
    refine mm_iload_n (j := 3) dX12_isKept_34 rfl rfl ?_
    refine mm_aload_n (j := 0) dX12_isKept_35 rfl rfl ?_
    refine mm_getR (ci := 12) (N := 116) (r := 199) dX12_isKept_36 fX12_118 sh_164 rfl (g_164_50 hG) ?_
    refine mm_iload_n (j := 3) dX12_isKept_39 rfl rfl ?_
    refine mm_iconst (x := 4) dX12_isKept_40 rfl ?_
    refine mm_iadd dX12_isKept_41 ?_
    obtain ⟨hi42, h⟩ := h
    refine mm_iaload (N := 204) dX12_isKept_42 sh_199 hi42 ?_
    obtain ⟨hi43, h⟩ := h
    refine mm_iastore (N := 204) dX12_isKept_43 sh_199 hi43 ?_
    refine mm_iinc (j := 3) (v := y3 + 1) (lv' := [(3, .int (y3 + 1)), (0, .ref 164), (1, .int y1), (2, .int y2)]) dX12_isKept_44 rfl rfl (by decide) rfl ?_
    refine mm_goto (tgt := 23) dX12_isKept_47 (by decide) ?_
    exact mm_sub [1, 2, 3, 0] rfl h
set_option maxRecDepth 100000 in
set_option maxHeartbeats 4000000 in
theorem rX12_eats {d : Nat} {x1 : Int32} {M : mm_M} {K : mm_M → Prop} (hG : mm_G M.2.2) (h : mm_CI mX12_bakerFor d [.ref 164, .int x1] M (fun z2 m2 => vp_in x1 7 ∧ if z2 = (-1) then (mm_CI mX12_hungerOf d [.ref 164, .int x1] (mm_uI m2 202 (x1).toNatClampNeg z2) (fun z20 m20 => if 9 ≤ z20 then (K m20) else (vp_in (3 + (3 * x1)) 204 ∧ vp_in (3 + (3 * x1)) 204 ∧ K (mm_uI m20 199 (3 + (3 * x1)).toNatClampNeg ((m20.1 199 (3 + (3 * x1)).toNatClampNeg) + 1))))) else (mm_CI mX12_tasteOf d [.ref 164, .int z2, .int x1] (mm_uI m2 202 (x1).toNatClampNeg z2) (fun z51 m51 => vp_in x1 7 ∧ vp_in (2 + (3 * z2)) 204 ∧ vp_in (2 + (3 * z2)) 204 ∧ vp_in (3 + (3 * x1)) 204 ∧ mm_CI mX12_pairOf d [.int z2, .int x1] (mm_uI (mm_uI (mm_uI (mm_uI m51 203 (x1).toNatClampNeg z51) 199 (2 + (3 * z2)).toNatClampNeg (((mm_uI m51 203 (x1).toNatClampNeg z51).1 199 (2 + (3 * z2)).toNatClampNeg) - ((mm_uI m51 203 (x1).toNatClampNeg z51).1 191 (2).toNatClampNeg))) 199 (3 + (3 * x1)).toNatClampNeg 0) 164 60 (((mm_uI (mm_uI (mm_uI m51 203 (x1).toNatClampNeg z51) 199 (2 + (3 * z2)).toNatClampNeg (((mm_uI m51 203 (x1).toNatClampNeg z51).1 199 (2 + (3 * z2)).toNatClampNeg) - ((mm_uI m51 203 (x1).toNatClampNeg z51).1 191 (2).toNatClampNeg))) 199 (3 + (3 * x1)).toNatClampNeg 0).1 164 60) ||| (1 <<< (z2 &&& 31)))) (fun z103 m103 => vp_in z103 21 ∧ vp_in z103 21 ∧ mm_CV mX12_isKept d [.ref 164, .int z2, .int x1] (mm_uI (mm_uI m103 204 (z103).toNatClampNeg ((m103.1 204 (z103).toNatClampNeg) + 1)) 164 58 (((mm_uI m103 204 (z103).toNatClampNeg ((m103.1 204 (z103).toNatClampNeg) + 1)).1 164 58) + 1)) (fun m124 => K m124)))))) : mm_CV mX12_eats (d + 1) [.ref 164, .int x1] M K := by
  show mm_W mX12_eats (d + 1) 0 0 0 [(0, .ref 164), (1, .int x1)] [] mm_SH M 0 0 (mm_PV K)
  refine mm_aload_n (j := 0) dX12_eats_0 rfl rfl ?_
  refine mm_iload_n (j := 1) dX12_eats_1 rfl rfl ?_
  refine mm_kVI [.int x1] dX12_eats_2 kX12_483 rfl sh_164 (by decide) (by decide) h (fun z2 m2 hG h => ?_)
  refine mm_istore_n (lv' := [(2, .int z2), (0, .ref 164), (1, .int x1)]) dX12_eats_5 rfl (by decide) rfl ?_
  refine mm_aload_n (j := 1) dX12_eats_6 rfl rfl ?_
  refine mm_getR (ci := 12) (N := 116) (r := 202) dX12_eats_7 fX12_127 sh_164 rfl (g_164_61 hG) ?_
  refine mm_iload_n (j := 2) dX12_eats_10 rfl rfl ?_
  refine mm_iload_n (j := 0) dX12_eats_11 rfl rfl ?_
  obtain ⟨hi12, h⟩ := h
  refine mm_iastore (N := 7) dX12_eats_12 sh_202 hi12 ?_
  refine mm_iload_n (j := 0) dX12_eats_13 rfl rfl ?_
  refine mm_iconst (x := (-1)) dX12_eats_14 rfl ?_
  refine mm_icmp_ne (tgt := 43) dX12_eats_15 (by decide) (fun hc => ?_) (fun hc => ?_)
  · rw [if_neg hc] at h
    refine mm_aload_n (j := 1) dX12_eats_43 rfl rfl ?_
    refine mm_getR (ci := 12) (N := 116) (r := 203) dX12_eats_44 fX12_130 sh_164 rfl (g_164_62 hG) ?_
    refine mm_iload_n (j := 2) dX12_eats_47 rfl rfl ?_
    refine mm_aload_n (j := 1) dX12_eats_48 rfl rfl ?_
    refine mm_iload_n (j := 0) dX12_eats_49 rfl rfl ?_
    refine mm_iload_n (j := 2) dX12_eats_50 rfl rfl ?_
    refine mm_kVI [.int z2, .int x1] dX12_eats_51 kX12_486 rfl sh_164 (by decide) (by decide) h (fun z51 m51 hG h => ?_)
    obtain ⟨hi54, h⟩ := h
    refine mm_iastore (N := 7) dX12_eats_54 sh_203 hi54 ?_
    refine mm_aload_n (j := 1) dX12_eats_55 rfl rfl ?_
    refine mm_getR (ci := 12) (N := 116) (r := 199) dX12_eats_56 fX12_118 sh_164 rfl (g_164_50 hG) ?_
    refine mm_iconst (x := 2) dX12_eats_59 rfl ?_
    refine mm_iconst (x := 3) dX12_eats_60 rfl ?_
    refine mm_iload_n (j := 0) dX12_eats_61 rfl rfl ?_
    refine mm_imul dX12_eats_62 ?_
    refine mm_iadd dX12_eats_63 ?_
    refine mm_dup2 dX12_eats_64 rfl rfl ?_
    obtain ⟨hi65, h⟩ := h
    refine mm_iaload (N := 204) dX12_eats_65 sh_199 hi65 ?_
    refine mm_aload_n (j := 1) dX12_eats_66 rfl rfl ?_
    refine mm_getR (ci := 12) (N := 116) (r := 191) dX12_eats_67 fX12_93 sh_164 rfl (g_164_36 hG) ?_
    refine mm_iconst (x := 2) dX12_eats_70 rfl ?_
    refine mm_iaload (N := 4) dX12_eats_71 sh_191 (by decide) ?_
    refine mm_isub dX12_eats_72 ?_
    obtain ⟨hi73, h⟩ := h
    refine mm_iastore (N := 204) dX12_eats_73 sh_199 hi73 ?_
    refine mm_aload_n (j := 1) dX12_eats_74 rfl rfl ?_
    refine mm_getR (ci := 12) (N := 116) (r := 199) dX12_eats_75 fX12_118 sh_164 rfl (g_164_50 hG) ?_
    refine mm_iconst (x := 3) dX12_eats_78 rfl ?_
    refine mm_iconst (x := 3) dX12_eats_79 rfl ?_
    refine mm_iload_n (j := 2) dX12_eats_80 rfl rfl ?_
    refine mm_imul dX12_eats_81 ?_
    refine mm_iadd dX12_eats_82 ?_
    refine mm_iconst (x := 0) dX12_eats_83 rfl ?_
    obtain ⟨hi84, h⟩ := h
    refine mm_iastore (N := 204) dX12_eats_84 sh_199 hi84 ?_
    refine mm_aload_n (j := 1) dX12_eats_85 rfl rfl ?_
    refine mm_dup dX12_eats_86 rfl ?_
    refine mm_getI (ci := 12) (N := 116) dX12_eats_87 fX12_471 sh_164 rfl ?_
    refine mm_iconst (x := 1) dX12_eats_90 rfl ?_
    refine mm_iload_n (j := 0) dX12_eats_91 rfl rfl ?_
    refine mm_ishl dX12_eats_92 ?_
    refine mm_ior dX12_eats_93 ?_
    refine mm_putI (ci := 12) (N := 116) dX12_eats_94 fX12_471 sh_164 (by decide +kernel) rfl rfl rfl ?_
    refine mm_aload_n (j := 1) dX12_eats_97 rfl rfl ?_
    refine mm_getR (ci := 12) (N := 116) (r := 204) dX12_eats_98 fX12_133 sh_164 rfl (g_164_63 hG) ?_
    refine mm_iload_n (j := 0) dX12_eats_101 rfl rfl ?_
    refine mm_iload_n (j := 2) dX12_eats_102 rfl rfl ?_
    refine mm_kSI [.int z2, .int x1] dX12_eats_103 kX12_347 rfl (by decide) (by decide) h (fun z103 m103 hG h => ?_)
    refine mm_dup2 dX12_eats_106 rfl rfl ?_
    obtain ⟨hi107, h⟩ := h
    refine mm_iaload (N := 21) dX12_eats_107 sh_204 hi107 ?_
    refine mm_iconst (x := 1) dX12_eats_108 rfl ?_
    refine mm_iadd dX12_eats_109 ?_
    obtain ⟨hi110, h⟩ := h
    refine mm_iastore (N := 21) dX12_eats_110 sh_204 hi110 ?_
    refine mm_aload_n (j := 1) dX12_eats_111 rfl rfl ?_
    refine mm_dup dX12_eats_112 rfl ?_
    refine mm_getI (ci := 12) (N := 116) dX12_eats_113 fX12_489 sh_164 rfl ?_
    refine mm_iconst (x := 1) dX12_eats_116 rfl ?_
    refine mm_iadd dX12_eats_117 ?_
    refine mm_putI (ci := 12) (N := 116) dX12_eats_118 fX12_489 sh_164 (by decide +kernel) rfl rfl rfl ?_
    refine mm_aload_n (j := 1) dX12_eats_121 rfl rfl ?_
    refine mm_iload_n (j := 0) dX12_eats_122 rfl rfl ?_
    refine mm_iload_n (j := 2) dX12_eats_123 rfl rfl ?_
    refine mm_kVV [.int z2, .int x1] dX12_eats_124 kX12_492 rfl sh_164 (by decide) (by decide) h (fun m124 hG h => ?_)
    exact mm_vret dX12_eats_127 rfl (Nat.le_refl 0) (Nat.le_refl 0) ⟨rfl, rfl, hG, h⟩
  · rw [if_pos hc] at h
    refine mm_aload_n (j := 1) dX12_eats_18 rfl rfl ?_
    refine mm_iload_n (j := 2) dX12_eats_19 rfl rfl ?_
    refine mm_kVI [.int x1] dX12_eats_20 kX12_459 rfl sh_164 (by decide) (by decide) h (fun z20 m20 hG h => ?_)
    refine mm_bipush (x := 9) dX12_eats_23 rfl ?_
    refine mm_icmp_ge (tgt := 42) dX12_eats_25 (by decide) (fun hc => ?_) (fun hc => ?_)
    · rw [if_pos hc] at h
      exact mm_vret dX12_eats_42 rfl (Nat.le_refl 0) (Nat.le_refl 0) ⟨rfl, rfl, hG, h⟩
    · rw [if_neg hc] at h
      refine mm_aload_n (j := 1) dX12_eats_28 rfl rfl ?_
      refine mm_getR (ci := 12) (N := 116) (r := 199) dX12_eats_29 fX12_118 sh_164 rfl (g_164_50 hG) ?_
      refine mm_iconst (x := 3) dX12_eats_32 rfl ?_
      refine mm_iconst (x := 3) dX12_eats_33 rfl ?_
      refine mm_iload_n (j := 2) dX12_eats_34 rfl rfl ?_
      refine mm_imul dX12_eats_35 ?_
      refine mm_iadd dX12_eats_36 ?_
      refine mm_dup2 dX12_eats_37 rfl rfl ?_
      obtain ⟨hi38, h⟩ := h
      refine mm_iaload (N := 204) dX12_eats_38 sh_199 hi38 ?_
      refine mm_iconst (x := 1) dX12_eats_39 rfl ?_
      refine mm_iadd dX12_eats_40 ?_
      obtain ⟨hi41, h⟩ := h
      refine mm_iastore (N := 204) dX12_eats_41 sh_199 hi41 ?_
      exact mm_vret dX12_eats_42 rfl (Nat.le_refl 0) (Nat.le_refl 0) ⟨rfl, rfl, hG, h⟩
def jX12_allEat_7 (d : Nat) (M : mm_M) (K : mm_M → Prop) (y1 : Int32) : Prop := mm_W mX12_allEat (d + 1) 0 0 7 [(0, .ref 164), (1, .int y1)] [] mm_SH M 0 0 (mm_PV K)
def jX12_allEat_28 (d : Nat) (M : mm_M) (K : mm_M → Prop) (y1 : Int32) : Prop := mm_W mX12_allEat (d + 1) 0 0 28 [(0, .ref 164), (1, .int y1)] [] mm_SH M 0 0 (mm_PV K)
set_option maxRecDepth 100000 in
set_option maxHeartbeats 4000000 in
theorem rX12_allEat {d : Nat} {M : mm_M} {K : mm_M → Prop} (hG : mm_G M.2.2) (h : jX12_allEat_7 d (mm_uI M 164 60 0) K 0) : mm_CV mX12_allEat (d + 1) [.ref 164] M K := by
  show mm_W mX12_allEat (d + 1) 0 0 0 [(0, .ref 164)] [] mm_SH M 0 0 (mm_PV K)
  refine mm_aload_n (j := 0) dX12_allEat_0 rfl rfl ?_
  refine mm_iconst (x := 0) dX12_allEat_1 rfl ?_
  refine mm_putI (ci := 12) (N := 116) dX12_allEat_2 fX12_471 sh_164 (by decide +kernel) rfl rfl rfl ?_
  refine mm_iconst (x := 0) dX12_allEat_5 rfl ?_
  refine mm_istore_n (lv' := [(1, .int 0), (0, .ref 164)]) dX12_allEat_6 rfl (by decide) rfl ?_
  exact mm_sub [1, 0] rfl h
set_option maxRecDepth 100000 in
set_option maxHeartbeats 4000000 in
theorem lX12_allEat_7 {d : Nat} {M : mm_M} {K : mm_M → Prop} {y1 : Int32} (hG : mm_G M.2.2) (h : if 21 ≤ y1 then (jX12_allEat_28 d M K 0) else (vp_in y1 21 ∧ jX12_allEat_7 d (mm_uI M 204 (y1).toNatClampNeg 0) K (y1 + 1))) : jX12_allEat_7 d  M K y1 := by
  unfold jX12_allEat_7
  refine mm_iload_n (j := 1) dX12_allEat_7 rfl rfl ?_
  refine mm_bipush (x := 21) dX12_allEat_8 rfl ?_
  refine mm_icmp_ge (tgt := 26) dX12_allEat_10 (by decide) (fun hc => ?_) (fun hc => ?_)
  · rw [if_pos hc] at h
    refine mm_iconst (x := 0) dX12_allEat_26 rfl ?_
    refine mm_istore_n (lv' := [(1, .int 0), (0, .ref 164)]) dX12_allEat_27 rfl (by decide) rfl ?_
    exact mm_sub [1, 0] rfl h
  · rw [if_neg hc] at h
    refine mm_aload_n (j := 0) dX12_allEat_13 rfl rfl ?_
    refine mm_getR (ci := 12) (N := 116) (r := 204) dX12_allEat_14 fX12_133 sh_164 rfl (g_164_63 hG) ?_
    refine mm_iload_n (j := 1) dX12_allEat_17 rfl rfl ?_
    refine mm_iconst (x := 0) dX12_allEat_18 rfl ?_
    obtain ⟨hi19, h⟩ := h
    refine mm_iastore (N := 21) dX12_allEat_19 sh_204 hi19 ?_
    refine mm_iinc (j := 1) (v := y1 + 1) (lv' := [(1, .int (y1 + 1)), (0, .ref 164)]) dX12_allEat_20 rfl rfl (by decide) rfl ?_
    refine mm_goto (tgt := 7) dX12_allEat_23 (by decide) ?_
    exact mm_sub [1, 0] rfl h
set_option maxRecDepth 100000 in
set_option maxHeartbeats 4000000 in
theorem lX12_allEat_28 {d : Nat} {M : mm_M} {K : mm_M → Prop} {y1 : Int32} (hG : mm_G M.2.2) (h : mm_CI mX12_houseMany d [.ref 164] M (fun z30 m30 => if z30 ≤ y1 then (K m30) else (vp_in y1 7 ∧ mm_CI mX12_isThere d [.ref 164, .int y1] (mm_uI m30 202 (y1).toNatClampNeg (-1)) (fun z45 m45 => if z45 = 0 then (jX12_allEat_28 d m45 K (y1 + 1)) else (mm_CV mX12_eats d [.ref 164, .int y1] m45 (fun m53 => jX12_allEat_28 d m53 K (y1 + 1))))))) : jX12_allEat_28 d  M K y1 := by
  unfold jX12_allEat_28
  refine mm_iload_n (j := 1) dX12_allEat_28 rfl rfl ?_
  refine mm_aload_n (j := 0) dX12_allEat_29 rfl rfl ?_
  refine mm_kVI [] dX12_allEat_30 kX12_412 rfl sh_164 (by decide) (by decide) h (fun z30 m30 hG h => ?_)
  refine mm_icmp_ge (tgt := 62) dX12_allEat_33 (by decide) (fun hc => ?_) (fun hc => ?_)
  · rw [if_pos hc] at h
    exact mm_vret dX12_allEat_62 rfl (Nat.le_refl 0) (Nat.le_refl 0) ⟨rfl, rfl, hG, h⟩
  · rw [if_neg hc] at h
    refine mm_aload_n (j := 0) dX12_allEat_36 rfl rfl ?_
    refine mm_getR (ci := 12) (N := 116) (r := 202) dX12_allEat_37 fX12_127 sh_164 rfl (g_164_61 hG) ?_
    refine mm_iload_n (j := 1) dX12_allEat_40 rfl rfl ?_
    refine mm_iconst (x := (-1)) dX12_allEat_41 rfl ?_
    obtain ⟨hi42, h⟩ := h
    refine mm_iastore (N := 7) dX12_allEat_42 sh_202 hi42 ?_
    refine mm_aload_n (j := 0) dX12_allEat_43 rfl rfl ?_
    refine mm_iload_n (j := 1) dX12_allEat_44 rfl rfl ?_
    refine mm_kVI [.int y1] dX12_allEat_45 kX12_462 rfl sh_164 (by decide) (by decide) h (fun z45 m45 hG h => ?_)
    refine mm_if_eq (tgt := 56) dX12_allEat_48 (by decide) (fun hc => ?_) (fun hc => ?_)
    · rw [if_pos hc] at h
      refine mm_iinc (j := 1) (v := y1 + 1) (lv' := [(1, .int (y1 + 1)), (0, .ref 164)]) dX12_allEat_56 rfl rfl (by decide) rfl ?_
      refine mm_goto (tgt := 28) dX12_allEat_59 (by decide) ?_
      exact mm_sub [1, 0] rfl h
    · rw [if_neg hc] at h
      refine mm_aload_n (j := 0) dX12_allEat_51 rfl rfl ?_
      refine mm_iload_n (j := 1) dX12_allEat_52 rfl rfl ?_
      refine mm_kVV [.int y1] dX12_allEat_53 kX12_495 rfl sh_164 (by decide) (by decide) h (fun m53 hG h => ?_)
      refine mm_iinc (j := 1) (v := y1 + 1) (lv' := [(1, .int (y1 + 1)), (0, .ref 164)]) dX12_allEat_56 rfl rfl (by decide) rfl ?_
      refine mm_goto (tgt := 28) dX12_allEat_59 (by decide) ?_
      exact mm_sub [1, 0] rfl h
def jX12_isGone_13 (d : Nat) (x1 : Int32) (M : mm_M) (K : mm_M → Prop) (y1 : Int32) (y2 : Int32) : Prop := mm_W mX12_isGone (d + 1) 0 0 13 [(0, .ref 164), (1, .int y1), (2, .int y2)] [] mm_SH M 0 0 (mm_PV K)
set_option maxRecDepth 100000 in
set_option maxHeartbeats 4000000 in
theorem rX12_isGone {d : Nat} {x1 : Int32} {M : mm_M} {K : mm_M → Prop} (hG : mm_G M.2.2) (h : vp_in (1 + (3 * x1)) 204 ∧ jX12_isGone_13 d x1 (mm_uI M 199 (1 + (3 * x1)).toNatClampNeg 0) K x1 0) : mm_CV mX12_isGone (d + 1) [.ref 164, .int x1] M K := by
  show mm_W mX12_isGone (d + 1) 0 0 0 [(0, .ref 164), (1, .int x1)] [] mm_SH M 0 0 (mm_PV K)
  refine mm_aload_n (j := 0) dX12_isGone_0 rfl rfl ?_
  refine mm_getR (ci := 12) (N := 116) (r := 199) dX12_isGone_1 fX12_118 sh_164 rfl (g_164_50 hG) ?_
  refine mm_iconst (x := 1) dX12_isGone_4 rfl ?_
  refine mm_iconst (x := 3) dX12_isGone_5 rfl ?_
  refine mm_iload_n (j := 1) dX12_isGone_6 rfl rfl ?_
  refine mm_imul dX12_isGone_7 ?_
  refine mm_iadd dX12_isGone_8 ?_
  refine mm_iconst (x := 0) dX12_isGone_9 rfl ?_
  obtain ⟨hi10, h⟩ := h
  refine mm_iastore (N := 204) dX12_isGone_10 sh_199 hi10 ?_
  refine mm_iconst (x := 0) dX12_isGone_11 rfl ?_
  refine mm_istore_n (lv' := [(2, .int 0), (0, .ref 164), (1, .int x1)]) dX12_isGone_12 rfl (by decide) rfl ?_
  exact mm_sub [1, 2, 0] rfl h
set_option maxRecDepth 100000 in
set_option maxHeartbeats 4000000 in
theorem lX12_isGone_13 {d : Nat} {x1 : Int32} {M : mm_M} {K : mm_M → Prop} {y1 : Int32} {y2 : Int32} (hG : mm_G M.2.2) (h : mm_CI mX12_houseMany d [.ref 164] M (fun z15 m15 => if z15 ≤ y2 then (K m15) else (if y2 = y1 then (jX12_isGone_13 d x1 m15 K y1 (y2 + 1)) else (mm_CI mX12_pairOf d [.int y1, .int y2] m15 (fun z34 m34 => vp_in (22 + z34) 204 ∧ jX12_isGone_13 d x1 (mm_uI m34 199 (22 + z34).toNatClampNeg 0) K y1 (y2 + 1)))))) : jX12_isGone_13 d x1 M K y1 y2 := by
  unfold jX12_isGone_13
  refine mm_iload_n (j := 2) dX12_isGone_13 rfl rfl ?_
  refine mm_aload_n (j := 0) dX12_isGone_14 rfl rfl ?_
  refine mm_kVI [] dX12_isGone_15 kX12_412 rfl sh_164 (by decide) (by decide) h (fun z15 m15 hG h => ?_)
  refine mm_icmp_ge (tgt := 46) dX12_isGone_18 (by decide) (fun hc => ?_) (fun hc => ?_)
  · rw [if_pos hc] at h
    exact mm_vret dX12_isGone_46 rfl (Nat.le_refl 0) (Nat.le_refl 0) ⟨rfl, rfl, hG, h⟩
  · rw [if_neg hc] at h
    refine mm_iload_n (j := 2) dX12_isGone_21 rfl rfl ?_
    refine mm_iload_n (j := 1) dX12_isGone_22 rfl rfl ?_
    refine mm_icmp_eq (tgt := 40) dX12_isGone_23 (by decide) (fun hc => ?_) (fun hc => ?_)
    · rw [if_pos hc] at h
      refine mm_iinc (j := 2) (v := y2 + 1) (lv' := [(2, .int (y2 + 1)), (0, .ref 164), (1, .int y1)]) dX12_isGone_40 rfl rfl (by decide) rfl ?_
      refine mm_goto (tgt := 13) dX12_isGone_43 (by decide) ?_
      exact mm_sub [1, 2, 0] rfl h
    · rw [if_neg hc] at h
      refine mm_aload_n (j := 0) dX12_isGone_26 rfl rfl ?_
      refine mm_getR (ci := 12) (N := 116) (r := 199) dX12_isGone_27 fX12_118 sh_164 rfl (g_164_50 hG) ?_
      refine mm_bipush (x := 22) dX12_isGone_30 rfl ?_
      refine mm_iload_n (j := 1) dX12_isGone_32 rfl rfl ?_
      refine mm_iload_n (j := 2) dX12_isGone_33 rfl rfl ?_
      refine mm_kSI [.int y1, .int y2] dX12_isGone_34 kX12_347 rfl (by decide) (by decide) h (fun z34 m34 hG h => ?_)
      refine mm_iadd dX12_isGone_37 ?_
      refine mm_iconst (x := 0) dX12_isGone_38 rfl ?_
      obtain ⟨hi39, h⟩ := h
      refine mm_iastore (N := 204) dX12_isGone_39 sh_199 hi39 ?_
      refine mm_iinc (j := 2) (v := y2 + 1) (lv' := [(2, .int (y2 + 1)), (0, .ref 164), (1, .int y1)]) dX12_isGone_40 rfl rfl (by decide) rfl ?_
      refine mm_goto (tgt := 13) dX12_isGone_43 (by decide) ?_
      exact mm_sub [1, 2, 0] rfl h
set_option maxRecDepth 100000 in
set_option maxHeartbeats 4000000 in
theorem rX12_cool {d : Nat} {x1 : Int32} {x2 : Int32} {M : mm_M} {K : mm_M → Prop} (hG : mm_G M.2.2) (h : mm_CI mX12_areEnemies d [.ref 164, .int x1, .int x2] M (fun z3 m3 => if z3 = 0 then (K m3) else (mm_CI mX12_isTold d [.ref 164, .int 3] m3 (fun z11 m11 => if z11 = 0 then (K m11) else (mm_CI mX12_hateOf d [.ref 164, .int x1, .int x2] m11 (fun z22 m22 => mm_CI mX12_pairOf d [.int x1, .int x2] (mm_uL m22 164 54 z22.toInt64) (fun z36 m36 => vp_in z36 21 ∧ mm_CI mX12_pairOf d [.int x1, .int x2] (mm_uI m36 164 55 (m36.1 204 (z36).toNatClampNeg)) (fun z51 m51 => mm_CL mX12_codesTell d [.ref 164, .int 3] m51 (fun z57 m57 => mm_CI mX12_cut d [.long z57] m57 (fun z60 m60 => vp_in (22 + z51) 204 ∧ K (mm_uI m60 199 (22 + z51).toNatClampNeg z60))))))))))) : mm_CV mX12_cool (d + 1) [.ref 164, .int x1, .int x2] M K := by
  show mm_W mX12_cool (d + 1) 0 0 0 [(0, .ref 164), (1, .int x1), (2, .int x2)] [] mm_SH M 0 0 (mm_PV K)
  refine mm_aload_n (j := 0) dX12_cool_0 rfl rfl ?_
  refine mm_iload_n (j := 1) dX12_cool_1 rfl rfl ?_
  refine mm_iload_n (j := 2) dX12_cool_2 rfl rfl ?_
  refine mm_kVI [.int x1, .int x2] dX12_cool_3 kX12_418 rfl sh_164 (by decide) (by decide) h (fun z3 m3 hG h => ?_)
  refine mm_if_eq (tgt := 17) dX12_cool_6 (by decide) (fun hc => ?_) (fun hc => ?_)
  · rw [if_pos hc] at h
    exact mm_vret dX12_cool_17 rfl (Nat.le_refl 0) (Nat.le_refl 0) ⟨rfl, rfl, hG, h⟩
  · rw [if_neg hc] at h
    refine mm_aload_n (j := 0) dX12_cool_9 rfl rfl ?_
    refine mm_iconst (x := 3) dX12_cool_10 rfl ?_
    refine mm_kVI [.int 3] dX12_cool_11 kX12_448 rfl sh_164 (by decide) (by decide) h (fun z11 m11 hG h => ?_)
    refine mm_if_ne (tgt := 18) dX12_cool_14 (by decide) (fun hc => ?_) (fun hc => ?_)
    · rw [if_neg hc] at h
      refine mm_aload_n (j := 0) dX12_cool_18 rfl rfl ?_
      refine mm_aload_n (j := 0) dX12_cool_19 rfl rfl ?_
      refine mm_iload_n (j := 1) dX12_cool_20 rfl rfl ?_
      refine mm_iload_n (j := 2) dX12_cool_21 rfl rfl ?_
      refine mm_kVI [.int x1, .int x2] dX12_cool_22 kX12_415 rfl sh_164 (by decide) (by decide) h (fun z22 m22 hG h => ?_)
      refine mm_i2l dX12_cool_25 ?_
      refine mm_putL (ci := 12) (N := 116) dX12_cool_26 fX12_442 sh_164 (by decide +kernel) rfl ?_
      refine mm_aload_n (j := 0) dX12_cool_29 rfl rfl ?_
      refine mm_aload_n (j := 0) dX12_cool_30 rfl rfl ?_
      refine mm_getR (ci := 12) (N := 116) (r := 204) dX12_cool_31 fX12_133 sh_164 rfl (g_164_63 hG) ?_
      refine mm_iload_n (j := 1) dX12_cool_34 rfl rfl ?_
      refine mm_iload_n (j := 2) dX12_cool_35 rfl rfl ?_
      refine mm_kSI [.int x1, .int x2] dX12_cool_36 kX12_347 rfl (by decide) (by decide) h (fun z36 m36 hG h => ?_)
      obtain ⟨hi39, h⟩ := h
      refine mm_iaload (N := 21) dX12_cool_39 sh_204 hi39 ?_
      refine mm_putI (ci := 12) (N := 116) dX12_cool_40 fX12_498 sh_164 (by decide +kernel) rfl rfl rfl ?_
      refine mm_aload_n (j := 0) dX12_cool_43 rfl rfl ?_
      refine mm_getR (ci := 12) (N := 116) (r := 199) dX12_cool_44 fX12_118 sh_164 rfl (g_164_50 hG) ?_
      refine mm_bipush (x := 22) dX12_cool_47 rfl ?_
      refine mm_iload_n (j := 1) dX12_cool_49 rfl rfl ?_
      refine mm_iload_n (j := 2) dX12_cool_50 rfl rfl ?_
      refine mm_kSI [.int x1, .int x2] dX12_cool_51 kX12_347 rfl (by decide) (by decide) h (fun z51 m51 hG h => ?_)
      refine mm_iadd dX12_cool_54 ?_
      refine mm_aload_n (j := 0) dX12_cool_55 rfl rfl ?_
      refine mm_iconst (x := 3) dX12_cool_56 rfl ?_
      refine mm_kVL [.int 3] dX12_cool_57 kX12_451 rfl sh_164 (by decide) (by decide) h (fun z57 m57 hG h => ?_)
      refine mm_kSI [.long z57] dX12_cool_60 kX12_455 rfl (by decide) (by decide) h (fun z60 m60 hG h => ?_)
      obtain ⟨hi63, h⟩ := h
      refine mm_iastore (N := 204) dX12_cool_63 sh_199 hi63 ?_
      exact mm_vret dX12_cool_64 rfl (Nat.le_refl 0) (Nat.le_refl 0) ⟨rfl, rfl, hG, h⟩
    · rw [if_pos hc] at h
      exact mm_vret dX12_cool_17 rfl (Nat.le_refl 0) (Nat.le_refl 0) ⟨rfl, rfl, hG, h⟩
set_option maxRecDepth 100000 in
set_option maxHeartbeats 4000000 in
theorem rX12_grow {d : Nat} {x1 : Int32} {M : mm_M} {K : mm_M → Prop} (hG : mm_G M.2.2) (h : mm_CI mX12_flourOf d [.ref 164, .int x1] (mm_uI (mm_uI M 164 52 x1) 164 53 x1) (fun z21 m21 => mm_CI mX12_isTold d [.ref 164, .int 4] m21 (fun z27 m27 => if z27 = 0 then (mm_CI mX12_cut d [.long (z21.toInt64 + 1)] m27 (fun z43 m43 => vp_in (2 + (3 * x1)) 204 ∧ K (mm_uI m43 199 (2 + (3 * x1)).toNatClampNeg z43))) else (mm_CL mX12_codesTell d [.ref 164, .int 4] m27 (fun z35 m35 => mm_CI mX12_cut d [.long (z21.toInt64 + z35)] m35 (fun z43 m43 => vp_in (2 + (3 * x1)) 204 ∧ K (mm_uI m43 199 (2 + (3 * x1)).toNatClampNeg z43))))))) : mm_CV mX12_grow (d + 1) [.ref 164, .int x1] M K := by
  show mm_W mX12_grow (d + 1) 0 0 0 [(0, .ref 164), (1, .int x1)] [] mm_SH M 0 0 (mm_PV K)
  refine mm_aload_n (j := 0) dX12_grow_0 rfl rfl ?_
  refine mm_iload_n (j := 1) dX12_grow_1 rfl rfl ?_
  refine mm_putI (ci := 12) (N := 116) dX12_grow_2 fX12_429 sh_164 (by decide +kernel) rfl rfl rfl ?_
  refine mm_aload_n (j := 0) dX12_grow_5 rfl rfl ?_
  refine mm_iload_n (j := 1) dX12_grow_6 rfl rfl ?_
  refine mm_putI (ci := 12) (N := 116) dX12_grow_7 fX12_439 sh_164 (by decide +kernel) rfl rfl rfl ?_
  refine mm_aload_n (j := 0) dX12_grow_10 rfl rfl ?_
  refine mm_getR (ci := 12) (N := 116) (r := 199) dX12_grow_11 fX12_118 sh_164 rfl (g_164_50 hG) ?_
  refine mm_iconst (x := 2) dX12_grow_14 rfl ?_
  refine mm_iconst (x := 3) dX12_grow_15 rfl ?_
  refine mm_iload_n (j := 1) dX12_grow_16 rfl rfl ?_
  refine mm_imul dX12_grow_17 ?_
  refine mm_iadd dX12_grow_18 ?_
  refine mm_aload_n (j := 0) dX12_grow_19 rfl rfl ?_
  refine mm_iload_n (j := 1) dX12_grow_20 rfl rfl ?_
  refine mm_kVI [.int x1] dX12_grow_21 kX12_465 rfl sh_164 (by decide) (by decide) h (fun z21 m21 hG h => ?_)
  refine mm_i2l dX12_grow_24 ?_
  refine mm_aload_n (j := 0) dX12_grow_25 rfl rfl ?_
  refine mm_iconst (x := 4) dX12_grow_26 rfl ?_
  refine mm_kVI [.int 4] dX12_grow_27 kX12_448 rfl sh_164 (by decide) (by decide) h (fun z27 m27 hG h => ?_)
  refine mm_if_eq (tgt := 41) dX12_grow_30 (by decide) (fun hc => ?_) (fun hc => ?_)
  · rw [if_pos hc] at h
    refine mm_lconst (x := 1) dX12_grow_41 rfl ?_
    refine mm_ladd dX12_grow_42 ?_
    refine mm_kSI [.long (z21.toInt64 + 1)] dX12_grow_43 kX12_455 rfl (by decide) (by decide) h (fun z43 m43 hG h => ?_)
    obtain ⟨hi46, h⟩ := h
    refine mm_iastore (N := 204) dX12_grow_46 sh_199 hi46 ?_
    exact mm_vret dX12_grow_47 rfl (Nat.le_refl 0) (Nat.le_refl 0) ⟨rfl, rfl, hG, h⟩
  · rw [if_neg hc] at h
    refine mm_aload_n (j := 0) dX12_grow_33 rfl rfl ?_
    refine mm_iconst (x := 4) dX12_grow_34 rfl ?_
    refine mm_kVL [.int 4] dX12_grow_35 kX12_451 rfl sh_164 (by decide) (by decide) h (fun z35 m35 hG h => ?_)
    refine mm_goto (tgt := 42) dX12_grow_38 (by decide) ?_
    refine mm_ladd dX12_grow_42 ?_
    refine mm_kSI [.long (z21.toInt64 + z35)] dX12_grow_43 kX12_455 rfl (by decide) (by decide) h (fun z43 m43 hG h => ?_)
    obtain ⟨hi46, h⟩ := h
    refine mm_iastore (N := 204) dX12_grow_46 sh_199 hi46 ?_
    exact mm_vret dX12_grow_47 rfl (Nat.le_refl 0) (Nat.le_refl 0) ⟨rfl, rfl, hG, h⟩
def jX12_dayGoes_6 (d : Nat) (M : mm_M) (K : mm_M → Prop) (y1 : Int32) : Prop := mm_W mX12_dayGoes (d + 1) 0 0 6 [(0, .ref 164), (1, .int y1)] [] mm_SH M 0 0 (mm_PV K)
def jX12_dayGoes_43 (d : Nat) (M : mm_M) (K : mm_M → Prop) (y1 : Int32) : Prop := mm_W mX12_dayGoes (d + 1) 0 0 43 [(0, .ref 164), (1, .int y1)] [] mm_SH M 0 0 (mm_PV K)
def jX12_dayGoes_83 (d : Nat) (M : mm_M) (K : mm_M → Prop) (y1 : Int32) : Prop := mm_W mX12_dayGoes (d + 1) 0 0 83 [(0, .ref 164), (1, .int y1)] [] mm_SH M 0 0 (mm_PV K)
def jX12_dayGoes_55 (d : Nat) (M : mm_M) (K : mm_M → Prop) (y1 : Int32) (y2 : Int32) : Prop := mm_W mX12_dayGoes (d + 1) 0 0 55 [(0, .ref 164), (1, .int y1), (2, .int y2)] [] mm_SH M 0 0 (mm_PV K)
set_option maxRecDepth 100000 in
set_option maxHeartbeats 4000000 in
theorem rX12_dayGoes {d : Nat} {M : mm_M} {K : mm_M → Prop} (hG : mm_G M.2.2) (h : mm_CV mX12_allEat d [.ref 164] M (fun m1 => jX12_dayGoes_6 d m1 K 0)) : mm_CV mX12_dayGoes (d + 1) [.ref 164] M K := by
  show mm_W mX12_dayGoes (d + 1) 0 0 0 [(0, .ref 164)] [] mm_SH M 0 0 (mm_PV K)
  refine mm_aload_n (j := 0) dX12_dayGoes_0 rfl rfl ?_
  refine mm_kVV [] dX12_dayGoes_1 kX12_501 rfl sh_164 (by decide) (by decide) h (fun m1 hG h => ?_)
  refine mm_iconst (x := 0) dX12_dayGoes_4 rfl ?_
  refine mm_istore_n (lv' := [(1, .int 0), (0, .ref 164)]) dX12_dayGoes_5 rfl (by decide) rfl ?_
  exact mm_sub [1, 0] rfl h
set_option maxRecDepth 100000 in
set_option maxHeartbeats 4000000 in
theorem lX12_dayGoes_6 {d : Nat} {M : mm_M} {K : mm_M → Prop} {y1 : Int32} (hG : mm_G M.2.2) (h : mm_CI mX12_houseMany d [.ref 164] M (fun z8 m8 => if z8 ≤ y1 then (jX12_dayGoes_43 d m8 K 0) else (mm_CI mX12_isThere d [.ref 164, .int y1] m8 (fun z16 m16 => if z16 = 0 then (jX12_dayGoes_6 d m16 K (y1 + 1)) else (mm_CI mX12_doesStarve d [.ref 164, .int y1] m16 (fun z24 m24 => if z24 = 0 then (jX12_dayGoes_6 d m24 K (y1 + 1)) else (mm_CV mX12_isGone d [.ref 164, .int y1] m24 (fun m32 => jX12_dayGoes_6 d m32 K (y1 + 1))))))))) : jX12_dayGoes_6 d  M K y1 := by
  unfold jX12_dayGoes_6
  refine mm_iload_n (j := 1) dX12_dayGoes_6 rfl rfl ?_
  refine mm_aload_n (j := 0) dX12_dayGoes_7 rfl rfl ?_
  refine mm_kVI [] dX12_dayGoes_8 kX12_412 rfl sh_164 (by decide) (by decide) h (fun z8 m8 hG h => ?_)
  refine mm_icmp_ge (tgt := 41) dX12_dayGoes_11 (by decide) (fun hc => ?_) (fun hc => ?_)
  · rw [if_pos hc] at h
    refine mm_iconst (x := 0) dX12_dayGoes_41 rfl ?_
    refine mm_istore_n (lv' := [(1, .int 0), (0, .ref 164)]) dX12_dayGoes_42 rfl (by decide) rfl ?_
    exact mm_sub [1, 0] rfl h
  · rw [if_neg hc] at h
    refine mm_aload_n (j := 0) dX12_dayGoes_14 rfl rfl ?_
    refine mm_iload_n (j := 1) dX12_dayGoes_15 rfl rfl ?_
    refine mm_kVI [.int y1] dX12_dayGoes_16 kX12_462 rfl sh_164 (by decide) (by decide) h (fun z16 m16 hG h => ?_)
    refine mm_if_eq (tgt := 35) dX12_dayGoes_19 (by decide) (fun hc => ?_) (fun hc => ?_)
    · rw [if_pos hc] at h
      refine mm_iinc (j := 1) (v := y1 + 1) (lv' := [(1, .int (y1 + 1)), (0, .ref 164)]) dX12_dayGoes_35 rfl rfl (by decide) rfl ?_
      refine mm_goto (tgt := 6) dX12_dayGoes_38 (by decide) ?_
      exact mm_sub [1, 0] rfl h
    · rw [if_neg hc] at h
      refine mm_aload_n (j := 0) dX12_dayGoes_22 rfl rfl ?_
      refine mm_iload_n (j := 1) dX12_dayGoes_23 rfl rfl ?_
      refine mm_kVI [.int y1] dX12_dayGoes_24 kX12_504 rfl sh_164 (by decide) (by decide) h (fun z24 m24 hG h => ?_)
      refine mm_if_eq (tgt := 35) dX12_dayGoes_27 (by decide) (fun hc => ?_) (fun hc => ?_)
      · rw [if_pos hc] at h
        refine mm_iinc (j := 1) (v := y1 + 1) (lv' := [(1, .int (y1 + 1)), (0, .ref 164)]) dX12_dayGoes_35 rfl rfl (by decide) rfl ?_
        refine mm_goto (tgt := 6) dX12_dayGoes_38 (by decide) ?_
        exact mm_sub [1, 0] rfl h
      · rw [if_neg hc] at h
        refine mm_aload_n (j := 0) dX12_dayGoes_30 rfl rfl ?_
        refine mm_iload_n (j := 1) dX12_dayGoes_31 rfl rfl ?_
        refine mm_kVV [.int y1] dX12_dayGoes_32 kX12_507 rfl sh_164 (by decide) (by decide) h (fun m32 hG h => ?_)
        refine mm_iinc (j := 1) (v := y1 + 1) (lv' := [(1, .int (y1 + 1)), (0, .ref 164)]) dX12_dayGoes_35 rfl rfl (by decide) rfl ?_
        refine mm_goto (tgt := 6) dX12_dayGoes_38 (by decide) ?_
        exact mm_sub [1, 0] rfl h
set_option maxRecDepth 100000 in
set_option maxHeartbeats 4000000 in
theorem lX12_dayGoes_43 {d : Nat} {M : mm_M} {K : mm_M → Prop} {y1 : Int32} (hG : mm_G M.2.2) (h : mm_CI mX12_houseMany d [.ref 164] M (fun z45 m45 => if z45 ≤ y1 then (jX12_dayGoes_83 d m45 K 0) else (jX12_dayGoes_55 d m45 K y1 (y1 + 1)))) : jX12_dayGoes_43 d  M K y1 := by
  unfold jX12_dayGoes_43
  refine mm_iload_n (j := 1) dX12_dayGoes_43 rfl rfl ?_
  refine mm_aload_n (j := 0) dX12_dayGoes_44 rfl rfl ?_
  refine mm_kVI [] dX12_dayGoes_45 kX12_412 rfl sh_164 (by decide) (by decide) h (fun z45 m45 hG h => ?_)
  refine mm_icmp_ge (tgt := 81) dX12_dayGoes_48 (by decide) (fun hc => ?_) (fun hc => ?_)
  · rw [if_pos hc] at h
    refine mm_iconst (x := 0) dX12_dayGoes_81 rfl ?_
    refine mm_istore_n (lv' := [(1, .int 0), (0, .ref 164)]) dX12_dayGoes_82 rfl (by decide) rfl ?_
    exact mm_sub [1, 0] rfl h
  · rw [if_neg hc] at h
    refine mm_iload_n (j := 1) dX12_dayGoes_51 rfl rfl ?_
    refine mm_iconst (x := 1) dX12_dayGoes_52 rfl ?_
    refine mm_iadd dX12_dayGoes_53 ?_
    refine mm_istore_n (lv' := [(2, .int (y1 + 1)), (0, .ref 164), (1, .int y1)]) dX12_dayGoes_54 rfl (by decide) rfl ?_
    exact mm_sub [1, 2, 0] rfl h
set_option maxRecDepth 100000 in
set_option maxHeartbeats 4000000 in
theorem lX12_dayGoes_83 {d : Nat} {M : mm_M} {K : mm_M → Prop} {y1 : Int32} (hG : mm_G M.2.2) (h : mm_CI mX12_houseMany d [.ref 164] M (fun z85 m85 => if z85 ≤ y1 then (K (mm_uI m85 199 (0).toNatClampNeg ((m85.1 199 (0).toNatClampNeg) + 1))) else (mm_CI mX12_isThere d [.ref 164, .int y1] m85 (fun z93 m93 => if z93 = 0 then (jX12_dayGoes_83 d m93 K (y1 + 1)) else (mm_CV mX12_grow d [.ref 164, .int y1] m93 (fun m101 => jX12_dayGoes_83 d m101 K (y1 + 1))))))) : jX12_dayGoes_83 d  M K y1 := by
  unfold jX12_dayGoes_83
  refine mm_iload_n (j := 1) dX12_dayGoes_83 rfl rfl ?_
  refine mm_aload_n (j := 0) dX12_dayGoes_84 rfl rfl ?_
  refine mm_kVI [] dX12_dayGoes_85 kX12_412 rfl sh_164 (by decide) (by decide) h (fun z85 m85 hG h => ?_)
  refine mm_icmp_ge (tgt := 110) dX12_dayGoes_88 (by decide) (fun hc => ?_) (fun hc => ?_)
  · rw [if_pos hc] at h
    refine mm_aload_n (j := 0) dX12_dayGoes_110 rfl rfl ?_
    refine mm_getR (ci := 12) (N := 116) (r := 199) dX12_dayGoes_111 fX12_118 sh_164 rfl (g_164_50 hG) ?_
    refine mm_iconst (x := 0) dX12_dayGoes_114 rfl ?_
    refine mm_dup2 dX12_dayGoes_115 rfl rfl ?_
    refine mm_iaload (N := 204) dX12_dayGoes_116 sh_199 (by decide) ?_
    refine mm_iconst (x := 1) dX12_dayGoes_117 rfl ?_
    refine mm_iadd dX12_dayGoes_118 ?_
    refine mm_iastore (N := 204) dX12_dayGoes_119 sh_199 (by decide) ?_
    exact mm_vret dX12_dayGoes_120 rfl (Nat.le_refl 0) (Nat.le_refl 0) ⟨rfl, rfl, hG, h⟩
  · rw [if_neg hc] at h
    refine mm_aload_n (j := 0) dX12_dayGoes_91 rfl rfl ?_
    refine mm_iload_n (j := 1) dX12_dayGoes_92 rfl rfl ?_
    refine mm_kVI [.int y1] dX12_dayGoes_93 kX12_462 rfl sh_164 (by decide) (by decide) h (fun z93 m93 hG h => ?_)
    refine mm_if_eq (tgt := 104) dX12_dayGoes_96 (by decide) (fun hc => ?_) (fun hc => ?_)
    · rw [if_pos hc] at h
      refine mm_iinc (j := 1) (v := y1 + 1) (lv' := [(1, .int (y1 + 1)), (0, .ref 164)]) dX12_dayGoes_104 rfl rfl (by decide) rfl ?_
      refine mm_goto (tgt := 83) dX12_dayGoes_107 (by decide) ?_
      exact mm_sub [1, 0] rfl h
    · rw [if_neg hc] at h
      refine mm_aload_n (j := 0) dX12_dayGoes_99 rfl rfl ?_
      refine mm_iload_n (j := 1) dX12_dayGoes_100 rfl rfl ?_
      refine mm_kVV [.int y1] dX12_dayGoes_101 kX12_513 rfl sh_164 (by decide) (by decide) h (fun m101 hG h => ?_)
      refine mm_iinc (j := 1) (v := y1 + 1) (lv' := [(1, .int (y1 + 1)), (0, .ref 164)]) dX12_dayGoes_104 rfl rfl (by decide) rfl ?_
      refine mm_goto (tgt := 83) dX12_dayGoes_107 (by decide) ?_
      exact mm_sub [1, 0] rfl h
set_option maxRecDepth 100000 in
set_option maxHeartbeats 4000000 in
theorem lX12_dayGoes_55 {d : Nat} {M : mm_M} {K : mm_M → Prop} {y1 : Int32} {y2 : Int32} (hG : mm_G M.2.2) (h : mm_CI mX12_houseMany d [.ref 164] M (fun z57 m57 => if z57 ≤ y2 then (jX12_dayGoes_43 d m57 K (y1 + 1)) else (mm_CV mX12_cool d [.ref 164, .int y1, .int y2] m57 (fun m66 => jX12_dayGoes_55 d m66 K y1 (y2 + 1))))) : jX12_dayGoes_55 d  M K y1 y2 := by
  unfold jX12_dayGoes_55
  refine mm_iload_n (j := 2) dX12_dayGoes_55 rfl rfl ?_
  refine mm_aload_n (j := 0) dX12_dayGoes_56 rfl rfl ?_
  refine mm_kVI [] dX12_dayGoes_57 kX12_412 rfl sh_164 (by decide) (by decide) h (fun z57 m57 hG h => ?_)
  refine mm_icmp_ge (tgt := 75) dX12_dayGoes_60 (by decide) (fun hc => ?_) (fun hc => ?_)
  · rw [if_pos hc] at h
    refine mm_iinc (j := 1) (v := y1 + 1) (lv' := [(1, .int (y1 + 1)), (0, .ref 164), (2, .int y2)]) dX12_dayGoes_75 rfl rfl (by decide) rfl ?_
    refine mm_goto (tgt := 43) dX12_dayGoes_78 (by decide) ?_
    exact mm_sub [1, 0] rfl h
  · rw [if_neg hc] at h
    refine mm_aload_n (j := 0) dX12_dayGoes_63 rfl rfl ?_
    refine mm_iload_n (j := 1) dX12_dayGoes_64 rfl rfl ?_
    refine mm_iload_n (j := 2) dX12_dayGoes_65 rfl rfl ?_
    refine mm_kVV [.int y1, .int y2] dX12_dayGoes_66 kX12_510 rfl sh_164 (by decide) (by decide) h (fun m66 hG h => ?_)
    refine mm_iinc (j := 2) (v := y2 + 1) (lv' := [(2, .int (y2 + 1)), (0, .ref 164), (1, .int y1)]) dX12_dayGoes_69 rfl rfl (by decide) rfl ?_
    refine mm_goto (tgt := 55) dX12_dayGoes_72 (by decide) ?_
    exact mm_sub [1, 2, 0] rfl h
def jX12_daysGo_2 (d : Nat) (x1 : Int32) (M : mm_M) (K : mm_M → Prop) (y1 : Int32) (y2 : Int32) : Prop := mm_W mX12_daysGo (d + 1) 0 0 2 [(0, .ref 164), (1, .int y1), (2, .int y2)] [] mm_SH M 0 0 (mm_PV K)
set_option maxRecDepth 100000 in
set_option maxHeartbeats 4000000 in
theorem rX12_daysGo {d : Nat} {x1 : Int32} {M : mm_M} {K : mm_M → Prop} (hG : mm_G M.2.2) (h : jX12_daysGo_2 d x1 M K x1 0) : mm_CV mX12_daysGo (d + 1) [.ref 164, .int x1] M K := by
  show mm_W mX12_daysGo (d + 1) 0 0 0 [(0, .ref 164), (1, .int x1)] [] mm_SH M 0 0 (mm_PV K)
  refine mm_iconst (x := 0) dX12_daysGo_0 rfl ?_
  refine mm_istore_n (lv' := [(2, .int 0), (0, .ref 164), (1, .int x1)]) dX12_daysGo_1 rfl (by decide) rfl ?_
  exact mm_sub [1, 2, 0] rfl h
set_option maxRecDepth 100000 in
set_option maxHeartbeats 4000000 in
theorem lX12_daysGo_2 {d : Nat} {x1 : Int32} {M : mm_M} {K : mm_M → Prop} {y1 : Int32} {y2 : Int32} (hG : mm_G M.2.2) (h : if y1 ≤ y2 then (K M) else (mm_CV mX12_dayGoes d [.ref 164] M (fun m8 => jX12_daysGo_2 d x1 m8 K y1 (y2 + 1)))) : jX12_daysGo_2 d x1 M K y1 y2 := by
  unfold jX12_daysGo_2
  refine mm_iload_n (j := 2) dX12_daysGo_2 rfl rfl ?_
  refine mm_iload_n (j := 1) dX12_daysGo_3 rfl rfl ?_
  refine mm_icmp_ge (tgt := 17) dX12_daysGo_4 (by decide) (fun hc => ?_) (fun hc => ?_)
  · rw [if_pos hc] at h
    exact mm_vret dX12_daysGo_17 rfl (Nat.le_refl 0) (Nat.le_refl 0) ⟨rfl, rfl, hG, h⟩
  · rw [if_neg hc] at h
    refine mm_aload_n (j := 0) dX12_daysGo_7 rfl rfl ?_
    refine mm_kVV [] dX12_daysGo_8 kX12_516 rfl sh_164 (by decide) (by decide) h (fun m8 hG h => ?_)
    refine mm_iinc (j := 2) (v := y2 + 1) (lv' := [(2, .int (y2 + 1)), (0, .ref 164), (1, .int y1)]) dX12_daysGo_11 rfl rfl (by decide) rfl ?_
    refine mm_goto (tgt := 2) dX12_daysGo_14 (by decide) ?_
    exact mm_sub [1, 2, 0] rfl h
def jX12_putsAside_7 (d : Nat) (M : mm_M) (K : mm_M → Prop) (y1 : Int32) : Prop := mm_W mX12_putsAside d 0 0 7 [(0, .ref 164), (1, .int y1)] [] mm_SH M 0 0 (mm_PV K)
set_option maxRecDepth 100000 in
set_option maxHeartbeats 4000000 in
theorem rX12_putsAside {d : Nat} {M : mm_M} {K : mm_M → Prop} (hG : mm_G M.2.2) (h : jX12_putsAside_7 d (mm_uI M 164 57 1) K 0) : mm_CV mX12_putsAside d [.ref 164] M K := by
  show mm_W mX12_putsAside d 0 0 0 [(0, .ref 164)] [] mm_SH M 0 0 (mm_PV K)
  refine mm_aload_n (j := 0) dX12_putsAside_0 rfl rfl ?_
  refine mm_iconst (x := 1) dX12_putsAside_1 rfl ?_
  refine mm_putI (ci := 12) (N := 116) dX12_putsAside_2 fX12_480 sh_164 (by decide +kernel) rfl rfl rfl ?_
  refine mm_iconst (x := 0) dX12_putsAside_5 rfl ?_
  refine mm_istore_n (lv' := [(1, .int 0), (0, .ref 164)]) dX12_putsAside_6 rfl (by decide) rfl ?_
  exact mm_sub [1, 0] rfl h
set_option maxRecDepth 100000 in
set_option maxHeartbeats 4000000 in
theorem lX12_putsAside_7 {d : Nat} {M : mm_M} {K : mm_M → Prop} {y1 : Int32} (hG : mm_G M.2.2) (h : if 43 ≤ y1 then (K M) else (vp_in y1 204 ∧ vp_in y1 43 ∧ jX12_putsAside_7 d (mm_uI M 200 (y1).toNatClampNeg (M.1 199 (y1).toNatClampNeg)) K (y1 + 1))) : jX12_putsAside_7 d  M K y1 := by
  unfold jX12_putsAside_7
  refine mm_iload_n (j := 1) dX12_putsAside_7 rfl rfl ?_
  refine mm_bipush (x := 43) dX12_putsAside_8 rfl ?_
  refine mm_icmp_ge (tgt := 31) dX12_putsAside_10 (by decide) (fun hc => ?_) (fun hc => ?_)
  · rw [if_pos hc] at h
    exact mm_vret dX12_putsAside_31 rfl (Nat.le_refl 0) (Nat.le_refl 0) ⟨rfl, rfl, hG, h⟩
  · rw [if_neg hc] at h
    refine mm_aload_n (j := 0) dX12_putsAside_13 rfl rfl ?_
    refine mm_getR (ci := 12) (N := 116) (r := 200) dX12_putsAside_14 fX12_121 sh_164 rfl (g_164_51 hG) ?_
    refine mm_iload_n (j := 1) dX12_putsAside_17 rfl rfl ?_
    refine mm_aload_n (j := 0) dX12_putsAside_18 rfl rfl ?_
    refine mm_getR (ci := 12) (N := 116) (r := 199) dX12_putsAside_19 fX12_118 sh_164 rfl (g_164_50 hG) ?_
    refine mm_iload_n (j := 1) dX12_putsAside_22 rfl rfl ?_
    obtain ⟨hi23, h⟩ := h
    refine mm_iaload (N := 204) dX12_putsAside_23 sh_199 hi23 ?_
    obtain ⟨hi24, h⟩ := h
    refine mm_iastore (N := 43) dX12_putsAside_24 sh_200 hi24 ?_
    refine mm_iinc (j := 1) (v := y1 + 1) (lv' := [(1, .int (y1 + 1)), (0, .ref 164)]) dX12_putsAside_25 rfl rfl (by decide) rfl ?_
    refine mm_goto (tgt := 7) dX12_putsAside_28 (by decide) ?_
    exact mm_sub [1, 0] rfl h
def jX12_triesAnew_2 (d : Nat) (M : mm_M) (K : mm_M → Prop) (y1 : Int32) : Prop := mm_W mX12_triesAnew d 0 0 2 [(0, .ref 164), (1, .int y1)] [] mm_SH M 0 0 (mm_PV K)
set_option maxRecDepth 100000 in
set_option maxHeartbeats 4000000 in
theorem rX12_triesAnew {d : Nat} {M : mm_M} {K : mm_M → Prop} (hG : mm_G M.2.2) (h : jX12_triesAnew_2 d M K 0) : mm_CV mX12_triesAnew d [.ref 164] M K := by
  show mm_W mX12_triesAnew d 0 0 0 [(0, .ref 164)] [] mm_SH M 0 0 (mm_PV K)
  refine mm_iconst (x := 0) dX12_triesAnew_0 rfl ?_
  refine mm_istore_n (lv' := [(1, .int 0), (0, .ref 164)]) dX12_triesAnew_1 rfl (by decide) rfl ?_
  exact mm_sub [1, 0] rfl h
set_option maxRecDepth 100000 in
set_option maxHeartbeats 4000000 in
theorem lX12_triesAnew_2 {d : Nat} {M : mm_M} {K : mm_M → Prop} {y1 : Int32} (hG : mm_G M.2.2) (h : if 43 ≤ y1 then (K M) else (vp_in y1 43 ∧ vp_in y1 204 ∧ jX12_triesAnew_2 d (mm_uI M 199 (y1).toNatClampNeg (M.1 200 (y1).toNatClampNeg)) K (y1 + 1))) : jX12_triesAnew_2 d  M K y1 := by
  unfold jX12_triesAnew_2
  refine mm_iload_n (j := 1) dX12_triesAnew_2 rfl rfl ?_
  refine mm_bipush (x := 43) dX12_triesAnew_3 rfl ?_
  refine mm_icmp_ge (tgt := 26) dX12_triesAnew_5 (by decide) (fun hc => ?_) (fun hc => ?_)
  · rw [if_pos hc] at h
    exact mm_vret dX12_triesAnew_26 rfl (Nat.le_refl 0) (Nat.le_refl 0) ⟨rfl, rfl, hG, h⟩
  · rw [if_neg hc] at h
    refine mm_aload_n (j := 0) dX12_triesAnew_8 rfl rfl ?_
    refine mm_getR (ci := 12) (N := 116) (r := 199) dX12_triesAnew_9 fX12_118 sh_164 rfl (g_164_50 hG) ?_
    refine mm_iload_n (j := 1) dX12_triesAnew_12 rfl rfl ?_
    refine mm_aload_n (j := 0) dX12_triesAnew_13 rfl rfl ?_
    refine mm_getR (ci := 12) (N := 116) (r := 200) dX12_triesAnew_14 fX12_121 sh_164 rfl (g_164_51 hG) ?_
    refine mm_iload_n (j := 1) dX12_triesAnew_17 rfl rfl ?_
    obtain ⟨hi18, h⟩ := h
    refine mm_iaload (N := 43) dX12_triesAnew_18 sh_200 hi18 ?_
    obtain ⟨hi19, h⟩ := h
    refine mm_iastore (N := 204) dX12_triesAnew_19 sh_199 hi19 ?_
    refine mm_iinc (j := 1) (v := y1 + 1) (lv' := [(1, .int (y1 + 1)), (0, .ref 164)]) dX12_triesAnew_20 rfl rfl (by decide) rfl ?_
    refine mm_goto (tgt := 2) dX12_triesAnew_23 (by decide) ?_
    exact mm_sub [1, 0] rfl h
set_option maxRecDepth 100000 in
set_option maxHeartbeats 4000000 in
theorem rX12_takesBack {d : Nat} {M : mm_M} {K : mm_M → Prop} (hG : mm_G M.2.2) (h : mm_CV mX12_triesAnew d [.ref 164] M (fun m1 => K (mm_uI (mm_uI m1 164 59 0) 164 57 0))) : mm_CV mX12_takesBack (d + 1) [.ref 164] M K := by
  show mm_W mX12_takesBack (d + 1) 0 0 0 [(0, .ref 164)] [] mm_SH M 0 0 (mm_PV K)
  refine mm_aload_n (j := 0) dX12_takesBack_0 rfl rfl ?_
  refine mm_kVV [] dX12_takesBack_1 kX12_519 rfl sh_164 (by decide) (by decide) h (fun m1 hG h => ?_)
  refine mm_aload_n (j := 0) dX12_takesBack_4 rfl rfl ?_
  refine mm_iconst (x := 0) dX12_takesBack_5 rfl ?_
  refine mm_putI (ci := 12) (N := 116) dX12_takesBack_6 fX12_468 sh_164 (by decide +kernel) rfl rfl rfl ?_
  refine mm_aload_n (j := 0) dX12_takesBack_9 rfl rfl ?_
  refine mm_iconst (x := 0) dX12_takesBack_10 rfl ?_
  refine mm_putI (ci := 12) (N := 116) dX12_takesBack_11 fX12_480 sh_164 (by decide +kernel) rfl rfl rfl ?_
  exact mm_vret dX12_takesBack_14 rfl (Nat.le_refl 0) (Nat.le_refl 0) ⟨rfl, rfl, hG, h⟩
set_option maxRecDepth 100000 in
set_option maxHeartbeats 4000000 in
theorem rX12_isAhead {d : Nat} {x1 : Int32} {x2 : Int32} {x3 : Int32} {M : mm_M} {K : Int32 → mm_M → Prop} (hG : mm_G M.2.2) (h : if (M.1 164 48) = 0 then (K 0 M) else (mm_CI mX12_isIn d [.long x1.toInt64, .long x2.toInt64, .long x3.toInt64] M (fun z13 m13 => if z13 = 0 then (K 0 m13) else (if 999 < ((m13.1 199 (0).toNatClampNeg) + x1) then (K 0 m13) else (K 1 m13))))) : mm_CI mX12_isAhead (d + 1) [.ref 164, .int x1, .int x2, .int x3] M K := by
  show mm_W mX12_isAhead (d + 1) 0 0 0 [(0, .ref 164), (1, .int x1), (2, .int x2), (3, .int x3)] [] mm_SH M 0 0 (mm_PI K)
  refine mm_aload_n (j := 0) dX12_isAhead_0 rfl rfl ?_
  refine mm_getI (ci := 12) (N := 116) dX12_isAhead_1 fX12_399 sh_164 rfl ?_
  refine mm_if_eq (tgt := 37) dX12_isAhead_4 (by decide) (fun hc => ?_) (fun hc => ?_)
  · rw [if_pos hc] at h
    refine mm_iconst (x := 0) dX12_isAhead_37 rfl ?_
    exact mm_zret dX12_isAhead_38 rfl rfl (Nat.le_refl 0) (Nat.le_refl 0) ⟨_, rfl, rfl, hG, h⟩
  · rw [if_neg hc] at h
    refine mm_iload_n (j := 1) dX12_isAhead_7 rfl rfl ?_
    refine mm_i2l dX12_isAhead_8 ?_
    refine mm_iload_n (j := 2) dX12_isAhead_9 rfl rfl ?_
    refine mm_i2l dX12_isAhead_10 ?_
    refine mm_iload_n (j := 3) dX12_isAhead_11 rfl rfl ?_
    refine mm_i2l dX12_isAhead_12 ?_
    refine mm_kSI [.long x1.toInt64, .long x2.toInt64, .long x3.toInt64] dX12_isAhead_13 kX12_303 rfl (by decide) (by decide) h (fun z13 m13 hG h => ?_)
    refine mm_if_eq (tgt := 37) dX12_isAhead_16 (by decide) (fun hc => ?_) (fun hc => ?_)
    · rw [if_pos hc] at h
      refine mm_iconst (x := 0) dX12_isAhead_37 rfl ?_
      exact mm_zret dX12_isAhead_38 rfl rfl (Nat.le_refl 0) (Nat.le_refl 0) ⟨_, rfl, rfl, hG, h⟩
    · rw [if_neg hc] at h
      refine mm_aload_n (j := 0) dX12_isAhead_19 rfl rfl ?_
      refine mm_getR (ci := 12) (N := 116) (r := 199) dX12_isAhead_20 fX12_118 sh_164 rfl (g_164_50 hG) ?_
      refine mm_iconst (x := 0) dX12_isAhead_23 rfl ?_
      refine mm_iaload (N := 204) dX12_isAhead_24 sh_199 (by decide) ?_
      refine mm_iload_n (j := 1) dX12_isAhead_25 rfl rfl ?_
      refine mm_iadd dX12_isAhead_26 ?_
      refine mm_sipush (x := 999) dX12_isAhead_27 rfl ?_
      refine mm_icmp_gt (tgt := 37) dX12_isAhead_30 (by decide) (fun hc => ?_) (fun hc => ?_)
      · rw [if_pos hc] at h
        refine mm_iconst (x := 0) dX12_isAhead_37 rfl ?_
        exact mm_zret dX12_isAhead_38 rfl rfl (Nat.le_refl 0) (Nat.le_refl 0) ⟨_, rfl, rfl, hG, h⟩
      · rw [if_neg hc] at h
        refine mm_iconst (x := 1) dX12_isAhead_33 rfl ?_
        refine mm_goto (tgt := 38) dX12_isAhead_34 (by decide) ?_
        exact mm_zret dX12_isAhead_38 rfl rfl (Nat.le_refl 0) (Nat.le_refl 0) ⟨_, rfl, rfl, hG, h⟩
def jX12_bits_4 (d : Nat) (x0 : Int32) (M : mm_M) (K : Int32 → mm_M → Prop) (y1 : Int32) (y2 : Int32) : Prop := mm_W mX12_bits d 0 0 4 [(1, .int y1), (2, .int y2)] [] mm_SH M 0 0 (mm_PI K)
set_option maxRecDepth 100000 in
set_option maxHeartbeats 4000000 in
theorem rX12_bits {d : Nat} {x0 : Int32} {M : mm_M} {K : Int32 → mm_M → Prop} (hG : mm_G M.2.2) (h : jX12_bits_4 d x0 M K 0 x0) : mm_CI mX12_bits d [.int x0] M K := by
  show mm_W mX12_bits d 0 0 0 [(0, .int x0)] [] mm_SH M 0 0 (mm_PI K)
  refine mm_iconst (x := 0) dX12_bits_0 rfl ?_
  refine mm_istore_n (lv' := [(1, .int 0), (0, .int x0)]) dX12_bits_1 rfl (by decide) rfl ?_
  refine mm_iload_n (j := 1) dX12_bits_2 rfl rfl ?_
  refine mm_istore_n (lv' := [(2, .int x0), (1, .int 0), (0, .int x0)]) dX12_bits_3 rfl (by decide) rfl ?_
  exact mm_sub [1, 0] rfl h
set_option maxRecDepth 100000 in
set_option maxHeartbeats 4000000 in
theorem lX12_bits_4 {d : Nat} {x0 : Int32} {M : mm_M} {K : Int32 → mm_M → Prop} {y1 : Int32} {y2 : Int32} (hG : mm_G M.2.2) (h : if y2 = 0 then (K y1 M) else (jX12_bits_4 d x0 M K (y1 + 1) (y2 &&& (y2 - 1)))) : jX12_bits_4 d x0 M K y1 y2 := by
  unfold jX12_bits_4
  refine mm_iload_n (j := 1) dX12_bits_4 rfl rfl ?_
  refine mm_if_eq (tgt := 20) dX12_bits_5 (by decide) (fun hc => ?_) (fun hc => ?_)
  · rw [if_pos hc] at h
    refine mm_iload_n (j := 0) dX12_bits_20 rfl rfl ?_
    exact mm_iret dX12_bits_21 rfl (Nat.le_refl 0) (Nat.le_refl 0) ⟨_, rfl, rfl, hG, h⟩
  · rw [if_neg hc] at h
    refine mm_iinc (j := 0) (v := y1 + 1) (lv' := [(1, .int (y1 + 1)), (2, .int y2)]) dX12_bits_8 rfl rfl (by decide) rfl ?_
    refine mm_iload_n (j := 1) dX12_bits_11 rfl rfl ?_
    refine mm_iload_n (j := 1) dX12_bits_12 rfl rfl ?_
    refine mm_iconst (x := 1) dX12_bits_13 rfl ?_
    refine mm_isub dX12_bits_14 ?_
    refine mm_iand dX12_bits_15 ?_
    refine mm_istore_n (lv' := [(2, .int (y2 &&& (y2 - 1))), (1, .int (y1 + 1))]) dX12_bits_16 rfl (by decide) rfl ?_
    refine mm_goto (tgt := 4) dX12_bits_17 (by decide) ?_
    exact mm_sub [1, 0] rfl h
def jX12_thereSet_4 (d : Nat) (M : mm_M) (K : Int32 → mm_M → Prop) (y1 : Int32) (y2 : Int32) : Prop := mm_W mX12_thereSet (d + 1) 0 0 4 [(0, .ref 164), (1, .int y1), (2, .int y2)] [] mm_SH M 0 0 (mm_PI K)
set_option maxRecDepth 100000 in
set_option maxHeartbeats 4000000 in
theorem rX12_thereSet {d : Nat} {M : mm_M} {K : Int32 → mm_M → Prop} (hG : mm_G M.2.2) (h : jX12_thereSet_4 d M K 0 0) : mm_CI mX12_thereSet (d + 1) [.ref 164] M K := by
  show mm_W mX12_thereSet (d + 1) 0 0 0 [(0, .ref 164)] [] mm_SH M 0 0 (mm_PI K)
  refine mm_iconst (x := 0) dX12_thereSet_0 rfl ?_
  refine mm_istore_n (lv' := [(1, .int 0), (0, .ref 164)]) dX12_thereSet_1 rfl (by decide) rfl ?_
  refine mm_iconst (x := 0) dX12_thereSet_2 rfl ?_
  refine mm_istore_n (lv' := [(2, .int 0), (1, .int 0), (0, .ref 164)]) dX12_thereSet_3 rfl (by decide) rfl ?_
  exact mm_sub [2, 1, 0] rfl h
set_option maxRecDepth 100000 in
set_option maxHeartbeats 4000000 in
theorem lX12_thereSet_4 {d : Nat} {M : mm_M} {K : Int32 → mm_M → Prop} {y1 : Int32} {y2 : Int32} (hG : mm_G M.2.2) (h : mm_CI mX12_houseMany d [.ref 164] M (fun z6 m6 => if z6 ≤ y2 then (K y1 m6) else (mm_CI mX12_isThere d [.ref 164, .int y2] m6 (fun z14 m14 => if z14 = 0 then (jX12_thereSet_4 d m14 K y1 (y2 + 1)) else (jX12_thereSet_4 d m14 K (y1 ||| (1 <<< (y2 &&& 31))) (y2 + 1)))))) : jX12_thereSet_4 d  M K y1 y2 := by
  unfold jX12_thereSet_4
  refine mm_iload_n (j := 2) dX12_thereSet_4 rfl rfl ?_
  refine mm_aload_n (j := 0) dX12_thereSet_5 rfl rfl ?_
  refine mm_kVI [] dX12_thereSet_6 kX12_412 rfl sh_164 (by decide) (by decide) h (fun z6 m6 hG h => ?_)
  refine mm_icmp_ge (tgt := 32) dX12_thereSet_9 (by decide) (fun hc => ?_) (fun hc => ?_)
  · rw [if_pos hc] at h
    refine mm_iload_n (j := 1) dX12_thereSet_32 rfl rfl ?_
    exact mm_iret dX12_thereSet_33 rfl (Nat.le_refl 0) (Nat.le_refl 0) ⟨_, rfl, rfl, hG, h⟩
  · rw [if_neg hc] at h
    refine mm_aload_n (j := 0) dX12_thereSet_12 rfl rfl ?_
    refine mm_iload_n (j := 2) dX12_thereSet_13 rfl rfl ?_
    refine mm_kVI [.int y2] dX12_thereSet_14 kX12_462 rfl sh_164 (by decide) (by decide) h (fun z14 m14 hG h => ?_)
    refine mm_if_eq (tgt := 26) dX12_thereSet_17 (by decide) (fun hc => ?_) (fun hc => ?_)
    · rw [if_pos hc] at h
      refine mm_iinc (j := 2) (v := y2 + 1) (lv' := [(2, .int (y2 + 1)), (0, .ref 164), (1, .int y1)]) dX12_thereSet_26 rfl rfl (by decide) rfl ?_
      refine mm_goto (tgt := 4) dX12_thereSet_29 (by decide) ?_
      exact mm_sub [1, 2, 0] rfl h
    · rw [if_neg hc] at h
      refine mm_iload_n (j := 1) dX12_thereSet_20 rfl rfl ?_
      refine mm_iconst (x := 1) dX12_thereSet_21 rfl ?_
      refine mm_iload_n (j := 2) dX12_thereSet_22 rfl rfl ?_
      refine mm_ishl dX12_thereSet_23 ?_
      refine mm_ior dX12_thereSet_24 ?_
      refine mm_istore_n (lv' := [(1, .int (y1 ||| (1 <<< (y2 &&& 31)))), (0, .ref 164), (2, .int y2)]) dX12_thereSet_25 rfl (by decide) rfl ?_
      refine mm_iinc (j := 2) (v := y2 + 1) (lv' := [(2, .int (y2 + 1)), (1, .int (y1 ||| (1 <<< (y2 &&& 31)))), (0, .ref 164)]) dX12_thereSet_26 rfl rfl (by decide) rfl ?_
      refine mm_goto (tgt := 4) dX12_thereSet_29 (by decide) ?_
      exact mm_sub [2, 1, 0] rfl h
def jX12_feudMany_4 (d : Nat) (M : mm_M) (K : Int32 → mm_M → Prop) (y1 : Int32) (y2 : Int32) : Prop := mm_W mX12_feudMany d 0 0 4 [(0, .ref 164), (1, .int y1), (2, .int y2)] [] mm_SH M 0 0 (mm_PI K)
set_option maxRecDepth 100000 in
set_option maxHeartbeats 4000000 in
theorem rX12_feudMany {d : Nat} {M : mm_M} {K : Int32 → mm_M → Prop} (hG : mm_G M.2.2) (h : jX12_feudMany_4 d M K 0 0) : mm_CI mX12_feudMany d [.ref 164] M K := by
  show mm_W mX12_feudMany d 0 0 0 [(0, .ref 164)] [] mm_SH M 0 0 (mm_PI K)
  refine mm_iconst (x := 0) dX12_feudMany_0 rfl ?_
  refine mm_istore_n (lv' := [(1, .int 0), (0, .ref 164)]) dX12_feudMany_1 rfl (by decide) rfl ?_
  refine mm_iconst (x := 0) dX12_feudMany_2 rfl ?_
  refine mm_istore_n (lv' := [(2, .int 0), (1, .int 0), (0, .ref 164)]) dX12_feudMany_3 rfl (by decide) rfl ?_
  exact mm_sub [2, 1, 0] rfl h
set_option maxRecDepth 100000 in
set_option maxHeartbeats 4000000 in
theorem lX12_feudMany_4 {d : Nat} {M : mm_M} {K : Int32 → mm_M → Prop} {y1 : Int32} {y2 : Int32} (hG : mm_G M.2.2) (h : if 21 ≤ y2 then (K y1 M) else (vp_in (22 + y2) 204 ∧ if (M.1 199 (22 + y2).toNatClampNeg) ≤ 0 then (jX12_feudMany_4 d M K y1 (y2 + 1)) else (jX12_feudMany_4 d M K (y1 + 1) (y2 + 1)))) : jX12_feudMany_4 d  M K y1 y2 := by
  unfold jX12_feudMany_4
  refine mm_iload_n (j := 2) dX12_feudMany_4 rfl rfl ?_
  refine mm_bipush (x := 21) dX12_feudMany_5 rfl ?_
  refine mm_icmp_ge (tgt := 31) dX12_feudMany_7 (by decide) (fun hc => ?_) (fun hc => ?_)
  · rw [if_pos hc] at h
    refine mm_iload_n (j := 1) dX12_feudMany_31 rfl rfl ?_
    exact mm_iret dX12_feudMany_32 rfl (Nat.le_refl 0) (Nat.le_refl 0) ⟨_, rfl, rfl, hG, h⟩
  · rw [if_neg hc] at h
    refine mm_aload_n (j := 0) dX12_feudMany_10 rfl rfl ?_
    refine mm_getR (ci := 12) (N := 116) (r := 199) dX12_feudMany_11 fX12_118 sh_164 rfl (g_164_50 hG) ?_
    refine mm_bipush (x := 22) dX12_feudMany_14 rfl ?_
    refine mm_iload_n (j := 2) dX12_feudMany_16 rfl rfl ?_
    refine mm_iadd dX12_feudMany_17 ?_
    obtain ⟨hi18, h⟩ := h
    refine mm_iaload (N := 204) dX12_feudMany_18 sh_199 hi18 ?_
    refine mm_if_le (tgt := 25) dX12_feudMany_19 (by decide) (fun hc => ?_) (fun hc => ?_)
    · rw [if_pos hc] at h
      refine mm_iinc (j := 2) (v := y2 + 1) (lv' := [(2, .int (y2 + 1)), (0, .ref 164), (1, .int y1)]) dX12_feudMany_25 rfl rfl (by decide) rfl ?_
      refine mm_goto (tgt := 4) dX12_feudMany_28 (by decide) ?_
      exact mm_sub [1, 2, 0] rfl h
    · rw [if_neg hc] at h
      refine mm_iinc (j := 1) (v := y1 + 1) (lv' := [(1, .int (y1 + 1)), (0, .ref 164), (2, .int y2)]) dX12_feudMany_22 rfl rfl (by decide) rfl ?_
      refine mm_iinc (j := 2) (v := y2 + 1) (lv' := [(2, .int (y2 + 1)), (1, .int (y1 + 1)), (0, .ref 164)]) dX12_feudMany_25 rfl rfl (by decide) rfl ?_
      refine mm_goto (tgt := 4) dX12_feudMany_28 (by decide) ?_
      exact mm_sub [2, 1, 0] rfl h
def jX12_flourAll_4 (d : Nat) (M : mm_M) (K : Int32 → mm_M → Prop) (y1 : Int32) (y2 : Int32) : Prop := mm_W mX12_flourAll (d + 1) 0 0 4 [(0, .ref 164), (1, .int y1), (2, .int y2)] [] mm_SH M 0 0 (mm_PI K)
set_option maxRecDepth 100000 in
set_option maxHeartbeats 4000000 in
theorem rX12_flourAll {d : Nat} {M : mm_M} {K : Int32 → mm_M → Prop} (hG : mm_G M.2.2) (h : jX12_flourAll_4 d M K 0 0) : mm_CI mX12_flourAll (d + 1) [.ref 164] M K := by
  show mm_W mX12_flourAll (d + 1) 0 0 0 [(0, .ref 164)] [] mm_SH M 0 0 (mm_PI K)
  refine mm_iconst (x := 0) dX12_flourAll_0 rfl ?_
  refine mm_istore_n (lv' := [(1, .int 0), (0, .ref 164)]) dX12_flourAll_1 rfl (by decide) rfl ?_
  refine mm_iconst (x := 0) dX12_flourAll_2 rfl ?_
  refine mm_istore_n (lv' := [(2, .int 0), (1, .int 0), (0, .ref 164)]) dX12_flourAll_3 rfl (by decide) rfl ?_
  exact mm_sub [2, 1, 0] rfl h
set_option maxRecDepth 100000 in
set_option maxHeartbeats 4000000 in
theorem lX12_flourAll_4 {d : Nat} {M : mm_M} {K : Int32 → mm_M → Prop} {y1 : Int32} {y2 : Int32} (hG : mm_G M.2.2) (h : mm_CI mX12_houseMany d [.ref 164] M (fun z6 m6 => if z6 ≤ y2 then (K y1 m6) else (mm_CI mX12_isThere d [.ref 164, .int y2] m6 (fun z14 m14 => if z14 = 0 then (jX12_flourAll_4 d m14 K y1 (y2 + 1)) else (mm_CI mX12_flourOf d [.ref 164, .int y2] m14 (fun z23 m23 => jX12_flourAll_4 d m23 K (y1 + z23) (y2 + 1))))))) : jX12_flourAll_4 d  M K y1 y2 := by
  unfold jX12_flourAll_4
  refine mm_iload_n (j := 2) dX12_flourAll_4 rfl rfl ?_
  refine mm_aload_n (j := 0) dX12_flourAll_5 rfl rfl ?_
  refine mm_kVI [] dX12_flourAll_6 kX12_412 rfl sh_164 (by decide) (by decide) h (fun z6 m6 hG h => ?_)
  refine mm_icmp_ge (tgt := 34) dX12_flourAll_9 (by decide) (fun hc => ?_) (fun hc => ?_)
  · rw [if_pos hc] at h
    refine mm_iload_n (j := 1) dX12_flourAll_34 rfl rfl ?_
    exact mm_iret dX12_flourAll_35 rfl (Nat.le_refl 0) (Nat.le_refl 0) ⟨_, rfl, rfl, hG, h⟩
  · rw [if_neg hc] at h
    refine mm_aload_n (j := 0) dX12_flourAll_12 rfl rfl ?_
    refine mm_iload_n (j := 2) dX12_flourAll_13 rfl rfl ?_
    refine mm_kVI [.int y2] dX12_flourAll_14 kX12_462 rfl sh_164 (by decide) (by decide) h (fun z14 m14 hG h => ?_)
    refine mm_if_eq (tgt := 28) dX12_flourAll_17 (by decide) (fun hc => ?_) (fun hc => ?_)
    · rw [if_pos hc] at h
      refine mm_iinc (j := 2) (v := y2 + 1) (lv' := [(2, .int (y2 + 1)), (0, .ref 164), (1, .int y1)]) dX12_flourAll_28 rfl rfl (by decide) rfl ?_
      refine mm_goto (tgt := 4) dX12_flourAll_31 (by decide) ?_
      exact mm_sub [1, 2, 0] rfl h
    · rw [if_neg hc] at h
      refine mm_iload_n (j := 1) dX12_flourAll_20 rfl rfl ?_
      refine mm_aload_n (j := 0) dX12_flourAll_21 rfl rfl ?_
      refine mm_iload_n (j := 2) dX12_flourAll_22 rfl rfl ?_
      refine mm_kVI [.int y2] dX12_flourAll_23 kX12_465 rfl sh_164 (by decide) (by decide) h (fun z23 m23 hG h => ?_)
      refine mm_iadd dX12_flourAll_26 ?_
      refine mm_istore_n (lv' := [(1, .int (y1 + z23)), (0, .ref 164), (2, .int y2)]) dX12_flourAll_27 rfl (by decide) rfl ?_
      refine mm_iinc (j := 2) (v := y2 + 1) (lv' := [(2, .int (y2 + 1)), (1, .int (y1 + z23)), (0, .ref 164)]) dX12_flourAll_28 rfl rfl (by decide) rfl ?_
      refine mm_goto (tgt := 4) dX12_flourAll_31 (by decide) ?_
      exact mm_sub [2, 1, 0] rfl h
set_option maxRecDepth 100000 in
set_option maxHeartbeats 4000000 in
theorem rX12_has {d : Nat} {x1 : Int32} {M : mm_M} {K : Int32 → mm_M → Prop} (hG : mm_G M.2.2) (h : if x1 = 0 then (K (M.1 191 (2).toNatClampNeg) M) else (if x1 = 1 then (mm_CI mX12_houseMany d [.ref 164] M (fun z60 m60 => K z60 m60)) else (if x1 = 2 then (K (M.1 199 (0).toNatClampNeg) M) else (if x1 = 3 then (mm_CI mX12_thereSet d [.ref 164] M (fun z72 m72 => mm_CI mX12_bits d [.int z72] m72 (fun z75 m75 => K z75 m75))) else (if x1 = 4 then (mm_CI mX12_feudMany d [.ref 164] M (fun z80 m80 => K z80 m80)) else (if x1 = 5 then (mm_CI mX12_flourAll d [.ref 164] M (fun z85 m85 => K z85 m85)) else (if x1 = 6 then (K (M.1 199 (43).toNatClampNeg) M) else (if x1 = 7 then (K (M.1 164 72) M) else (if x1 = 8 then (K (M.1 164 79) M) else (K (-1) M)))))))))) : mm_CI mX12_has (d + 1) [.ref 164, .int x1] M K := by
  show mm_W mX12_has (d + 1) 0 0 0 [(0, .ref 164), (1, .int x1)] [] mm_SH M 0 0 (mm_PI K)
  refine mm_iload_n (j := 1) dX12_has_0 rfl rfl ?_
  by_cases hs1_0 : x1 = 0
  · rw [if_pos hs1_0] at h
    refine mm_tableIn (off := 51) (tgt := 52) dX12_has_1 (by rw [hs1_0]; decide) (by rw [hs1_0]; decide) (by rw [hs1_0]; rfl) (by decide) ?_
    refine mm_aload_n (j := 0) dX12_has_52 rfl rfl ?_
    refine mm_getR (ci := 12) (N := 116) (r := 191) dX12_has_53 fX12_93 sh_164 rfl (g_164_36 hG) ?_
    refine mm_iconst (x := 2) dX12_has_56 rfl ?_
    refine mm_iaload (N := 4) dX12_has_57 sh_191 (by decide) ?_
    exact mm_iret dX12_has_58 rfl (Nat.le_refl 0) (Nat.le_refl 0) ⟨_, rfl, rfl, hG, h⟩
  · rw [if_neg hs1_0] at h
    by_cases hs1_1 : x1 = 1
    · rw [if_pos hs1_1] at h
      refine mm_tableIn (off := 58) (tgt := 59) dX12_has_1 (by rw [hs1_1]; decide) (by rw [hs1_1]; decide) (by rw [hs1_1]; rfl) (by decide) ?_
      refine mm_aload_n (j := 0) dX12_has_59 rfl rfl ?_
      refine mm_kVI [] dX12_has_60 kX12_412 rfl sh_164 (by decide) (by decide) h (fun z60 m60 hG h => ?_)
      exact mm_iret dX12_has_63 rfl (Nat.le_refl 0) (Nat.le_refl 0) ⟨_, rfl, rfl, hG, h⟩
    · rw [if_neg hs1_1] at h
      by_cases hs1_2 : x1 = 2
      · rw [if_pos hs1_2] at h
        refine mm_tableIn (off := 63) (tgt := 64) dX12_has_1 (by rw [hs1_2]; decide) (by rw [hs1_2]; decide) (by rw [hs1_2]; rfl) (by decide) ?_
        refine mm_aload_n (j := 0) dX12_has_64 rfl rfl ?_
        refine mm_getR (ci := 12) (N := 116) (r := 199) dX12_has_65 fX12_118 sh_164 rfl (g_164_50 hG) ?_
        refine mm_iconst (x := 0) dX12_has_68 rfl ?_
        refine mm_iaload (N := 204) dX12_has_69 sh_199 (by decide) ?_
        exact mm_iret dX12_has_70 rfl (Nat.le_refl 0) (Nat.le_refl 0) ⟨_, rfl, rfl, hG, h⟩
      · rw [if_neg hs1_2] at h
        by_cases hs1_3 : x1 = 3
        · rw [if_pos hs1_3] at h
          refine mm_tableIn (off := 70) (tgt := 71) dX12_has_1 (by rw [hs1_3]; decide) (by rw [hs1_3]; decide) (by rw [hs1_3]; rfl) (by decide) ?_
          refine mm_aload_n (j := 0) dX12_has_71 rfl rfl ?_
          refine mm_kVI [] dX12_has_72 kX12_522 rfl sh_164 (by decide) (by decide) h (fun z72 m72 hG h => ?_)
          refine mm_kSI [.int z72] dX12_has_75 kX12_525 rfl (by decide) (by decide) h (fun z75 m75 hG h => ?_)
          exact mm_iret dX12_has_78 rfl (Nat.le_refl 0) (Nat.le_refl 0) ⟨_, rfl, rfl, hG, h⟩
        · rw [if_neg hs1_3] at h
          by_cases hs1_4 : x1 = 4
          · rw [if_pos hs1_4] at h
            refine mm_tableIn (off := 78) (tgt := 79) dX12_has_1 (by rw [hs1_4]; decide) (by rw [hs1_4]; decide) (by rw [hs1_4]; rfl) (by decide) ?_
            refine mm_aload_n (j := 0) dX12_has_79 rfl rfl ?_
            refine mm_kVI [] dX12_has_80 kX12_528 rfl sh_164 (by decide) (by decide) h (fun z80 m80 hG h => ?_)
            exact mm_iret dX12_has_83 rfl (Nat.le_refl 0) (Nat.le_refl 0) ⟨_, rfl, rfl, hG, h⟩
          · rw [if_neg hs1_4] at h
            by_cases hs1_5 : x1 = 5
            · rw [if_pos hs1_5] at h
              refine mm_tableIn (off := 83) (tgt := 84) dX12_has_1 (by rw [hs1_5]; decide) (by rw [hs1_5]; decide) (by rw [hs1_5]; rfl) (by decide) ?_
              refine mm_aload_n (j := 0) dX12_has_84 rfl rfl ?_
              refine mm_kVI [] dX12_has_85 kX12_531 rfl sh_164 (by decide) (by decide) h (fun z85 m85 hG h => ?_)
              exact mm_iret dX12_has_88 rfl (Nat.le_refl 0) (Nat.le_refl 0) ⟨_, rfl, rfl, hG, h⟩
            · rw [if_neg hs1_5] at h
              by_cases hs1_6 : x1 = 6
              · rw [if_pos hs1_6] at h
                refine mm_tableIn (off := 88) (tgt := 89) dX12_has_1 (by rw [hs1_6]; decide) (by rw [hs1_6]; decide) (by rw [hs1_6]; rfl) (by decide) ?_
                refine mm_aload_n (j := 0) dX12_has_89 rfl rfl ?_
                refine mm_getR (ci := 12) (N := 116) (r := 199) dX12_has_90 fX12_118 sh_164 rfl (g_164_50 hG) ?_
                refine mm_bipush (x := 43) dX12_has_93 rfl ?_
                refine mm_iaload (N := 204) dX12_has_95 sh_199 (by decide) ?_
                exact mm_iret dX12_has_96 rfl (Nat.le_refl 0) (Nat.le_refl 0) ⟨_, rfl, rfl, hG, h⟩
              · rw [if_neg hs1_6] at h
                by_cases hs1_7 : x1 = 7
                · rw [if_pos hs1_7] at h
                  refine mm_tableIn (off := 96) (tgt := 97) dX12_has_1 (by rw [hs1_7]; decide) (by rw [hs1_7]; decide) (by rw [hs1_7]; rfl) (by decide) ?_
                  refine mm_aload_n (j := 0) dX12_has_97 rfl rfl ?_
                  refine mm_getI (ci := 12) (N := 116) dX12_has_98 fX12_409 sh_164 rfl ?_
                  exact mm_iret dX12_has_101 rfl (Nat.le_refl 0) (Nat.le_refl 0) ⟨_, rfl, rfl, hG, h⟩
                · rw [if_neg hs1_7] at h
                  by_cases hs1_8 : x1 = 8
                  · rw [if_pos hs1_8] at h
                    refine mm_tableIn (off := 101) (tgt := 102) dX12_has_1 (by rw [hs1_8]; decide) (by rw [hs1_8]; decide) (by rw [hs1_8]; rfl) (by decide) ?_
                    refine mm_aload_n (j := 0) dX12_has_102 rfl rfl ?_
                    refine mm_getI (ci := 12) (N := 116) dX12_has_103 fX12_406 sh_164 rfl ?_
                    exact mm_iret dX12_has_106 rfl (Nat.le_refl 0) (Nat.le_refl 0) ⟨_, rfl, rfl, hG, h⟩
                  · rw [if_neg hs1_8] at h
                    have ht1_0 := lv_neT hs1_0 (show (0 : Int32).toInt = 0 from rfl)
                    have ht1_1 := lv_neT hs1_1 (show (1 : Int32).toInt = 1 from rfl)
                    have ht1_2 := lv_neT hs1_2 (show (2 : Int32).toInt = 2 from rfl)
                    have ht1_3 := lv_neT hs1_3 (show (3 : Int32).toInt = 3 from rfl)
                    have ht1_4 := lv_neT hs1_4 (show (4 : Int32).toInt = 4 from rfl)
                    have ht1_5 := lv_neT hs1_5 (show (5 : Int32).toInt = 5 from rfl)
                    have ht1_6 := lv_neT hs1_6 (show (6 : Int32).toInt = 6 from rfl)
                    have ht1_7 := lv_neT hs1_7 (show (7 : Int32).toInt = 7 from rfl)
                    have ht1_8 := lv_neT hs1_8 (show (8 : Int32).toInt = 8 from rfl)
                    refine mm_tableOut (tgt := 107) dX12_has_1 (by omega) (by decide) ?_
                    refine mm_iconst (x := (-1)) dX12_has_107 rfl ?_
                    exact mm_iret dX12_has_108 rfl (Nat.le_refl 0) (Nat.le_refl 0) ⟨_, rfl, rfl, hG, h⟩
def jX12_letter_39 (d : Nat) (x1 : Int32) (x2 : Int32) (M : mm_M) (K : Int32 → mm_M → Prop) (y2 : Int32) (y3 : Int64) (y5 : Int32) (y6 : Int64) : Prop := mm_W mX12_letter (d + 1) 0 0 39 [(2, .int y2), (3, .long y3), (5, .int y5), (6, .long y6)] [] mm_SH M 0 0 (mm_PI K)
def jX12_letter_74 (d : Nat) (x1 : Int32) (x2 : Int32) (M : mm_M) (K : Int32 → mm_M → Prop) (y2 : Int32) (y3 : Int64) (y6 : Int32) : Prop := mm_W mX12_letter (d + 1) 0 0 74 [(2, .int y2), (3, .long y3), (6, .int y6)] [] mm_SH M 0 0 (mm_PI K)
set_option maxRecDepth 100000 in
set_option maxHeartbeats 4000000 in
theorem rX12_letter {d : Nat} {x1 : Int32} {x2 : Int32} {M : mm_M} {K : Int32 → mm_M → Prop} (hG : mm_G M.2.2) (h : mm_CI mX12_isHouse d [.ref 164, .long x1.toInt64] M (fun z3 m3 => if z3 = 0 then (K (-1) m3) else (mm_CI mX12_isIn d [.long x2.toInt64, .long 0, .long 5] m3 (fun z15 m15 => if z15 = 0 then (K (-1) m15) else (vp_in (7 + x1) 14 ∧ jX12_letter_39 d x1 x2 m15 K x2 (m15.2.1 192 (7 + x1).toNatClampNeg) 0 (m15.2.1 192 (7 + x1).toNatClampNeg)))))) : mm_CI mX12_letter (d + 1) [.ref 164, .int x1, .int x2] M K := by
  show mm_W mX12_letter (d + 1) 0 0 0 [(0, .ref 164), (1, .int x1), (2, .int x2)] [] mm_SH M 0 0 (mm_PI K)
  refine mm_aload_n (j := 0) dX12_letter_0 rfl rfl ?_
  refine mm_iload_n (j := 1) dX12_letter_1 rfl rfl ?_
  refine mm_i2l dX12_letter_2 ?_
  refine mm_kVI [.long x1.toInt64] dX12_letter_3 kX12_534 rfl sh_164 (by decide) (by decide) h (fun z3 m3 hG h => ?_)
  refine mm_if_eq (tgt := 21) dX12_letter_6 (by decide) (fun hc => ?_) (fun hc => ?_)
  · rw [if_pos hc] at h
    refine mm_iconst (x := (-1)) dX12_letter_21 rfl ?_
    exact mm_iret dX12_letter_22 rfl (Nat.le_refl 0) (Nat.le_refl 0) ⟨_, rfl, rfl, hG, h⟩
  · rw [if_neg hc] at h
    refine mm_iload_n (j := 2) dX12_letter_9 rfl rfl ?_
    refine mm_i2l dX12_letter_10 ?_
    refine mm_lconst (x := 0) dX12_letter_11 rfl ?_
    refine mm_ldc2 (x := 5) dX12_letter_12 cX12_323 ?_
    refine mm_kSI [.long x2.toInt64, .long 0, .long 5] dX12_letter_15 kX12_303 rfl (by decide) (by decide) h (fun z15 m15 hG h => ?_)
    refine mm_if_ne (tgt := 23) dX12_letter_18 (by decide) (fun hc => ?_) (fun hc => ?_)
    · rw [if_neg hc] at h
      refine mm_aload_n (j := 0) dX12_letter_23 rfl rfl ?_
      refine mm_getR (ci := 12) (N := 116) (r := 192) dX12_letter_24 fX12_96 sh_164 rfl (g_164_39 hG) ?_
      refine mm_bipush (x := 7) dX12_letter_27 rfl ?_
      refine mm_iload_n (j := 1) dX12_letter_29 rfl rfl ?_
      refine mm_iadd dX12_letter_30 ?_
      obtain ⟨hi31, h⟩ := h
      refine mm_laload (N := 14) dX12_letter_31 sh_192 hi31 ?_
      refine mm_lstore_n (lv' := [(3, .long (m15.2.1 192 (7 + x1).toNatClampNeg)), (0, .ref 164), (1, .int x1), (2, .int x2)]) dX12_letter_32 rfl (by decide) rfl ?_
      refine mm_iconst (x := 0) dX12_letter_33 rfl ?_
      refine mm_istore (lv' := [(5, .int 0), (3, .long (m15.2.1 192 (7 + x1).toNatClampNeg)), (0, .ref 164), (1, .int x1), (2, .int x2)]) dX12_letter_34 (by decide) rfl ?_
      refine mm_lload_n (j := 1) dX12_letter_36 rfl rfl ?_
      refine mm_lstore (lv' := [(6, .long (m15.2.1 192 (7 + x1).toNatClampNeg)), (5, .int 0), (3, .long (m15.2.1 192 (7 + x1).toNatClampNeg)), (0, .ref 164), (1, .int x1), (2, .int x2)]) dX12_letter_37 (by decide) rfl ?_
      exact mm_sub [5, 2, 1, 0] rfl h
    · rw [if_pos hc] at h
      refine mm_iconst (x := (-1)) dX12_letter_21 rfl ?_
      exact mm_iret dX12_letter_22 rfl (Nat.le_refl 0) (Nat.le_refl 0) ⟨_, rfl, rfl, hG, h⟩
set_option maxRecDepth 100000 in
set_option maxHeartbeats 4000000 in
theorem lX12_letter_39 {d : Nat} {x1 : Int32} {x2 : Int32} {M : mm_M} {K : Int32 → mm_M → Prop} {y2 : Int32} {y3 : Int64} {y5 : Int32} {y6 : Int64} (hG : mm_G M.2.2) (h : if y6 ≤ 0 then (if y2 < y5 then (jX12_letter_74 d x1 x2 M K y2 y3 (y5 - 1)) else (K 0 M)) else (jX12_letter_39 d x1 x2 M K y2 y3 (y5 + 1) (y6 / 27))) : jX12_letter_39 d x1 x2 M K y2 y3 y5 y6 := by
  unfold jX12_letter_39
  refine mm_lload (j := 3) dX12_letter_39 rfl ?_
  refine mm_lconst (x := 0) dX12_letter_41 rfl ?_
  refine mm_lcmp dX12_letter_42 ?_
  refine mm_if_le (tgt := 60) dX12_letter_43 (by decide) (fun hc => ?_) (fun hc => ?_)
  · rw [if_pos (lgc_le.mp hc)] at h
    refine mm_iload_n (j := 0) dX12_letter_60 rfl rfl ?_
    refine mm_iload (j := 2) dX12_letter_61 rfl ?_
    refine mm_icmp_lt (tgt := 68) dX12_letter_63 (by decide) (fun hc => ?_) (fun hc => ?_)
    · rw [if_pos hc] at h
      refine mm_iload (j := 2) dX12_letter_68 rfl ?_
      refine mm_iconst (x := 1) dX12_letter_70 rfl ?_
      refine mm_isub dX12_letter_71 ?_
      refine mm_istore (lv' := [(6, .int (y5 - 1)), (2, .int y2), (3, .long y3), (5, .int y5)]) dX12_letter_72 (by decide) rfl ?_
      exact mm_sub [1, 2, 0] rfl h
    · rw [if_neg hc] at h
      refine mm_iconst (x := 0) dX12_letter_66 rfl ?_
      exact mm_iret dX12_letter_67 rfl (Nat.le_refl 0) (Nat.le_refl 0) ⟨_, rfl, rfl, hG, h⟩
  · rw [if_neg (fun q => hc (lgc_le.mpr q))] at h
    refine mm_iinc (j := 2) (v := y5 + 1) (lv' := [(5, .int (y5 + 1)), (2, .int y2), (3, .long y3), (6, .long y6)]) dX12_letter_46 rfl rfl (by decide) rfl ?_
    refine mm_lload (j := 3) dX12_letter_49 rfl ?_
    refine mm_ldc2 (x := 27) dX12_letter_51 cX12_314 ?_
    refine mm_ldiv dX12_letter_54 (by decide) ?_
    refine mm_lstore (lv' := [(6, .long (y6 / 27)), (5, .int (y5 + 1)), (2, .int y2), (3, .long y3)]) dX12_letter_55 (by decide) rfl ?_
    refine mm_goto (tgt := 39) dX12_letter_57 (by decide) ?_
    exact mm_sub [2, 3, 1, 0] rfl h
set_option maxRecDepth 100000 in
set_option maxHeartbeats 4000000 in
theorem lX12_letter_74 {d : Nat} {x1 : Int32} {x2 : Int32} {M : mm_M} {K : Int32 → mm_M → Prop} {y2 : Int32} {y3 : Int64} {y6 : Int32} (hG : mm_G M.2.2) (h : if y6 ≤ y2 then (K ((y3 - y3 / 27 * 27).toInt32) M) else (jX12_letter_74 d x1 x2 M K y2 (y3 / 27) (y6 + (-1)))) : jX12_letter_74 d x1 x2 M K y2 y3 y6 := by
  unfold jX12_letter_74
  refine mm_iload (j := 2) dX12_letter_74 rfl ?_
  refine mm_iload_n (j := 0) dX12_letter_76 rfl rfl ?_
  refine mm_icmp_le (tgt := 92) dX12_letter_77 (by decide) (fun hc => ?_) (fun hc => ?_)
  · rw [if_pos hc] at h
    refine mm_lload_n (j := 1) dX12_letter_92 rfl rfl ?_
    refine mm_ldc2 (x := 27) dX12_letter_93 cX12_314 ?_
    refine mm_lrem dX12_letter_96 (by decide) ?_
    refine mm_l2i dX12_letter_97 ?_
    exact mm_iret dX12_letter_98 rfl (Nat.le_refl 0) (Nat.le_refl 0) ⟨_, rfl, rfl, hG, h⟩
  · rw [if_neg hc] at h
    refine mm_lload_n (j := 1) dX12_letter_80 rfl rfl ?_
    refine mm_ldc2 (x := 27) dX12_letter_81 cX12_314 ?_
    refine mm_ldiv dX12_letter_84 (by decide) ?_
    refine mm_lstore_n (lv' := [(3, .long (y3 / 27)), (2, .int y2), (6, .int y6)]) dX12_letter_85 rfl (by decide) rfl ?_
    refine mm_iinc (j := 2) (v := y6 + (-1)) (lv' := [(6, .int (y6 + (-1))), (3, .long (y3 / 27)), (2, .int y2)]) dX12_letter_86 rfl rfl (by decide) rfl ?_
    refine mm_goto (tgt := 74) dX12_letter_89 (by decide) ?_
    exact mm_sub [2, 1, 0] rfl h
set_option maxRecDepth 100000 in
set_option maxHeartbeats 4000000 in
theorem rX12_house {d : Nat} {x1 : Int32} {x2 : Int32} {M : mm_M} {K : Int32 → mm_M → Prop} (hG : mm_G M.2.2) (h : mm_CI mX12_isHouse d [.ref 164, .long x1.toInt64] M (fun z3 m3 => if z3 = 0 then (K (-1) m3) else (if x2 = 0 then (mm_CI mX12_flourOf d [.ref 164, .int x1] m3 (fun z50 m50 => K z50 m50)) else (if x2 = 1 then (vp_in (7 + x1) 14 ∧ K (m3.1 194 (7 + x1).toNatClampNeg) m3) else (if x2 = 2 then (mm_CI mX12_hungerOf d [.ref 164, .int x1] m3 (fun z66 m66 => K z66 m66)) else (if x2 = 3 then (vp_in (1 + (3 * x1)) 204 ∧ K (m3.1 199 (1 + (3 * x1)).toNatClampNeg) m3) else (if x2 = 4 then (mm_CI mX12_enemyMany d [.ref 164, .int x1] m3 (fun z83 m83 => K z83 m83)) else (K (-1) m3)))))))) : mm_CI mX12_house (d + 1) [.ref 164, .int x1, .int x2] M K := by
  show mm_W mX12_house (d + 1) 0 0 0 [(0, .ref 164), (1, .int x1), (2, .int x2)] [] mm_SH M 0 0 (mm_PI K)
  refine mm_aload_n (j := 0) dX12_house_0 rfl rfl ?_
  refine mm_iload_n (j := 1) dX12_house_1 rfl rfl ?_
  refine mm_i2l dX12_house_2 ?_
  refine mm_kVI [.long x1.toInt64] dX12_house_3 kX12_534 rfl sh_164 (by decide) (by decide) h (fun z3 m3 hG h => ?_)
  refine mm_if_ne (tgt := 11) dX12_house_6 (by decide) (fun hc => ?_) (fun hc => ?_)
  · rw [if_neg hc] at h
    refine mm_iload_n (j := 2) dX12_house_11 rfl rfl ?_
    by_cases hs12_0 : x2 = 0
    · rw [if_pos hs12_0] at h
      refine mm_tableIn (off := 36) (tgt := 48) dX12_house_12 (by rw [hs12_0]; decide) (by rw [hs12_0]; decide) (by rw [hs12_0]; rfl) (by decide) ?_
      refine mm_aload_n (j := 0) dX12_house_48 rfl rfl ?_
      refine mm_iload_n (j := 1) dX12_house_49 rfl rfl ?_
      refine mm_kVI [.int x1] dX12_house_50 kX12_465 rfl sh_164 (by decide) (by decide) h (fun z50 m50 hG h => ?_)
      exact mm_iret dX12_house_53 rfl (Nat.le_refl 0) (Nat.le_refl 0) ⟨_, rfl, rfl, hG, h⟩
    · rw [if_neg hs12_0] at h
      by_cases hs12_1 : x2 = 1
      · rw [if_pos hs12_1] at h
        refine mm_tableIn (off := 42) (tgt := 54) dX12_house_12 (by rw [hs12_1]; decide) (by rw [hs12_1]; decide) (by rw [hs12_1]; rfl) (by decide) ?_
        refine mm_aload_n (j := 0) dX12_house_54 rfl rfl ?_
        refine mm_getR (ci := 12) (N := 116) (r := 194) dX12_house_55 fX12_103 sh_164 rfl (g_164_41 hG) ?_
        refine mm_bipush (x := 7) dX12_house_58 rfl ?_
        refine mm_iload_n (j := 1) dX12_house_60 rfl rfl ?_
        refine mm_iadd dX12_house_61 ?_
        obtain ⟨hi62, h⟩ := h
        refine mm_iaload (N := 14) dX12_house_62 sh_194 hi62 ?_
        exact mm_iret dX12_house_63 rfl (Nat.le_refl 0) (Nat.le_refl 0) ⟨_, rfl, rfl, hG, h⟩
      · rw [if_neg hs12_1] at h
        by_cases hs12_2 : x2 = 2
        · rw [if_pos hs12_2] at h
          refine mm_tableIn (off := 52) (tgt := 64) dX12_house_12 (by rw [hs12_2]; decide) (by rw [hs12_2]; decide) (by rw [hs12_2]; rfl) (by decide) ?_
          refine mm_aload_n (j := 0) dX12_house_64 rfl rfl ?_
          refine mm_iload_n (j := 1) dX12_house_65 rfl rfl ?_
          refine mm_kVI [.int x1] dX12_house_66 kX12_459 rfl sh_164 (by decide) (by decide) h (fun z66 m66 hG h => ?_)
          exact mm_iret dX12_house_69 rfl (Nat.le_refl 0) (Nat.le_refl 0) ⟨_, rfl, rfl, hG, h⟩
        · rw [if_neg hs12_2] at h
          by_cases hs12_3 : x2 = 3
          · rw [if_pos hs12_3] at h
            refine mm_tableIn (off := 58) (tgt := 70) dX12_house_12 (by rw [hs12_3]; decide) (by rw [hs12_3]; decide) (by rw [hs12_3]; rfl) (by decide) ?_
            refine mm_aload_n (j := 0) dX12_house_70 rfl rfl ?_
            refine mm_getR (ci := 12) (N := 116) (r := 199) dX12_house_71 fX12_118 sh_164 rfl (g_164_50 hG) ?_
            refine mm_iconst (x := 1) dX12_house_74 rfl ?_
            refine mm_iconst (x := 3) dX12_house_75 rfl ?_
            refine mm_iload_n (j := 1) dX12_house_76 rfl rfl ?_
            refine mm_imul dX12_house_77 ?_
            refine mm_iadd dX12_house_78 ?_
            obtain ⟨hi79, h⟩ := h
            refine mm_iaload (N := 204) dX12_house_79 sh_199 hi79 ?_
            exact mm_iret dX12_house_80 rfl (Nat.le_refl 0) (Nat.le_refl 0) ⟨_, rfl, rfl, hG, h⟩
          · rw [if_neg hs12_3] at h
            by_cases hs12_4 : x2 = 4
            · rw [if_pos hs12_4] at h
              refine mm_tableIn (off := 69) (tgt := 81) dX12_house_12 (by rw [hs12_4]; decide) (by rw [hs12_4]; decide) (by rw [hs12_4]; rfl) (by decide) ?_
              refine mm_aload_n (j := 0) dX12_house_81 rfl rfl ?_
              refine mm_iload_n (j := 1) dX12_house_82 rfl rfl ?_
              refine mm_kVI [.int x1] dX12_house_83 kX12_538 rfl sh_164 (by decide) (by decide) h (fun z83 m83 hG h => ?_)
              exact mm_iret dX12_house_86 rfl (Nat.le_refl 0) (Nat.le_refl 0) ⟨_, rfl, rfl, hG, h⟩
            · rw [if_neg hs12_4] at h
              have ht12_0 := lv_neT hs12_0 (show (0 : Int32).toInt = 0 from rfl)
              have ht12_1 := lv_neT hs12_1 (show (1 : Int32).toInt = 1 from rfl)
              have ht12_2 := lv_neT hs12_2 (show (2 : Int32).toInt = 2 from rfl)
              have ht12_3 := lv_neT hs12_3 (show (3 : Int32).toInt = 3 from rfl)
              have ht12_4 := lv_neT hs12_4 (show (4 : Int32).toInt = 4 from rfl)
              refine mm_tableOut (tgt := 87) dX12_house_12 (by omega) (by decide) ?_
              refine mm_iconst (x := (-1)) dX12_house_87 rfl ?_
              exact mm_iret dX12_house_88 rfl (Nat.le_refl 0) (Nat.le_refl 0) ⟨_, rfl, rfl, hG, h⟩
  · rw [if_pos hc] at h
    refine mm_iconst (x := (-1)) dX12_house_9 rfl ?_
    exact mm_iret dX12_house_10 rfl (Nat.le_refl 0) (Nat.le_refl 0) ⟨_, rfl, rfl, hG, h⟩
set_option maxRecDepth 100000 in
set_option maxHeartbeats 4000000 in
theorem rX12_areTwo {d : Nat} {x1 : Int32} {x2 : Int32} {M : mm_M} {K : Int32 → mm_M → Prop} (hG : mm_G M.2.2) (h : mm_CI mX12_isHouse d [.ref 164, .long x1.toInt64] M (fun z3 m3 => if z3 = 0 then (K 0 m3) else (mm_CI mX12_isHouse d [.ref 164, .long x2.toInt64] m3 (fun z12 m12 => if z12 = 0 then (K 0 m12) else (if x1 = x2 then (K 0 m12) else (K 1 m12)))))) : mm_CI mX12_areTwo (d + 1) [.ref 164, .int x1, .int x2] M K := by
  show mm_W mX12_areTwo (d + 1) 0 0 0 [(0, .ref 164), (1, .int x1), (2, .int x2)] [] mm_SH M 0 0 (mm_PI K)
  refine mm_aload_n (j := 0) dX12_areTwo_0 rfl rfl ?_
  refine mm_iload_n (j := 1) dX12_areTwo_1 rfl rfl ?_
  refine mm_i2l dX12_areTwo_2 ?_
  refine mm_kVI [.long x1.toInt64] dX12_areTwo_3 kX12_534 rfl sh_164 (by decide) (by decide) h (fun z3 m3 hG h => ?_)
  refine mm_if_eq (tgt := 27) dX12_areTwo_6 (by decide) (fun hc => ?_) (fun hc => ?_)
  · rw [if_pos hc] at h
    refine mm_iconst (x := 0) dX12_areTwo_27 rfl ?_
    exact mm_zret dX12_areTwo_28 rfl rfl (Nat.le_refl 0) (Nat.le_refl 0) ⟨_, rfl, rfl, hG, h⟩
  · rw [if_neg hc] at h
    refine mm_aload_n (j := 0) dX12_areTwo_9 rfl rfl ?_
    refine mm_iload_n (j := 2) dX12_areTwo_10 rfl rfl ?_
    refine mm_i2l dX12_areTwo_11 ?_
    refine mm_kVI [.long x2.toInt64] dX12_areTwo_12 kX12_534 rfl sh_164 (by decide) (by decide) h (fun z12 m12 hG h => ?_)
    refine mm_if_eq (tgt := 27) dX12_areTwo_15 (by decide) (fun hc => ?_) (fun hc => ?_)
    · rw [if_pos hc] at h
      refine mm_iconst (x := 0) dX12_areTwo_27 rfl ?_
      exact mm_zret dX12_areTwo_28 rfl rfl (Nat.le_refl 0) (Nat.le_refl 0) ⟨_, rfl, rfl, hG, h⟩
    · rw [if_neg hc] at h
      refine mm_iload_n (j := 1) dX12_areTwo_18 rfl rfl ?_
      refine mm_iload_n (j := 2) dX12_areTwo_19 rfl rfl ?_
      refine mm_icmp_eq (tgt := 27) dX12_areTwo_20 (by decide) (fun hc => ?_) (fun hc => ?_)
      · rw [if_pos hc] at h
        refine mm_iconst (x := 0) dX12_areTwo_27 rfl ?_
        exact mm_zret dX12_areTwo_28 rfl rfl (Nat.le_refl 0) (Nat.le_refl 0) ⟨_, rfl, rfl, hG, h⟩
      · rw [if_neg hc] at h
        refine mm_iconst (x := 1) dX12_areTwo_23 rfl ?_
        refine mm_goto (tgt := 28) dX12_areTwo_24 (by decide) ?_
        exact mm_zret dX12_areTwo_28 rfl rfl (Nat.le_refl 0) (Nat.le_refl 0) ⟨_, rfl, rfl, hG, h⟩
set_option maxRecDepth 100000 in
set_option maxHeartbeats 4000000 in
theorem rX12_hate {d : Nat} {x1 : Int32} {x2 : Int32} {M : mm_M} {K : Int32 → mm_M → Prop} (hG : mm_G M.2.2) (h : mm_CI mX12_areTwo d [.ref 164, .int x1, .int x2] M (fun z3 m3 => if z3 = 0 then (K (-1) m3) else (mm_CI mX12_hateOf d [.ref 164, .int x1, .int x2] m3 (fun z12 m12 => K z12 m12)))) : mm_CI mX12_hate (d + 1) [.ref 164, .int x1, .int x2] M K := by
  show mm_W mX12_hate (d + 1) 0 0 0 [(0, .ref 164), (1, .int x1), (2, .int x2)] [] mm_SH M 0 0 (mm_PI K)
  refine mm_aload_n (j := 0) dX12_hate_0 rfl rfl ?_
  refine mm_iload_n (j := 1) dX12_hate_1 rfl rfl ?_
  refine mm_iload_n (j := 2) dX12_hate_2 rfl rfl ?_
  refine mm_kVI [.int x1, .int x2] dX12_hate_3 kX12_541 rfl sh_164 (by decide) (by decide) h (fun z3 m3 hG h => ?_)
  refine mm_if_eq (tgt := 18) dX12_hate_6 (by decide) (fun hc => ?_) (fun hc => ?_)
  · rw [if_pos hc] at h
    refine mm_iconst (x := (-1)) dX12_hate_18 rfl ?_
    exact mm_iret dX12_hate_19 rfl (Nat.le_refl 0) (Nat.le_refl 0) ⟨_, rfl, rfl, hG, h⟩
  · rw [if_neg hc] at h
    refine mm_aload_n (j := 0) dX12_hate_9 rfl rfl ?_
    refine mm_iload_n (j := 1) dX12_hate_10 rfl rfl ?_
    refine mm_iload_n (j := 2) dX12_hate_11 rfl rfl ?_
    refine mm_kVI [.int x1, .int x2] dX12_hate_12 kX12_415 rfl sh_164 (by decide) (by decide) h (fun z12 m12 hG h => ?_)
    refine mm_goto (tgt := 19) dX12_hate_15 (by decide) ?_
    exact mm_iret dX12_hate_19 rfl (Nat.le_refl 0) (Nat.le_refl 0) ⟨_, rfl, rfl, hG, h⟩
set_option maxRecDepth 100000 in
set_option maxHeartbeats 4000000 in
theorem rX12_baker {d : Nat} {x1 : Int32} {M : mm_M} {K : Int32 → mm_M → Prop} (hG : mm_G M.2.2) (h : mm_CI mX12_isHouse d [.ref 164, .long x1.toInt64] M (fun z3 m3 => if z3 = 0 then (K (-1) m3) else (mm_CI mX12_isThere d [.ref 164, .int x1] m3 (fun z11 m11 => if z11 = 0 then (K (-1) m11) else (mm_CV mX12_putsAside d [.ref 164] m11 (fun m20 => mm_CV mX12_allEat d [.ref 164] m20 (fun m24 => vp_in x1 7 ∧ mm_CV mX12_takesBack d [.ref 164] m24 (fun m35 => K (m24.1 202 (x1).toNatClampNeg) m35)))))))) : mm_CI mX12_baker (d + 1) [.ref 164, .int x1] M K := by
  show mm_W mX12_baker (d + 1) 0 0 0 [(0, .ref 164), (1, .int x1)] [] mm_SH M 0 0 (mm_PI K)
  refine mm_aload_n (j := 0) dX12_baker_0 rfl rfl ?_
  refine mm_iload_n (j := 1) dX12_baker_1 rfl rfl ?_
  refine mm_i2l dX12_baker_2 ?_
  refine mm_kVI [.long x1.toInt64] dX12_baker_3 kX12_534 rfl sh_164 (by decide) (by decide) h (fun z3 m3 hG h => ?_)
  refine mm_if_eq (tgt := 17) dX12_baker_6 (by decide) (fun hc => ?_) (fun hc => ?_)
  · rw [if_pos hc] at h
    refine mm_iconst (x := (-1)) dX12_baker_17 rfl ?_
    exact mm_iret dX12_baker_18 rfl (Nat.le_refl 0) (Nat.le_refl 0) ⟨_, rfl, rfl, hG, h⟩
  · rw [if_neg hc] at h
    refine mm_aload_n (j := 0) dX12_baker_9 rfl rfl ?_
    refine mm_iload_n (j := 1) dX12_baker_10 rfl rfl ?_
    refine mm_kVI [.int x1] dX12_baker_11 kX12_462 rfl sh_164 (by decide) (by decide) h (fun z11 m11 hG h => ?_)
    refine mm_if_ne (tgt := 19) dX12_baker_14 (by decide) (fun hc => ?_) (fun hc => ?_)
    · rw [if_neg hc] at h
      refine mm_aload_n (j := 0) dX12_baker_19 rfl rfl ?_
      refine mm_kVV [] dX12_baker_20 kX12_544 rfl sh_164 (by decide) (by decide) h (fun m20 hG h => ?_)
      refine mm_aload_n (j := 0) dX12_baker_23 rfl rfl ?_
      refine mm_kVV [] dX12_baker_24 kX12_501 rfl sh_164 (by decide) (by decide) h (fun m24 hG h => ?_)
      refine mm_aload_n (j := 0) dX12_baker_27 rfl rfl ?_
      refine mm_getR (ci := 12) (N := 116) (r := 202) dX12_baker_28 fX12_127 sh_164 rfl (g_164_61 hG) ?_
      refine mm_iload_n (j := 1) dX12_baker_31 rfl rfl ?_
      obtain ⟨hi32, h⟩ := h
      refine mm_iaload (N := 7) dX12_baker_32 sh_202 hi32 ?_
      refine mm_istore_n (lv' := [(2, .int (m24.1 202 (x1).toNatClampNeg)), (0, .ref 164), (1, .int x1)]) dX12_baker_33 rfl (by decide) rfl ?_
      refine mm_aload_n (j := 1) dX12_baker_34 rfl rfl ?_
      refine mm_kVV [] dX12_baker_35 kX12_547 rfl sh_164 (by decide) (by decide) h (fun m35 hG h => ?_)
      refine mm_iload_n (j := 0) dX12_baker_38 rfl rfl ?_
      exact mm_iret dX12_baker_39 rfl (Nat.le_refl 0) (Nat.le_refl 0) ⟨_, rfl, rfl, hG, h⟩
    · rw [if_pos hc] at h
      refine mm_iconst (x := (-1)) dX12_baker_17 rfl ?_
      exact mm_iret dX12_baker_18 rfl (Nat.le_refl 0) (Nat.le_refl 0) ⟨_, rfl, rfl, hG, h⟩
set_option maxRecDepth 100000 in
set_option maxHeartbeats 4000000 in
theorem rX12_taste {d : Nat} {x1 : Int32} {x2 : Int32} {M : mm_M} {K : Int32 → mm_M → Prop} (hG : mm_G M.2.2) (h : mm_CI mX12_areTwo d [.ref 164, .int x1, .int x2] M (fun z3 m3 => if z3 = 0 then (K (-1) m3) else (mm_CI mX12_areEnemies d [.ref 164, .int x1, .int x2] m3 (fun z12 m12 => if z12 = 0 then (K (-1) m12) else (mm_CI mX12_tasteOf d [.ref 164, .int x1, .int x2] m12 (fun z21 m21 => K z21 m21)))))) : mm_CI mX12_taste (d + 1) [.ref 164, .int x1, .int x2] M K := by
  show mm_W mX12_taste (d + 1) 0 0 0 [(0, .ref 164), (1, .int x1), (2, .int x2)] [] mm_SH M 0 0 (mm_PI K)
  refine mm_aload_n (j := 0) dX12_taste_0 rfl rfl ?_
  refine mm_iload_n (j := 1) dX12_taste_1 rfl rfl ?_
  refine mm_iload_n (j := 2) dX12_taste_2 rfl rfl ?_
  refine mm_kVI [.int x1, .int x2] dX12_taste_3 kX12_541 rfl sh_164 (by decide) (by decide) h (fun z3 m3 hG h => ?_)
  refine mm_if_eq (tgt := 27) dX12_taste_6 (by decide) (fun hc => ?_) (fun hc => ?_)
  · rw [if_pos hc] at h
    refine mm_iconst (x := (-1)) dX12_taste_27 rfl ?_
    exact mm_iret dX12_taste_28 rfl (Nat.le_refl 0) (Nat.le_refl 0) ⟨_, rfl, rfl, hG, h⟩
  · rw [if_neg hc] at h
    refine mm_aload_n (j := 0) dX12_taste_9 rfl rfl ?_
    refine mm_iload_n (j := 1) dX12_taste_10 rfl rfl ?_
    refine mm_iload_n (j := 2) dX12_taste_11 rfl rfl ?_
    refine mm_kVI [.int x1, .int x2] dX12_taste_12 kX12_418 rfl sh_164 (by decide) (by decide) h (fun z12 m12 hG h => ?_)
    refine mm_if_eq (tgt := 27) dX12_taste_15 (by decide) (fun hc => ?_) (fun hc => ?_)
    · rw [if_pos hc] at h
      refine mm_iconst (x := (-1)) dX12_taste_27 rfl ?_
      exact mm_iret dX12_taste_28 rfl (Nat.le_refl 0) (Nat.le_refl 0) ⟨_, rfl, rfl, hG, h⟩
    · rw [if_neg hc] at h
      refine mm_aload_n (j := 0) dX12_taste_18 rfl rfl ?_
      refine mm_iload_n (j := 1) dX12_taste_19 rfl rfl ?_
      refine mm_iload_n (j := 2) dX12_taste_20 rfl rfl ?_
      refine mm_kVI [.int x1, .int x2] dX12_taste_21 kX12_486 rfl sh_164 (by decide) (by decide) h (fun z21 m21 hG h => ?_)
      refine mm_goto (tgt := 28) dX12_taste_24 (by decide) ?_
      exact mm_iret dX12_taste_28 rfl (Nat.le_refl 0) (Nat.le_refl 0) ⟨_, rfl, rfl, hG, h⟩
set_option maxRecDepth 100000 in
set_option maxHeartbeats 4000000 in
theorem rX12_kept {d : Nat} {x1 : Int32} {x2 : Int32} {M : mm_M} {K : Int32 → mm_M → Prop} (hG : mm_G M.2.2) (h : mm_CI mX12_isIn d [.long x1.toInt64, .long 0, .long (((M.1 199 (43).toNatClampNeg) - 1).toInt64)] M (fun z13 m13 => if z13 = 0 then (K (-1) m13) else (mm_CI mX12_isIn d [.long x2.toInt64, .long 0, .long 3] m13 (fun z25 m25 => if z25 = 0 then (K (-1) m25) else (vp_in ((44 + (4 * x1)) + x2) 204 ∧ K (m25.1 199 ((44 + (4 * x1)) + x2).toNatClampNeg) m25))))) : mm_CI mX12_kept (d + 1) [.ref 164, .int x1, .int x2] M K := by
  show mm_W mX12_kept (d + 1) 0 0 0 [(0, .ref 164), (1, .int x1), (2, .int x2)] [] mm_SH M 0 0 (mm_PI K)
  refine mm_iload_n (j := 1) dX12_kept_0 rfl rfl ?_
  refine mm_i2l dX12_kept_1 ?_
  refine mm_lconst (x := 0) dX12_kept_2 rfl ?_
  refine mm_aload_n (j := 0) dX12_kept_3 rfl rfl ?_
  refine mm_getR (ci := 12) (N := 116) (r := 199) dX12_kept_4 fX12_118 sh_164 rfl (g_164_50 hG) ?_
  refine mm_bipush (x := 43) dX12_kept_7 rfl ?_
  refine mm_iaload (N := 204) dX12_kept_9 sh_199 (by decide) ?_
  refine mm_iconst (x := 1) dX12_kept_10 rfl ?_
  refine mm_isub dX12_kept_11 ?_
  refine mm_i2l dX12_kept_12 ?_
  refine mm_kSI [.long x1.toInt64, .long 0, .long (((M.1 199 (43).toNatClampNeg) - 1).toInt64)] dX12_kept_13 kX12_303 rfl (by decide) (by decide) h (fun z13 m13 hG h => ?_)
  refine mm_if_eq (tgt := 47) dX12_kept_16 (by decide) (fun hc => ?_) (fun hc => ?_)
  · rw [if_pos hc] at h
    refine mm_iconst (x := (-1)) dX12_kept_47 rfl ?_
    exact mm_iret dX12_kept_48 rfl (Nat.le_refl 0) (Nat.le_refl 0) ⟨_, rfl, rfl, hG, h⟩
  · rw [if_neg hc] at h
    refine mm_iload_n (j := 2) dX12_kept_19 rfl rfl ?_
    refine mm_i2l dX12_kept_20 ?_
    refine mm_lconst (x := 0) dX12_kept_21 rfl ?_
    refine mm_ldc2 (x := 3) dX12_kept_22 cX12_321 ?_
    refine mm_kSI [.long x2.toInt64, .long 0, .long 3] dX12_kept_25 kX12_303 rfl (by decide) (by decide) h (fun z25 m25 hG h => ?_)
    refine mm_if_eq (tgt := 47) dX12_kept_28 (by decide) (fun hc => ?_) (fun hc => ?_)
    · rw [if_pos hc] at h
      refine mm_iconst (x := (-1)) dX12_kept_47 rfl ?_
      exact mm_iret dX12_kept_48 rfl (Nat.le_refl 0) (Nat.le_refl 0) ⟨_, rfl, rfl, hG, h⟩
    · rw [if_neg hc] at h
      refine mm_aload_n (j := 0) dX12_kept_31 rfl rfl ?_
      refine mm_getR (ci := 12) (N := 116) (r := 199) dX12_kept_32 fX12_118 sh_164 rfl (g_164_50 hG) ?_
      refine mm_bipush (x := 44) dX12_kept_35 rfl ?_
      refine mm_iconst (x := 4) dX12_kept_37 rfl ?_
      refine mm_iload_n (j := 1) dX12_kept_38 rfl rfl ?_
      refine mm_imul dX12_kept_39 ?_
      refine mm_iadd dX12_kept_40 ?_
      refine mm_iload_n (j := 2) dX12_kept_41 rfl rfl ?_
      refine mm_iadd dX12_kept_42 ?_
      obtain ⟨hi43, h⟩ := h
      refine mm_iaload (N := 204) dX12_kept_43 sh_199 hi43 ?_
      refine mm_goto (tgt := 48) dX12_kept_44 (by decide) ?_
      exact mm_iret dX12_kept_48 rfl (Nat.le_refl 0) (Nat.le_refl 0) ⟨_, rfl, rfl, hG, h⟩
set_option maxRecDepth 100000 in
set_option maxHeartbeats 4000000 in
theorem rX12_later {d : Nat} {x1 : Int32} {x2 : Int32} {x3 : Int32} {M : mm_M} {K : Int32 → mm_M → Prop} (hG : mm_G M.2.2) (h : mm_CI mX12_isHouse d [.ref 164, .long x1.toInt64] M (fun z3 m3 => if z3 = 0 then (K (-1) m3) else (mm_CI mX12_isAhead d [.ref 164, .int x2, .int 0, .int 60] m3 (fun z14 m14 => if z14 = 0 then (K (-1) m14) else (mm_CI mX12_isIn d [.long x3.toInt64, .long 0, .long 2] m14 (fun z26 m26 => if z26 = 0 then (K (-1) m26) else (mm_CV mX12_putsAside d [.ref 164] m26 (fun m35 => mm_CV mX12_daysGo d [.ref 164, .int x2] m35 (fun m40 => if x3 = 0 then (mm_CI mX12_flourOf d [.ref 164, .int x1] m40 (fun z49 m49 => mm_CV mX12_takesBack d [.ref 164] m49 (fun m81 => K z49 m81))) else (if x3 = 1 then (mm_CI mX12_hungerOf d [.ref 164, .int x1] m40 (fun z62 m62 => mm_CV mX12_takesBack d [.ref 164] m62 (fun m81 => K z62 m81))) else (vp_in (1 + (3 * x1)) 204 ∧ mm_CV mX12_takesBack d [.ref 164] m40 (fun m81 => K (m40.1 199 (1 + (3 * x1)).toNatClampNeg) m81)))))))))))) : mm_CI mX12_later (d + 1) [.ref 164, .int x1, .int x2, .int x3] M K := by
  show mm_W mX12_later (d + 1) 0 0 0 [(0, .ref 164), (1, .int x1), (2, .int x2), (3, .int x3)] [] mm_SH M 0 0 (mm_PI K)
  refine mm_aload_n (j := 0) dX12_later_0 rfl rfl ?_
  refine mm_iload_n (j := 1) dX12_later_1 rfl rfl ?_
  refine mm_i2l dX12_later_2 ?_
  refine mm_kVI [.long x1.toInt64] dX12_later_3 kX12_534 rfl sh_164 (by decide) (by decide) h (fun z3 m3 hG h => ?_)
  refine mm_if_eq (tgt := 32) dX12_later_6 (by decide) (fun hc => ?_) (fun hc => ?_)
  · rw [if_pos hc] at h
    refine mm_iconst (x := (-1)) dX12_later_32 rfl ?_
    exact mm_iret dX12_later_33 rfl (Nat.le_refl 0) (Nat.le_refl 0) ⟨_, rfl, rfl, hG, h⟩
  · rw [if_neg hc] at h
    refine mm_aload_n (j := 0) dX12_later_9 rfl rfl ?_
    refine mm_iload_n (j := 2) dX12_later_10 rfl rfl ?_
    refine mm_iconst (x := 0) dX12_later_11 rfl ?_
    refine mm_bipush (x := 60) dX12_later_12 rfl ?_
    refine mm_kVI [.int x2, .int 0, .int 60] dX12_later_14 kX12_550 rfl sh_164 (by decide) (by decide) h (fun z14 m14 hG h => ?_)
    refine mm_if_eq (tgt := 32) dX12_later_17 (by decide) (fun hc => ?_) (fun hc => ?_)
    · rw [if_pos hc] at h
      refine mm_iconst (x := (-1)) dX12_later_32 rfl ?_
      exact mm_iret dX12_later_33 rfl (Nat.le_refl 0) (Nat.le_refl 0) ⟨_, rfl, rfl, hG, h⟩
    · rw [if_neg hc] at h
      refine mm_iload_n (j := 3) dX12_later_20 rfl rfl ?_
      refine mm_i2l dX12_later_21 ?_
      refine mm_lconst (x := 0) dX12_later_22 rfl ?_
      refine mm_ldc2 (x := 2) dX12_later_23 cX12_554 ?_
      refine mm_kSI [.long x3.toInt64, .long 0, .long 2] dX12_later_26 kX12_303 rfl (by decide) (by decide) h (fun z26 m26 hG h => ?_)
      refine mm_if_ne (tgt := 34) dX12_later_29 (by decide) (fun hc => ?_) (fun hc => ?_)
      · rw [if_neg hc] at h
        refine mm_aload_n (j := 0) dX12_later_34 rfl rfl ?_
        refine mm_kVV [] dX12_later_35 kX12_544 rfl sh_164 (by decide) (by decide) h (fun m35 hG h => ?_)
        refine mm_aload_n (j := 0) dX12_later_38 rfl rfl ?_
        refine mm_iload_n (j := 2) dX12_later_39 rfl rfl ?_
        refine mm_kVV [.int x2] dX12_later_40 kX12_556 rfl sh_164 (by decide) (by decide) h (fun m40 hG h => ?_)
        refine mm_iload_n (j := 3) dX12_later_43 rfl rfl ?_
        refine mm_if_ne (tgt := 55) dX12_later_44 (by decide) (fun hc => ?_) (fun hc => ?_)
        · rw [if_neg hc] at h
          refine mm_iload_n (j := 3) dX12_later_55 rfl rfl ?_
          refine mm_iconst (x := 1) dX12_later_56 rfl ?_
          refine mm_icmp_ne (tgt := 68) dX12_later_57 (by decide) (fun hc => ?_) (fun hc => ?_)
          · rw [if_neg hc] at h
            refine mm_aload_n (j := 0) dX12_later_68 rfl rfl ?_
            refine mm_getR (ci := 12) (N := 116) (r := 199) dX12_later_69 fX12_118 sh_164 rfl (g_164_50 hG) ?_
            refine mm_iconst (x := 1) dX12_later_72 rfl ?_
            refine mm_iconst (x := 3) dX12_later_73 rfl ?_
            refine mm_iload_n (j := 1) dX12_later_74 rfl rfl ?_
            refine mm_imul dX12_later_75 ?_
            refine mm_iadd dX12_later_76 ?_
            obtain ⟨hi77, h⟩ := h
            refine mm_iaload (N := 204) dX12_later_77 sh_199 hi77 ?_
            refine mm_istore (lv' := [(4, .int (m40.1 199 (1 + (3 * x1)).toNatClampNeg)), (0, .ref 164), (1, .int x1), (2, .int x2), (3, .int x3)]) dX12_later_78 (by decide) rfl ?_
            refine mm_aload_n (j := 1) dX12_later_80 rfl rfl ?_
            refine mm_kVV [] dX12_later_81 kX12_547 rfl sh_164 (by decide) (by decide) h (fun m81 hG h => ?_)
            refine mm_iload (j := 0) dX12_later_84 rfl ?_
            exact mm_iret dX12_later_86 rfl (Nat.le_refl 0) (Nat.le_refl 0) ⟨_, rfl, rfl, hG, h⟩
          · rw [if_pos hc] at h
            refine mm_aload_n (j := 0) dX12_later_60 rfl rfl ?_
            refine mm_iload_n (j := 1) dX12_later_61 rfl rfl ?_
            refine mm_kVI [.int x1] dX12_later_62 kX12_459 rfl sh_164 (by decide) (by decide) h (fun z62 m62 hG h => ?_)
            refine mm_goto (tgt := 78) dX12_later_65 (by decide) ?_
            refine mm_istore (lv' := [(4, .int z62), (0, .ref 164), (1, .int x1), (2, .int x2), (3, .int x3)]) dX12_later_78 (by decide) rfl ?_
            refine mm_aload_n (j := 1) dX12_later_80 rfl rfl ?_
            refine mm_kVV [] dX12_later_81 kX12_547 rfl sh_164 (by decide) (by decide) h (fun m81 hG h => ?_)
            refine mm_iload (j := 0) dX12_later_84 rfl ?_
            exact mm_iret dX12_later_86 rfl (Nat.le_refl 0) (Nat.le_refl 0) ⟨_, rfl, rfl, hG, h⟩
        · rw [if_pos hc] at h
          refine mm_aload_n (j := 0) dX12_later_47 rfl rfl ?_
          refine mm_iload_n (j := 1) dX12_later_48 rfl rfl ?_
          refine mm_kVI [.int x1] dX12_later_49 kX12_465 rfl sh_164 (by decide) (by decide) h (fun z49 m49 hG h => ?_)
          refine mm_goto (tgt := 78) dX12_later_52 (by decide) ?_
          refine mm_istore (lv' := [(4, .int z49), (0, .ref 164), (1, .int x1), (2, .int x2), (3, .int x3)]) dX12_later_78 (by decide) rfl ?_
          refine mm_aload_n (j := 1) dX12_later_80 rfl rfl ?_
          refine mm_kVV [] dX12_later_81 kX12_547 rfl sh_164 (by decide) (by decide) h (fun m81 hG h => ?_)
          refine mm_iload (j := 0) dX12_later_84 rfl ?_
          exact mm_iret dX12_later_86 rfl (Nat.le_refl 0) (Nat.le_refl 0) ⟨_, rfl, rfl, hG, h⟩
      · rw [if_pos hc] at h
        refine mm_iconst (x := (-1)) dX12_later_32 rfl ?_
        exact mm_iret dX12_later_33 rfl (Nat.le_refl 0) (Nat.le_refl 0) ⟨_, rfl, rfl, hG, h⟩
set_option maxRecDepth 100000 in
set_option maxHeartbeats 4000000 in
theorem rX12_cooled {d : Nat} {x1 : Int32} {x2 : Int32} {x3 : Int32} {M : mm_M} {K : Int32 → mm_M → Prop} (hG : mm_G M.2.2) (h : mm_CI mX12_areTwo d [.ref 164, .int x1, .int x2] M (fun z3 m3 => if z3 = 0 then (K (-1) m3) else (mm_CI mX12_isAhead d [.ref 164, .int x3, .int 0, .int 60] m3 (fun z14 m14 => if z14 = 0 then (K (-1) m14) else (mm_CV mX12_putsAside d [.ref 164] m14 (fun m23 => mm_CV mX12_daysGo d [.ref 164, .int x3] m23 (fun m28 => mm_CI mX12_hateOf d [.ref 164, .int x1, .int x2] m28 (fun z34 m34 => mm_CV mX12_takesBack d [.ref 164] m34 (fun m40 => K z34 m40))))))))) : mm_CI mX12_cooled (d + 1) [.ref 164, .int x1, .int x2, .int x3] M K := by
  show mm_W mX12_cooled (d + 1) 0 0 0 [(0, .ref 164), (1, .int x1), (2, .int x2), (3, .int x3)] [] mm_SH M 0 0 (mm_PI K)
  refine mm_aload_n (j := 0) dX12_cooled_0 rfl rfl ?_
  refine mm_iload_n (j := 1) dX12_cooled_1 rfl rfl ?_
  refine mm_iload_n (j := 2) dX12_cooled_2 rfl rfl ?_
  refine mm_kVI [.int x1, .int x2] dX12_cooled_3 kX12_541 rfl sh_164 (by decide) (by decide) h (fun z3 m3 hG h => ?_)
  refine mm_if_eq (tgt := 20) dX12_cooled_6 (by decide) (fun hc => ?_) (fun hc => ?_)
  · rw [if_pos hc] at h
    refine mm_iconst (x := (-1)) dX12_cooled_20 rfl ?_
    exact mm_iret dX12_cooled_21 rfl (Nat.le_refl 0) (Nat.le_refl 0) ⟨_, rfl, rfl, hG, h⟩
  · rw [if_neg hc] at h
    refine mm_aload_n (j := 0) dX12_cooled_9 rfl rfl ?_
    refine mm_iload_n (j := 3) dX12_cooled_10 rfl rfl ?_
    refine mm_iconst (x := 0) dX12_cooled_11 rfl ?_
    refine mm_bipush (x := 60) dX12_cooled_12 rfl ?_
    refine mm_kVI [.int x3, .int 0, .int 60] dX12_cooled_14 kX12_550 rfl sh_164 (by decide) (by decide) h (fun z14 m14 hG h => ?_)
    refine mm_if_ne (tgt := 22) dX12_cooled_17 (by decide) (fun hc => ?_) (fun hc => ?_)
    · rw [if_neg hc] at h
      refine mm_aload_n (j := 0) dX12_cooled_22 rfl rfl ?_
      refine mm_kVV [] dX12_cooled_23 kX12_544 rfl sh_164 (by decide) (by decide) h (fun m23 hG h => ?_)
      refine mm_aload_n (j := 0) dX12_cooled_26 rfl rfl ?_
      refine mm_iload_n (j := 3) dX12_cooled_27 rfl rfl ?_
      refine mm_kVV [.int x3] dX12_cooled_28 kX12_556 rfl sh_164 (by decide) (by decide) h (fun m28 hG h => ?_)
      refine mm_aload_n (j := 0) dX12_cooled_31 rfl rfl ?_
      refine mm_iload_n (j := 1) dX12_cooled_32 rfl rfl ?_
      refine mm_iload_n (j := 2) dX12_cooled_33 rfl rfl ?_
      refine mm_kVI [.int x1, .int x2] dX12_cooled_34 kX12_415 rfl sh_164 (by decide) (by decide) h (fun z34 m34 hG h => ?_)
      refine mm_istore (lv' := [(4, .int z34), (0, .ref 164), (1, .int x1), (2, .int x2), (3, .int x3)]) dX12_cooled_37 (by decide) rfl ?_
      refine mm_aload_n (j := 1) dX12_cooled_39 rfl rfl ?_
      refine mm_kVV [] dX12_cooled_40 kX12_547 rfl sh_164 (by decide) (by decide) h (fun m40 hG h => ?_)
      refine mm_iload (j := 0) dX12_cooled_43 rfl ?_
      exact mm_iret dX12_cooled_45 rfl (Nat.le_refl 0) (Nat.le_refl 0) ⟨_, rfl, rfl, hG, h⟩
    · rw [if_pos hc] at h
      refine mm_iconst (x := (-1)) dX12_cooled_20 rfl ?_
      exact mm_iret dX12_cooled_21 rfl (Nat.le_refl 0) (Nat.le_refl 0) ⟨_, rfl, rfl, hG, h⟩
def jX12_starves_25 (d : Nat) (x1 : Int32) (M : mm_M) (K : Int32 → mm_M → Prop) (y1 : Int32) (y2 : Int32) : Prop := mm_W mX12_starves (d + 1) 0 0 25 [(0, .ref 164), (1, .int y1), (2, .int y2)] [] mm_SH M 0 0 (mm_PI K)
def jX12_starves_61 (d : Nat) (x1 : Int32) (M : mm_M) (K : Int32 → mm_M → Prop) (y1 : Int32) (y2 : Int32) : Prop := mm_W mX12_starves (d + 1) 0 0 61 [(0, .ref 164), (1, .int y1), (2, .int y2)] [] mm_SH M 0 0 (mm_PI K)
set_option maxRecDepth 100000 in
set_option maxHeartbeats 4000000 in
theorem rX12_starves {d : Nat} {x1 : Int32} {M : mm_M} {K : Int32 → mm_M → Prop} (hG : mm_G M.2.2) (h : mm_CI mX12_isHouse d [.ref 164, .long x1.toInt64] M (fun z3 m3 => if z3 = 0 then (K (-1) m3) else (mm_CI mX12_isThere d [.ref 164, .int x1] m3 (fun z11 m11 => if z11 = 0 then (K (-1) m11) else (mm_CV mX12_putsAside d [.ref 164] m11 (fun m22 => jX12_starves_25 d x1 m22 K x1 0)))))) : mm_CI mX12_starves (d + 1) [.ref 164, .int x1] M K := by
  show mm_W mX12_starves (d + 1) 0 0 0 [(0, .ref 164), (1, .int x1)] [] mm_SH M 0 0 (mm_PI K)
  refine mm_aload_n (j := 0) dX12_starves_0 rfl rfl ?_
  refine mm_iload_n (j := 1) dX12_starves_1 rfl rfl ?_
  refine mm_i2l dX12_starves_2 ?_
  refine mm_kVI [.long x1.toInt64] dX12_starves_3 kX12_534 rfl sh_164 (by decide) (by decide) h (fun z3 m3 hG h => ?_)
  refine mm_if_eq (tgt := 17) dX12_starves_6 (by decide) (fun hc => ?_) (fun hc => ?_)
  · rw [if_pos hc] at h
    refine mm_iconst (x := (-1)) dX12_starves_17 rfl ?_
    exact mm_iret dX12_starves_18 rfl (Nat.le_refl 0) (Nat.le_refl 0) ⟨_, rfl, rfl, hG, h⟩
  · rw [if_neg hc] at h
    refine mm_aload_n (j := 0) dX12_starves_9 rfl rfl ?_
    refine mm_iload_n (j := 1) dX12_starves_10 rfl rfl ?_
    refine mm_kVI [.int x1] dX12_starves_11 kX12_462 rfl sh_164 (by decide) (by decide) h (fun z11 m11 hG h => ?_)
    refine mm_if_ne (tgt := 19) dX12_starves_14 (by decide) (fun hc => ?_) (fun hc => ?_)
    · rw [if_neg hc] at h
      refine mm_iconst (x := 0) dX12_starves_19 rfl ?_
      refine mm_istore_n (lv' := [(2, .int 0), (0, .ref 164), (1, .int x1)]) dX12_starves_20 rfl (by decide) rfl ?_
      refine mm_aload_n (j := 1) dX12_starves_21 rfl rfl ?_
      refine mm_kVV [] dX12_starves_22 kX12_544 rfl sh_164 (by decide) (by decide) h (fun m22 hG h => ?_)
      exact mm_sub [1, 2, 0] rfl h
    · rw [if_pos hc] at h
      refine mm_iconst (x := (-1)) dX12_starves_17 rfl ?_
      exact mm_iret dX12_starves_18 rfl (Nat.le_refl 0) (Nat.le_refl 0) ⟨_, rfl, rfl, hG, h⟩
set_option maxRecDepth 100000 in
set_option maxHeartbeats 4000000 in
theorem lX12_starves_25 {d : Nat} {x1 : Int32} {M : mm_M} {K : Int32 → mm_M → Prop} {y1 : Int32} {y2 : Int32} (hG : mm_G M.2.2) (h : mm_CI mX12_isThere d [.ref 164, .int y1] M (fun z27 m27 => if z27 = 0 then (jX12_starves_61 d x1 m27 K y1 y2) else (if 60 ≤ y2 then (jX12_starves_61 d x1 m27 K y1 y2) else (if 999 ≤ (m27.1 199 (0).toNatClampNeg) then (jX12_starves_61 d x1 m27 K y1 y2) else (mm_CV mX12_dayGoes d [.ref 164] m27 (fun m52 => jX12_starves_25 d x1 m52 K y1 (y2 + 1))))))) : jX12_starves_25 d x1 M K y1 y2 := by
  unfold jX12_starves_25
  refine mm_aload_n (j := 0) dX12_starves_25 rfl rfl ?_
  refine mm_iload_n (j := 1) dX12_starves_26 rfl rfl ?_
  refine mm_kVI [.int y1] dX12_starves_27 kX12_462 rfl sh_164 (by decide) (by decide) h (fun z27 m27 hG h => ?_)
  refine mm_if_eq (tgt := 61) dX12_starves_30 (by decide) (fun hc => ?_) (fun hc => ?_)
  · rw [if_pos hc] at h
    exact h
  · rw [if_neg hc] at h
    refine mm_iload_n (j := 2) dX12_starves_33 rfl rfl ?_
    refine mm_bipush (x := 60) dX12_starves_34 rfl ?_
    refine mm_icmp_ge (tgt := 61) dX12_starves_36 (by decide) (fun hc => ?_) (fun hc => ?_)
    · rw [if_pos hc] at h
      exact h
    · rw [if_neg hc] at h
      refine mm_aload_n (j := 0) dX12_starves_39 rfl rfl ?_
      refine mm_getR (ci := 12) (N := 116) (r := 199) dX12_starves_40 fX12_118 sh_164 rfl (g_164_50 hG) ?_
      refine mm_iconst (x := 0) dX12_starves_43 rfl ?_
      refine mm_iaload (N := 204) dX12_starves_44 sh_199 (by decide) ?_
      refine mm_sipush (x := 999) dX12_starves_45 rfl ?_
      refine mm_icmp_ge (tgt := 61) dX12_starves_48 (by decide) (fun hc => ?_) (fun hc => ?_)
      · rw [if_pos hc] at h
        exact h
      · rw [if_neg hc] at h
        refine mm_aload_n (j := 0) dX12_starves_51 rfl rfl ?_
        refine mm_kVV [] dX12_starves_52 kX12_516 rfl sh_164 (by decide) (by decide) h (fun m52 hG h => ?_)
        refine mm_iinc (j := 2) (v := y2 + 1) (lv' := [(2, .int (y2 + 1)), (0, .ref 164), (1, .int y1)]) dX12_starves_55 rfl rfl (by decide) rfl ?_
        refine mm_goto (tgt := 25) dX12_starves_58 (by decide) ?_
        exact mm_sub [1, 2, 0] rfl h
set_option maxRecDepth 100000 in
set_option maxHeartbeats 4000000 in
theorem lX12_starves_61 {d : Nat} {x1 : Int32} {M : mm_M} {K : Int32 → mm_M → Prop} {y1 : Int32} {y2 : Int32} (hG : mm_G M.2.2) (h : mm_CI mX12_isThere d [.ref 164, .int y1] M (fun z63 m63 => if z63 = 0 then (mm_CV mX12_takesBack d [.ref 164] m63 (fun m76 => K (y2 - 1) m76)) else (mm_CV mX12_takesBack d [.ref 164] m63 (fun m76 => K (-1) m76)))) : jX12_starves_61 d x1 M K y1 y2 := by
  unfold jX12_starves_61
  refine mm_aload_n (j := 0) dX12_starves_61 rfl rfl ?_
  refine mm_iload_n (j := 1) dX12_starves_62 rfl rfl ?_
  refine mm_kVI [.int y1] dX12_starves_63 kX12_462 rfl sh_164 (by decide) (by decide) h (fun z63 m63 hG h => ?_)
  refine mm_if_ne (tgt := 73) dX12_starves_66 (by decide) (fun hc => ?_) (fun hc => ?_)
  · rw [if_neg hc] at h
    refine mm_iconst (x := 0) dX12_starves_73 rfl ?_
    refine mm_istore_n (lv' := [(3, .int 0), (0, .ref 164), (1, .int y1), (2, .int y2)]) dX12_starves_74 rfl (by decide) rfl ?_
    refine mm_aload_n (j := 1) dX12_starves_75 rfl rfl ?_
    refine mm_kVV [] dX12_starves_76 kX12_547 rfl sh_164 (by decide) (by decide) h (fun m76 hG h => ?_)
    refine mm_iload_n (j := 0) dX12_starves_79 rfl rfl ?_
    refine mm_if_eq (tgt := 89) dX12_starves_80 (by decide) (fun hc => ?_) (fun hc => ?_)
    · refine mm_iconst (x := (-1)) dX12_starves_89 rfl ?_
      exact mm_iret dX12_starves_90 rfl (Nat.le_refl 0) (Nat.le_refl 0) ⟨_, rfl, rfl, hG, h⟩
    · exact absurd hc (by decide)
  · rw [if_pos hc] at h
    refine mm_iconst (x := 1) dX12_starves_69 rfl ?_
    refine mm_goto (tgt := 74) dX12_starves_70 (by decide) ?_
    refine mm_istore_n (lv' := [(3, .int 1), (0, .ref 164), (1, .int y1), (2, .int y2)]) dX12_starves_74 rfl (by decide) rfl ?_
    refine mm_aload_n (j := 1) dX12_starves_75 rfl rfl ?_
    refine mm_kVV [] dX12_starves_76 kX12_547 rfl sh_164 (by decide) (by decide) h (fun m76 hG h => ?_)
    refine mm_iload_n (j := 0) dX12_starves_79 rfl rfl ?_
    refine mm_if_eq (tgt := 89) dX12_starves_80 (by decide) (fun hc => ?_) (fun hc => ?_)
    · exact absurd hc (by decide)
    · refine mm_iload_n (j := 3) dX12_starves_83 rfl rfl ?_
      refine mm_iconst (x := 1) dX12_starves_84 rfl ?_
      refine mm_isub dX12_starves_85 ?_
      refine mm_goto (tgt := 90) dX12_starves_86 (by decide) ?_
      exact mm_iret dX12_starves_90 rfl (Nat.le_refl 0) (Nat.le_refl 0) ⟨_, rfl, rfl, hG, h⟩
set_option maxRecDepth 100000 in
set_option maxHeartbeats 4000000 in
theorem rX12_canServe {d : Nat} {x1 : Int32} {x2 : Int32} {M : mm_M} {K : Int32 → mm_M → Prop} (hG : mm_G M.2.2) (h : if x1 = x2 then (K 0 M) else (mm_CI mX12_isThere d [.ref 164, .int x1] M (fun z7 m7 => if z7 = 0 then (K 0 m7) else (mm_CI mX12_flourOf d [.ref 164, .int x1] m7 (fun z15 m15 => if (m15.1 191 (2).toNatClampNeg) ≤ z15 then (mm_CI mX12_areEnemies d [.ref 164, .int x1, .int x2] m15 (fun z32 m32 => if z32 = 0 then (mm_CI mX12_pairOf d [.int x1, .int x2] m32 (fun z44 m44 => if (((m32.1 164 66) >>> (z44 &&& 31)) &&& 1) = 1 then (K 1 m44) else (K 0 m44))) else (K 1 m32))) else (K 0 m15)))))) : mm_CI mX12_canServe (d + 1) [.ref 164, .int x1, .int x2] M K := by
  show mm_W mX12_canServe (d + 1) 0 0 0 [(0, .ref 164), (1, .int x1), (2, .int x2)] [] mm_SH M 0 0 (mm_PI K)
  refine mm_iload_n (j := 1) dX12_canServe_0 rfl rfl ?_
  refine mm_iload_n (j := 2) dX12_canServe_1 rfl rfl ?_
  refine mm_icmp_eq (tgt := 27) dX12_canServe_2 (by decide) (fun hc => ?_) (fun hc => ?_)
  · rw [if_pos hc] at h
    refine mm_iconst (x := 0) dX12_canServe_27 rfl ?_
    exact mm_zret dX12_canServe_28 rfl rfl (Nat.le_refl 0) (Nat.le_refl 0) ⟨_, rfl, rfl, hG, h⟩
  · rw [if_neg hc] at h
    refine mm_aload_n (j := 0) dX12_canServe_5 rfl rfl ?_
    refine mm_iload_n (j := 1) dX12_canServe_6 rfl rfl ?_
    refine mm_kVI [.int x1] dX12_canServe_7 kX12_462 rfl sh_164 (by decide) (by decide) h (fun z7 m7 hG h => ?_)
    refine mm_if_eq (tgt := 27) dX12_canServe_10 (by decide) (fun hc => ?_) (fun hc => ?_)
    · rw [if_pos hc] at h
      refine mm_iconst (x := 0) dX12_canServe_27 rfl ?_
      exact mm_zret dX12_canServe_28 rfl rfl (Nat.le_refl 0) (Nat.le_refl 0) ⟨_, rfl, rfl, hG, h⟩
    · rw [if_neg hc] at h
      refine mm_aload_n (j := 0) dX12_canServe_13 rfl rfl ?_
      refine mm_iload_n (j := 1) dX12_canServe_14 rfl rfl ?_
      refine mm_kVI [.int x1] dX12_canServe_15 kX12_465 rfl sh_164 (by decide) (by decide) h (fun z15 m15 hG h => ?_)
      refine mm_aload_n (j := 0) dX12_canServe_18 rfl rfl ?_
      refine mm_getR (ci := 12) (N := 116) (r := 191) dX12_canServe_19 fX12_93 sh_164 rfl (g_164_36 hG) ?_
      refine mm_iconst (x := 2) dX12_canServe_22 rfl ?_
      refine mm_iaload (N := 4) dX12_canServe_23 sh_191 (by decide) ?_
      refine mm_icmp_ge (tgt := 29) dX12_canServe_24 (by decide) (fun hc => ?_) (fun hc => ?_)
      · rw [if_pos hc] at h
        refine mm_aload_n (j := 0) dX12_canServe_29 rfl rfl ?_
        refine mm_iload_n (j := 1) dX12_canServe_30 rfl rfl ?_
        refine mm_iload_n (j := 2) dX12_canServe_31 rfl rfl ?_
        refine mm_kVI [.int x1, .int x2] dX12_canServe_32 kX12_418 rfl sh_164 (by decide) (by decide) h (fun z32 m32 hG h => ?_)
        refine mm_if_ne (tgt := 54) dX12_canServe_35 (by decide) (fun hc => ?_) (fun hc => ?_)
        · rw [if_neg hc] at h
          refine mm_iconst (x := 1) dX12_canServe_54 rfl ?_
          refine mm_goto (tgt := 59) dX12_canServe_55 (by decide) ?_
          exact mm_zret dX12_canServe_59 rfl rfl (Nat.le_refl 0) (Nat.le_refl 0) ⟨_, rfl, rfl, hG, h⟩
        · rw [if_pos hc] at h
          refine mm_aload_n (j := 0) dX12_canServe_38 rfl rfl ?_
          refine mm_getI (ci := 12) (N := 116) dX12_canServe_39 fX12_559 sh_164 rfl ?_
          refine mm_iload_n (j := 1) dX12_canServe_42 rfl rfl ?_
          refine mm_iload_n (j := 2) dX12_canServe_43 rfl rfl ?_
          refine mm_kSI [.int x1, .int x2] dX12_canServe_44 kX12_347 rfl (by decide) (by decide) h (fun z44 m44 hG h => ?_)
          refine mm_ishr dX12_canServe_47 ?_
          refine mm_iconst (x := 1) dX12_canServe_48 rfl ?_
          refine mm_iand dX12_canServe_49 ?_
          refine mm_iconst (x := 1) dX12_canServe_50 rfl ?_
          refine mm_icmp_ne (tgt := 58) dX12_canServe_51 (by decide) (fun hc => ?_) (fun hc => ?_)
          · rw [if_neg hc] at h
            refine mm_iconst (x := 0) dX12_canServe_58 rfl ?_
            exact mm_zret dX12_canServe_59 rfl rfl (Nat.le_refl 0) (Nat.le_refl 0) ⟨_, rfl, rfl, hG, h⟩
          · rw [if_pos hc] at h
            refine mm_iconst (x := 1) dX12_canServe_54 rfl ?_
            refine mm_goto (tgt := 59) dX12_canServe_55 (by decide) ?_
            exact mm_zret dX12_canServe_59 rfl rfl (Nat.le_refl 0) (Nat.le_refl 0) ⟨_, rfl, rfl, hG, h⟩
      · rw [if_neg hc] at h
        refine mm_iconst (x := 0) dX12_canServe_27 rfl ?_
        exact mm_zret dX12_canServe_28 rfl rfl (Nat.le_refl 0) (Nat.le_refl 0) ⟨_, rfl, rfl, hG, h⟩
set_option maxRecDepth 100000 in
set_option maxHeartbeats 4000000 in
theorem rX12_manyBy {d : Nat} {x1 : Int32} {x2 : Int32} {x3 : Int32} {M : mm_M} {K : Int32 → mm_M → Prop} (hG : mm_G M.2.2) (h : if x3 = (-1) then (vp_in ((128 * (x1 + 1)) + x2) 1024 ∧ K (M.1 205 ((128 * (x1 + 1)) + x2).toNatClampNeg) M) else (mm_CI mX12_isThere d [.ref 164, .int x1] M (fun z22 m22 => if z22 = 0 then (K (-1) m22) else (if ((x2 >>> (x3 &&& 31)) &&& 1) = 1 then (K (-1) m22) else (mm_CI mX12_canServe d [.ref 164, .int x3, .int x1] m22 (fun z40 m40 => if z40 = 0 then (K (-1) m40) else (vp_in ((128 * (x1 + 1)) + (x2 ||| (1 <<< (x3 &&& 31)))) 1024 ∧ K (1 + (m40.1 205 ((128 * (x1 + 1)) + (x2 ||| (1 <<< (x3 &&& 31)))).toNatClampNeg)) m40))))))) : mm_CI mX12_manyBy (d + 1) [.ref 164, .int x1, .int x2, .int x3] M K := by
  show mm_W mX12_manyBy (d + 1) 0 0 0 [(0, .ref 164), (1, .int x1), (2, .int x2), (3, .int x3)] [] mm_SH M 0 0 (mm_PI K)
  refine mm_iload_n (j := 3) dX12_manyBy_0 rfl rfl ?_
  refine mm_iconst (x := (-1)) dX12_manyBy_1 rfl ?_
  refine mm_icmp_ne (tgt := 20) dX12_manyBy_2 (by decide) (fun hc => ?_) (fun hc => ?_)
  · rw [if_neg hc] at h
    refine mm_aload_n (j := 0) dX12_manyBy_20 rfl rfl ?_
    refine mm_iload_n (j := 1) dX12_manyBy_21 rfl rfl ?_
    refine mm_kVI [.int x1] dX12_manyBy_22 kX12_462 rfl sh_164 (by decide) (by decide) h (fun z22 m22 hG h => ?_)
    refine mm_if_eq (tgt := 46) dX12_manyBy_25 (by decide) (fun hc => ?_) (fun hc => ?_)
    · rw [if_pos hc] at h
      refine mm_iconst (x := (-1)) dX12_manyBy_46 rfl ?_
      exact mm_iret dX12_manyBy_47 rfl (Nat.le_refl 0) (Nat.le_refl 0) ⟨_, rfl, rfl, hG, h⟩
    · rw [if_neg hc] at h
      refine mm_iload_n (j := 2) dX12_manyBy_28 rfl rfl ?_
      refine mm_iload_n (j := 3) dX12_manyBy_29 rfl rfl ?_
      refine mm_ishr dX12_manyBy_30 ?_
      refine mm_iconst (x := 1) dX12_manyBy_31 rfl ?_
      refine mm_iand dX12_manyBy_32 ?_
      refine mm_iconst (x := 1) dX12_manyBy_33 rfl ?_
      refine mm_icmp_eq (tgt := 46) dX12_manyBy_34 (by decide) (fun hc => ?_) (fun hc => ?_)
      · rw [if_pos hc] at h
        refine mm_iconst (x := (-1)) dX12_manyBy_46 rfl ?_
        exact mm_iret dX12_manyBy_47 rfl (Nat.le_refl 0) (Nat.le_refl 0) ⟨_, rfl, rfl, hG, h⟩
      · rw [if_neg hc] at h
        refine mm_aload_n (j := 0) dX12_manyBy_37 rfl rfl ?_
        refine mm_iload_n (j := 3) dX12_manyBy_38 rfl rfl ?_
        refine mm_iload_n (j := 1) dX12_manyBy_39 rfl rfl ?_
        refine mm_kVI [.int x3, .int x1] dX12_manyBy_40 kX12_562 rfl sh_164 (by decide) (by decide) h (fun z40 m40 hG h => ?_)
        refine mm_if_ne (tgt := 48) dX12_manyBy_43 (by decide) (fun hc => ?_) (fun hc => ?_)
        · rw [if_neg hc] at h
          refine mm_iconst (x := 1) dX12_manyBy_48 rfl ?_
          refine mm_aload_n (j := 0) dX12_manyBy_49 rfl rfl ?_
          refine mm_getR (ci := 12) (N := 116) (r := 205) dX12_manyBy_50 fX12_136 sh_164 rfl (g_164_64 hG) ?_
          refine mm_sipush (x := 128) dX12_manyBy_53 rfl ?_
          refine mm_iload_n (j := 1) dX12_manyBy_56 rfl rfl ?_
          refine mm_iconst (x := 1) dX12_manyBy_57 rfl ?_
          refine mm_iadd dX12_manyBy_58 ?_
          refine mm_imul dX12_manyBy_59 ?_
          refine mm_iload_n (j := 2) dX12_manyBy_60 rfl rfl ?_
          refine mm_iconst (x := 1) dX12_manyBy_61 rfl ?_
          refine mm_iload_n (j := 3) dX12_manyBy_62 rfl rfl ?_
          refine mm_ishl dX12_manyBy_63 ?_
          refine mm_ior dX12_manyBy_64 ?_
          refine mm_iadd dX12_manyBy_65 ?_
          obtain ⟨hi66, h⟩ := h
          refine mm_iaload (N := 1024) dX12_manyBy_66 sh_205 hi66 ?_
          refine mm_iadd dX12_manyBy_67 ?_
          exact mm_iret dX12_manyBy_68 rfl (Nat.le_refl 0) (Nat.le_refl 0) ⟨_, rfl, rfl, hG, h⟩
        · rw [if_pos hc] at h
          refine mm_iconst (x := (-1)) dX12_manyBy_46 rfl ?_
          exact mm_iret dX12_manyBy_47 rfl (Nat.le_refl 0) (Nat.le_refl 0) ⟨_, rfl, rfl, hG, h⟩
  · rw [if_pos hc] at h
    refine mm_aload_n (j := 0) dX12_manyBy_5 rfl rfl ?_
    refine mm_getR (ci := 12) (N := 116) (r := 205) dX12_manyBy_6 fX12_136 sh_164 rfl (g_164_64 hG) ?_
    refine mm_sipush (x := 128) dX12_manyBy_9 rfl ?_
    refine mm_iload_n (j := 1) dX12_manyBy_12 rfl rfl ?_
    refine mm_iconst (x := 1) dX12_manyBy_13 rfl ?_
    refine mm_iadd dX12_manyBy_14 ?_
    refine mm_imul dX12_manyBy_15 ?_
    refine mm_iload_n (j := 2) dX12_manyBy_16 rfl rfl ?_
    refine mm_iadd dX12_manyBy_17 ?_
    obtain ⟨hi18, h⟩ := h
    refine mm_iaload (N := 1024) dX12_manyBy_18 sh_205 hi18 ?_
    exact mm_iret dX12_manyBy_19 rfl (Nat.le_refl 0) (Nat.le_refl 0) ⟨_, rfl, rfl, hG, h⟩
set_option maxRecDepth 100000 in
set_option maxHeartbeats 4000000 in
theorem rX12_hateBy {d : Nat} {x1 : Int32} {x2 : Int32} {x3 : Int32} {M : mm_M} {K : Int32 → mm_M → Prop} (hG : mm_G M.2.2) (h : if x3 = (-1) then (vp_in ((128 * (x1 + 1)) + x2) 1024 ∧ K (M.1 206 ((128 * (x1 + 1)) + x2).toNatClampNeg) M) else (mm_CI mX12_hateOf d [.ref 164, .int x3, .int x1] M (fun z25 m25 => vp_in ((128 * (x1 + 1)) + (x2 ||| (1 <<< (x3 &&& 31)))) 1024 ∧ K (z25 + (m25.1 206 ((128 * (x1 + 1)) + (x2 ||| (1 <<< (x3 &&& 31)))).toNatClampNeg)) m25))) : mm_CI mX12_hateBy (d + 1) [.ref 164, .int x1, .int x2, .int x3] M K := by
  show mm_W mX12_hateBy (d + 1) 0 0 0 [(0, .ref 164), (1, .int x1), (2, .int x2), (3, .int x3)] [] mm_SH M 0 0 (mm_PI K)
  refine mm_iload_n (j := 3) dX12_hateBy_0 rfl rfl ?_
  refine mm_iconst (x := (-1)) dX12_hateBy_1 rfl ?_
  refine mm_icmp_ne (tgt := 22) dX12_hateBy_2 (by decide) (fun hc => ?_) (fun hc => ?_)
  · rw [if_neg hc] at h
    refine mm_aload_n (j := 0) dX12_hateBy_22 rfl rfl ?_
    refine mm_iload_n (j := 3) dX12_hateBy_23 rfl rfl ?_
    refine mm_iload_n (j := 1) dX12_hateBy_24 rfl rfl ?_
    refine mm_kVI [.int x3, .int x1] dX12_hateBy_25 kX12_415 rfl sh_164 (by decide) (by decide) h (fun z25 m25 hG h => ?_)
    refine mm_aload_n (j := 0) dX12_hateBy_28 rfl rfl ?_
    refine mm_getR (ci := 12) (N := 116) (r := 206) dX12_hateBy_29 fX12_139 sh_164 rfl (g_164_65 hG) ?_
    refine mm_sipush (x := 128) dX12_hateBy_32 rfl ?_
    refine mm_iload_n (j := 1) dX12_hateBy_35 rfl rfl ?_
    refine mm_iconst (x := 1) dX12_hateBy_36 rfl ?_
    refine mm_iadd dX12_hateBy_37 ?_
    refine mm_imul dX12_hateBy_38 ?_
    refine mm_iload_n (j := 2) dX12_hateBy_39 rfl rfl ?_
    refine mm_iconst (x := 1) dX12_hateBy_40 rfl ?_
    refine mm_iload_n (j := 3) dX12_hateBy_41 rfl rfl ?_
    refine mm_ishl dX12_hateBy_42 ?_
    refine mm_ior dX12_hateBy_43 ?_
    refine mm_iadd dX12_hateBy_44 ?_
    obtain ⟨hi45, h⟩ := h
    refine mm_iaload (N := 1024) dX12_hateBy_45 sh_206 hi45 ?_
    refine mm_iadd dX12_hateBy_46 ?_
    exact mm_iret dX12_hateBy_47 rfl (Nat.le_refl 0) (Nat.le_refl 0) ⟨_, rfl, rfl, hG, h⟩
  · rw [if_pos hc] at h
    refine mm_aload_n (j := 0) dX12_hateBy_5 rfl rfl ?_
    refine mm_getR (ci := 12) (N := 116) (r := 206) dX12_hateBy_6 fX12_139 sh_164 rfl (g_164_65 hG) ?_
    refine mm_sipush (x := 128) dX12_hateBy_9 rfl ?_
    refine mm_iload_n (j := 1) dX12_hateBy_12 rfl rfl ?_
    refine mm_iconst (x := 1) dX12_hateBy_13 rfl ?_
    refine mm_iadd dX12_hateBy_14 ?_
    refine mm_imul dX12_hateBy_15 ?_
    refine mm_iload_n (j := 2) dX12_hateBy_16 rfl rfl ?_
    refine mm_iadd dX12_hateBy_17 ?_
    obtain ⟨hi18, h⟩ := h
    refine mm_iaload (N := 1024) dX12_hateBy_18 sh_206 hi18 ?_
    refine mm_goto (tgt := 47) dX12_hateBy_19 (by decide) ?_
    exact mm_iret dX12_hateBy_47 rfl (Nat.le_refl 0) (Nat.le_refl 0) ⟨_, rfl, rfl, hG, h⟩
def jX12_laysTable_2 (d : Nat) (M : mm_M) (K : mm_M → Prop) (y1 : Int32) : Prop := mm_W mX12_laysTable (d + 1) 0 0 2 [(0, .ref 164), (1, .int y1)] [] mm_SH M 0 0 (mm_PV K)
def jX12_laysTable_36 (d : Nat) (M : mm_M) (K : mm_M → Prop) (y1 : Int32) : Prop := mm_W mX12_laysTable (d + 1) 0 0 36 [(0, .ref 164), (1, .int y1)] [] mm_SH M 0 0 (mm_PV K)
def jX12_laysTable_42 (d : Nat) (M : mm_M) (K : mm_M → Prop) (y1 : Int32) (y2 : Int32) : Prop := mm_W mX12_laysTable (d + 1) 0 0 42 [(0, .ref 164), (1, .int y1), (2, .int y2)] [] mm_SH M 0 0 (mm_PV K)
def jX12_laysTable_57 (d : Nat) (M : mm_M) (K : mm_M → Prop) (y1 : Int32) (y2 : Int32) (y3 : Int32) (y4 : Int32) (y5 : Int32) : Prop := mm_W mX12_laysTable (d + 1) 0 0 57 [(0, .ref 164), (1, .int y1), (2, .int y2), (3, .int y3), (4, .int y4), (5, .int y5)] [] mm_SH M 0 0 (mm_PV K)
set_option maxRecDepth 100000 in
set_option maxHeartbeats 4000000 in
theorem rX12_laysTable {d : Nat} {M : mm_M} {K : mm_M → Prop} (hG : mm_G M.2.2) (h : jX12_laysTable_2 d M K 0) : mm_CV mX12_laysTable (d + 1) [.ref 164] M K := by
  show mm_W mX12_laysTable (d + 1) 0 0 0 [(0, .ref 164)] [] mm_SH M 0 0 (mm_PV K)
  refine mm_iconst (x := 0) dX12_laysTable_0 rfl ?_
  refine mm_istore_n (lv' := [(1, .int 0), (0, .ref 164)]) dX12_laysTable_1 rfl (by decide) rfl ?_
  exact mm_sub [1, 0] rfl h
set_option maxRecDepth 100000 in
set_option maxHeartbeats 4000000 in
theorem lX12_laysTable_2 {d : Nat} {M : mm_M} {K : mm_M → Prop} {y1 : Int32} (hG : mm_G M.2.2) (h : if 1024 ≤ y1 then (mm_CI mX12_houseMany d [.ref 164] M (fun z30 m30 => jX12_laysTable_36 d m30 K (z30 - 1))) else (vp_in y1 1024 ∧ vp_in y1 1024 ∧ jX12_laysTable_2 d (mm_uI (mm_uI M 205 (y1).toNatClampNeg 0) 206 (y1).toNatClampNeg 0) K (y1 + 1))) : jX12_laysTable_2 d  M K y1 := by
  unfold jX12_laysTable_2
  refine mm_iload_n (j := 1) dX12_laysTable_2 rfl rfl ?_
  refine mm_sipush (x := 1024) dX12_laysTable_3 rfl ?_
  refine mm_icmp_ge (tgt := 29) dX12_laysTable_6 (by decide) (fun hc => ?_) (fun hc => ?_)
  · rw [if_pos hc] at h
    refine mm_aload_n (j := 0) dX12_laysTable_29 rfl rfl ?_
    refine mm_kVI [] dX12_laysTable_30 kX12_412 rfl sh_164 (by decide) (by decide) h (fun z30 m30 hG h => ?_)
    refine mm_iconst (x := 1) dX12_laysTable_33 rfl ?_
    refine mm_isub dX12_laysTable_34 ?_
    refine mm_istore_n (lv' := [(1, .int (z30 - 1)), (0, .ref 164)]) dX12_laysTable_35 rfl (by decide) rfl ?_
    exact mm_sub [1, 0] rfl h
  · rw [if_neg hc] at h
    refine mm_aload_n (j := 0) dX12_laysTable_9 rfl rfl ?_
    refine mm_getR (ci := 12) (N := 116) (r := 205) dX12_laysTable_10 fX12_136 sh_164 rfl (g_164_64 hG) ?_
    refine mm_iload_n (j := 1) dX12_laysTable_13 rfl rfl ?_
    refine mm_iconst (x := 0) dX12_laysTable_14 rfl ?_
    obtain ⟨hi15, h⟩ := h
    refine mm_iastore (N := 1024) dX12_laysTable_15 sh_205 hi15 ?_
    refine mm_aload_n (j := 0) dX12_laysTable_16 rfl rfl ?_
    refine mm_getR (ci := 12) (N := 116) (r := 206) dX12_laysTable_17 fX12_139 sh_164 rfl (g_164_65 hG) ?_
    refine mm_iload_n (j := 1) dX12_laysTable_20 rfl rfl ?_
    refine mm_iconst (x := 0) dX12_laysTable_21 rfl ?_
    obtain ⟨hi22, h⟩ := h
    refine mm_iastore (N := 1024) dX12_laysTable_22 sh_206 hi22 ?_
    refine mm_iinc (j := 1) (v := y1 + 1) (lv' := [(1, .int (y1 + 1)), (0, .ref 164)]) dX12_laysTable_23 rfl rfl (by decide) rfl ?_
    refine mm_goto (tgt := 2) dX12_laysTable_26 (by decide) ?_
    exact mm_sub [1, 0] rfl h
set_option maxRecDepth 100000 in
set_option maxHeartbeats 4000000 in
theorem lX12_laysTable_36 {d : Nat} {M : mm_M} {K : mm_M → Prop} {y1 : Int32} (hG : mm_G M.2.2) (h : if y1 < 0 then (K M) else (jX12_laysTable_42 d M K y1 0)) : jX12_laysTable_36 d  M K y1 := by
  unfold jX12_laysTable_36
  refine mm_iload_n (j := 1) dX12_laysTable_36 rfl rfl ?_
  refine mm_if_lt (tgt := 169) dX12_laysTable_37 (by decide) (fun hc => ?_) (fun hc => ?_)
  · rw [if_pos hc] at h
    exact mm_vret dX12_laysTable_169 rfl (Nat.le_refl 0) (Nat.le_refl 0) ⟨rfl, rfl, hG, h⟩
  · rw [if_neg hc] at h
    refine mm_iconst (x := 0) dX12_laysTable_40 rfl ?_
    refine mm_istore_n (lv' := [(2, .int 0), (0, .ref 164), (1, .int y1)]) dX12_laysTable_41 rfl (by decide) rfl ?_
    exact mm_sub [1, 2, 0] rfl h
set_option maxRecDepth 100000 in
set_option maxHeartbeats 4000000 in
theorem lX12_laysTable_42 {d : Nat} {M : mm_M} {K : mm_M → Prop} {y1 : Int32} {y2 : Int32} (hG : mm_G M.2.2) (h : if 128 ≤ y2 then (jX12_laysTable_36 d M K (y1 + (-1))) else (jX12_laysTable_57 d M K y1 y2 (-1) 0 (-1))) : jX12_laysTable_42 d  M K y1 y2 := by
  unfold jX12_laysTable_42
  refine mm_iload_n (j := 2) dX12_laysTable_42 rfl rfl ?_
  refine mm_sipush (x := 128) dX12_laysTable_43 rfl ?_
  refine mm_icmp_ge (tgt := 163) dX12_laysTable_46 (by decide) (fun hc => ?_) (fun hc => ?_)
  · rw [if_pos hc] at h
    refine mm_iinc (j := 1) (v := y1 + (-1)) (lv' := [(1, .int (y1 + (-1))), (0, .ref 164), (2, .int y2)]) dX12_laysTable_163 rfl rfl (by decide) rfl ?_
    refine mm_goto (tgt := 36) dX12_laysTable_166 (by decide) ?_
    exact mm_sub [1, 0] rfl h
  · rw [if_neg hc] at h
    refine mm_iconst (x := (-1)) dX12_laysTable_49 rfl ?_
    refine mm_istore_n (lv' := [(3, .int (-1)), (0, .ref 164), (1, .int y1), (2, .int y2)]) dX12_laysTable_50 rfl (by decide) rfl ?_
    refine mm_iconst (x := 0) dX12_laysTable_51 rfl ?_
    refine mm_istore (lv' := [(4, .int 0), (3, .int (-1)), (0, .ref 164), (1, .int y1), (2, .int y2)]) dX12_laysTable_52 (by decide) rfl ?_
    refine mm_iconst (x := (-1)) dX12_laysTable_54 rfl ?_
    refine mm_istore (lv' := [(5, .int (-1)), (4, .int 0), (3, .int (-1)), (0, .ref 164), (1, .int y1), (2, .int y2)]) dX12_laysTable_55 (by decide) rfl ?_
    exact mm_sub [3, 4, 5, 2, 1, 0] rfl h
set_option maxRecDepth 100000 in
set_option maxHeartbeats 4000000 in
theorem lX12_laysTable_57 {d : Nat} {M : mm_M} {K : mm_M → Prop} {y1 : Int32} {y2 : Int32} {y3 : Int32} {y4 : Int32} {y5 : Int32} (hG : mm_G M.2.2) (h : mm_CI mX12_houseMany d [.ref 164] M (fun z60 m60 => if z60 ≤ y5 then (vp_in ((128 * y1) + y2) 1024 ∧ vp_in ((128 * y1) + y2) 1024 ∧ jX12_laysTable_42 d (mm_uI (mm_uI m60 205 ((128 * y1) + y2).toNatClampNeg y3) 206 ((128 * y1) + y2).toNatClampNeg y4) K y1 (y2 + 1)) else (mm_CI mX12_manyBy d [.ref 164, .int y1, .int y2, .int y5] m60 (fun z71 m71 => if z71 < y3 then (jX12_laysTable_57 d m71 K y1 y2 y3 y4 (y5 + 1)) else (if z71 = (-1) then (jX12_laysTable_57 d m71 K y1 y2 y3 y4 (y5 + 1)) else (mm_CI mX12_hateBy d [.ref 164, .int y1, .int y2, .int y5] m71 (fun z96 m96 => if z71 = y3 then (if z96 < y4 then (jX12_laysTable_57 d m96 K y1 y2 z71 z96 (y5 + 1)) else (jX12_laysTable_57 d m96 K y1 y2 y3 y4 (y5 + 1))) else (jX12_laysTable_57 d m96 K y1 y2 z71 z96 (y5 + 1))))))))) : jX12_laysTable_57 d  M K y1 y2 y3 y4 y5 := by
  unfold jX12_laysTable_57
  refine mm_iload (j := 5) dX12_laysTable_57 rfl ?_
  refine mm_aload_n (j := 0) dX12_laysTable_59 rfl rfl ?_
  refine mm_kVI [] dX12_laysTable_60 kX12_412 rfl sh_164 (by decide) (by decide) h (fun z60 m60 hG h => ?_)
  refine mm_icmp_ge (tgt := 130) dX12_laysTable_63 (by decide) (fun hc => ?_) (fun hc => ?_)
  · rw [if_pos hc] at h
    refine mm_aload_n (j := 0) dX12_laysTable_130 rfl rfl ?_
    refine mm_getR (ci := 12) (N := 116) (r := 205) dX12_laysTable_131 fX12_136 sh_164 rfl (g_164_64 hG) ?_
    refine mm_sipush (x := 128) dX12_laysTable_134 rfl ?_
    refine mm_iload_n (j := 1) dX12_laysTable_137 rfl rfl ?_
    refine mm_imul dX12_laysTable_138 ?_
    refine mm_iload_n (j := 2) dX12_laysTable_139 rfl rfl ?_
    refine mm_iadd dX12_laysTable_140 ?_
    refine mm_iload_n (j := 3) dX12_laysTable_141 rfl rfl ?_
    obtain ⟨hi142, h⟩ := h
    refine mm_iastore (N := 1024) dX12_laysTable_142 sh_205 hi142 ?_
    refine mm_aload_n (j := 0) dX12_laysTable_143 rfl rfl ?_
    refine mm_getR (ci := 12) (N := 116) (r := 206) dX12_laysTable_144 fX12_139 sh_164 rfl (g_164_65 hG) ?_
    refine mm_sipush (x := 128) dX12_laysTable_147 rfl ?_
    refine mm_iload_n (j := 1) dX12_laysTable_150 rfl rfl ?_
    refine mm_imul dX12_laysTable_151 ?_
    refine mm_iload_n (j := 2) dX12_laysTable_152 rfl rfl ?_
    refine mm_iadd dX12_laysTable_153 ?_
    refine mm_iload (j := 4) dX12_laysTable_154 rfl ?_
    obtain ⟨hi156, h⟩ := h
    refine mm_iastore (N := 1024) dX12_laysTable_156 sh_206 hi156 ?_
    refine mm_iinc (j := 2) (v := y2 + 1) (lv' := [(2, .int (y2 + 1)), (0, .ref 164), (1, .int y1), (3, .int y3), (4, .int y4), (5, .int y5)]) dX12_laysTable_157 rfl rfl (by decide) rfl ?_
    refine mm_goto (tgt := 42) dX12_laysTable_160 (by decide) ?_
    exact mm_sub [1, 2, 0] rfl h
  · rw [if_neg hc] at h
    refine mm_aload_n (j := 0) dX12_laysTable_66 rfl rfl ?_
    refine mm_iload_n (j := 1) dX12_laysTable_67 rfl rfl ?_
    refine mm_iload_n (j := 2) dX12_laysTable_68 rfl rfl ?_
    refine mm_iload (j := 5) dX12_laysTable_69 rfl ?_
    refine mm_kVI [.int y1, .int y2, .int y5] dX12_laysTable_71 kX12_565 rfl sh_164 (by decide) (by decide) h (fun z71 m71 hG h => ?_)
    refine mm_istore (lv' := [(6, .int z71), (0, .ref 164), (1, .int y1), (2, .int y2), (3, .int y3), (4, .int y4), (5, .int y5)]) dX12_laysTable_74 (by decide) rfl ?_
    refine mm_iload (j := 0) dX12_laysTable_76 rfl ?_
    refine mm_iload_n (j := 4) dX12_laysTable_78 rfl rfl ?_
    refine mm_icmp_lt (tgt := 124) dX12_laysTable_79 (by decide) (fun hc => ?_) (fun hc => ?_)
    · rw [if_pos hc] at h
      refine mm_iinc (j := 6) (v := y5 + 1) (lv' := [(5, .int (y5 + 1)), (6, .int z71), (0, .ref 164), (1, .int y1), (2, .int y2), (3, .int y3), (4, .int y4)]) dX12_laysTable_124 rfl rfl (by decide) rfl ?_
      refine mm_goto (tgt := 57) dX12_laysTable_127 (by decide) ?_
      exact mm_sub [2, 3, 4, 5, 6, 0] rfl h
    · rw [if_neg hc] at h
      refine mm_iload (j := 0) dX12_laysTable_82 rfl ?_
      refine mm_iconst (x := (-1)) dX12_laysTable_84 rfl ?_
      refine mm_icmp_ne (tgt := 91) dX12_laysTable_85 (by decide) (fun hc => ?_) (fun hc => ?_)
      · rw [if_neg hc] at h
        refine mm_aload_n (j := 1) dX12_laysTable_91 rfl rfl ?_
        refine mm_iload_n (j := 2) dX12_laysTable_92 rfl rfl ?_
        refine mm_iload_n (j := 3) dX12_laysTable_93 rfl rfl ?_
        refine mm_iload (j := 6) dX12_laysTable_94 rfl ?_
        refine mm_kVI [.int y1, .int y2, .int y5] dX12_laysTable_96 kX12_569 rfl sh_164 (by decide) (by decide) h (fun z96 m96 hG h => ?_)
        refine mm_istore (lv' := [(7, .int z96), (6, .int z71), (0, .ref 164), (1, .int y1), (2, .int y2), (3, .int y3), (4, .int y4), (5, .int y5)]) dX12_laysTable_99 (by decide) rfl ?_
        refine mm_iload (j := 1) dX12_laysTable_101 rfl ?_
        refine mm_iload_n (j := 5) dX12_laysTable_103 rfl rfl ?_
        refine mm_icmp_ne (tgt := 117) dX12_laysTable_104 (by decide) (fun hc => ?_) (fun hc => ?_)
        · rw [if_neg hc] at h
          refine mm_iload (j := 1) dX12_laysTable_117 rfl ?_
          refine mm_istore_n (lv' := [(3, .int z71), (7, .int z96), (6, .int z71), (0, .ref 164), (1, .int y1), (2, .int y2), (4, .int y4), (5, .int y5)]) dX12_laysTable_119 rfl (by decide) rfl ?_
          refine mm_iload (j := 1) dX12_laysTable_120 rfl ?_
          refine mm_istore (lv' := [(4, .int z96), (3, .int z71), (7, .int z96), (6, .int z71), (0, .ref 164), (1, .int y1), (2, .int y2), (5, .int y5)]) dX12_laysTable_122 (by decide) rfl ?_
          refine mm_iinc (j := 7) (v := y5 + 1) (lv' := [(5, .int (y5 + 1)), (4, .int z96), (3, .int z71), (7, .int z96), (6, .int z71), (0, .ref 164), (1, .int y1), (2, .int y2)]) dX12_laysTable_124 rfl rfl (by decide) rfl ?_
          refine mm_goto (tgt := 57) dX12_laysTable_127 (by decide) ?_
          exact mm_sub [5, 6, 7, 2, 1, 0] rfl h
        · rw [if_pos hc] at h
          refine mm_iload (j := 0) dX12_laysTable_107 rfl ?_
          refine mm_iload (j := 6) dX12_laysTable_109 rfl ?_
          refine mm_icmp_lt (tgt := 117) dX12_laysTable_111 (by decide) (fun hc => ?_) (fun hc => ?_)
          · rw [if_pos hc] at h
            refine mm_iload (j := 1) dX12_laysTable_117 rfl ?_
            refine mm_istore_n (lv' := [(3, .int z71), (7, .int z96), (6, .int z71), (0, .ref 164), (1, .int y1), (2, .int y2), (4, .int y4), (5, .int y5)]) dX12_laysTable_119 rfl (by decide) rfl ?_
            refine mm_iload (j := 1) dX12_laysTable_120 rfl ?_
            refine mm_istore (lv' := [(4, .int z96), (3, .int z71), (7, .int z96), (6, .int z71), (0, .ref 164), (1, .int y1), (2, .int y2), (5, .int y5)]) dX12_laysTable_122 (by decide) rfl ?_
            refine mm_iinc (j := 7) (v := y5 + 1) (lv' := [(5, .int (y5 + 1)), (4, .int z96), (3, .int z71), (7, .int z96), (6, .int z71), (0, .ref 164), (1, .int y1), (2, .int y2)]) dX12_laysTable_124 rfl rfl (by decide) rfl ?_
            refine mm_goto (tgt := 57) dX12_laysTable_127 (by decide) ?_
            exact mm_sub [5, 6, 7, 2, 1, 0] rfl h
          · rw [if_neg hc] at h
            refine mm_goto (tgt := 124) dX12_laysTable_114 (by decide) ?_
            refine mm_iinc (j := 7) (v := y5 + 1) (lv' := [(5, .int (y5 + 1)), (7, .int z96), (6, .int z71), (0, .ref 164), (1, .int y1), (2, .int y2), (3, .int y3), (4, .int y4)]) dX12_laysTable_124 rfl rfl (by decide) rfl ?_
            refine mm_goto (tgt := 57) dX12_laysTable_127 (by decide) ?_
            exact mm_sub [3, 4, 5, 6, 7, 0] rfl h
      · rw [if_pos hc] at h
        refine mm_goto (tgt := 124) dX12_laysTable_88 (by decide) ?_
        refine mm_iinc (j := 6) (v := y5 + 1) (lv' := [(5, .int (y5 + 1)), (6, .int z71), (0, .ref 164), (1, .int y1), (2, .int y2), (3, .int y3), (4, .int y4)]) dX12_laysTable_124 rfl rfl (by decide) rfl ?_
        refine mm_goto (tgt := 57) dX12_laysTable_127 (by decide) ?_
        exact mm_sub [2, 3, 4, 5, 6, 0] rfl h
def jX12_laysRow_4 (d : Nat) (M : mm_M) (K : mm_M → Prop) (y1 : Int32) (y2 : Int32) : Prop := mm_W mX12_laysRow (d + 1) 0 0 4 [(0, .ref 164), (1, .int y1), (2, .int y2)] [] mm_SH M 0 0 (mm_PV K)
def jX12_laysRow_14 (d : Nat) (M : mm_M) (K : mm_M → Prop) (y1 : Int32) (y2 : Int32) (y3 : Int32) : Prop := mm_W mX12_laysRow (d + 1) 0 0 14 [(0, .ref 164), (1, .int y1), (2, .int y2), (3, .int y3)] [] mm_SH M 0 0 (mm_PV K)
set_option maxRecDepth 100000 in
set_option maxHeartbeats 4000000 in
theorem rX12_laysRow {d : Nat} {M : mm_M} {K : mm_M → Prop} (hG : mm_G M.2.2) (h : jX12_laysRow_4 d M K 0 0) : mm_CV mX12_laysRow (d + 1) [.ref 164] M K := by
  show mm_W mX12_laysRow (d + 1) 0 0 0 [(0, .ref 164)] [] mm_SH M 0 0 (mm_PV K)
  refine mm_iconst (x := 0) dX12_laysRow_0 rfl ?_
  refine mm_istore_n (lv' := [(1, .int 0), (0, .ref 164)]) dX12_laysRow_1 rfl (by decide) rfl ?_
  refine mm_iconst (x := 0) dX12_laysRow_2 rfl ?_
  refine mm_istore_n (lv' := [(2, .int 0), (1, .int 0), (0, .ref 164)]) dX12_laysRow_3 rfl (by decide) rfl ?_
  exact mm_sub [2, 1, 0] rfl h
set_option maxRecDepth 100000 in
set_option maxHeartbeats 4000000 in
theorem lX12_laysRow_4 {d : Nat} {M : mm_M} {K : mm_M → Prop} {y1 : Int32} {y2 : Int32} (hG : mm_G M.2.2) (h : mm_CI mX12_houseMany d [.ref 164] M (fun z6 m6 => if z6 ≤ y2 then (K m6) else (jX12_laysRow_14 d m6 K y1 y2 (-1)))) : jX12_laysRow_4 d  M K y1 y2 := by
  unfold jX12_laysRow_4
  refine mm_iload_n (j := 2) dX12_laysRow_4 rfl rfl ?_
  refine mm_aload_n (j := 0) dX12_laysRow_5 rfl rfl ?_
  refine mm_kVI [] dX12_laysRow_6 kX12_412 rfl sh_164 (by decide) (by decide) h (fun z6 m6 hG h => ?_)
  refine mm_icmp_ge (tgt := 88) dX12_laysRow_9 (by decide) (fun hc => ?_) (fun hc => ?_)
  · rw [if_pos hc] at h
    exact mm_vret dX12_laysRow_88 rfl (Nat.le_refl 0) (Nat.le_refl 0) ⟨rfl, rfl, hG, h⟩
  · rw [if_neg hc] at h
    refine mm_iconst (x := (-1)) dX12_laysRow_12 rfl ?_
    refine mm_istore_n (lv' := [(3, .int (-1)), (0, .ref 164), (1, .int y1), (2, .int y2)]) dX12_laysRow_13 rfl (by decide) rfl ?_
    exact mm_sub [1, 2, 3, 0] rfl h
set_option maxRecDepth 100000 in
set_option maxHeartbeats 4000000 in
theorem lX12_laysRow_14 {d : Nat} {M : mm_M} {K : mm_M → Prop} {y1 : Int32} {y2 : Int32} {y3 : Int32} (hG : mm_G M.2.2) (h : mm_CI mX12_manyBy d [.ref 164, .int y2, .int y1, .int y3] M (fun z18 m18 => vp_in ((128 * y2) + y1) 1024 ∧ if z18 = (m18.1 205 ((128 * y2) + y1).toNatClampNeg) then (mm_CI mX12_hateBy d [.ref 164, .int y2, .int y1, .int y3] m18 (fun z40 m40 => vp_in ((128 * y2) + y1) 1024 ∧ if z40 = (m40.1 206 ((128 * y2) + y1).toNatClampNeg) then (vp_in y2 7 ∧ if y3 = (-1) then (jX12_laysRow_4 d (mm_uI m40 207 (y2).toNatClampNeg y3) K y1 (y2 + 1)) else (jX12_laysRow_4 d (mm_uI m40 207 (y2).toNatClampNeg y3) K (y1 ||| (1 <<< (y3 &&& 31))) (y2 + 1))) else (jX12_laysRow_14 d m40 K y1 y2 (y3 + 1)))) else (jX12_laysRow_14 d m18 K y1 y2 (y3 + 1)))) : jX12_laysRow_14 d  M K y1 y2 y3 := by
  unfold jX12_laysRow_14
  refine mm_aload_n (j := 0) dX12_laysRow_14 rfl rfl ?_
  refine mm_iload_n (j := 2) dX12_laysRow_15 rfl rfl ?_
  refine mm_iload_n (j := 1) dX12_laysRow_16 rfl rfl ?_
  refine mm_iload_n (j := 3) dX12_laysRow_17 rfl rfl ?_
  refine mm_kVI [.int y2, .int y1, .int y3] dX12_laysRow_18 kX12_565 rfl sh_164 (by decide) (by decide) h (fun z18 m18 hG h => ?_)
  refine mm_aload_n (j := 0) dX12_laysRow_21 rfl rfl ?_
  refine mm_getR (ci := 12) (N := 116) (r := 205) dX12_laysRow_22 fX12_136 sh_164 rfl (g_164_64 hG) ?_
  refine mm_sipush (x := 128) dX12_laysRow_25 rfl ?_
  refine mm_iload_n (j := 2) dX12_laysRow_28 rfl rfl ?_
  refine mm_imul dX12_laysRow_29 ?_
  refine mm_iload_n (j := 1) dX12_laysRow_30 rfl rfl ?_
  refine mm_iadd dX12_laysRow_31 ?_
  obtain ⟨hi32, h⟩ := h
  refine mm_iaload (N := 1024) dX12_laysRow_32 sh_205 hi32 ?_
  refine mm_icmp_ne (tgt := 58) dX12_laysRow_33 (by decide) (fun hc => ?_) (fun hc => ?_)
  · rw [if_neg hc] at h
    refine mm_iinc (j := 3) (v := y3 + 1) (lv' := [(3, .int (y3 + 1)), (0, .ref 164), (1, .int y1), (2, .int y2)]) dX12_laysRow_58 rfl rfl (by decide) rfl ?_
    refine mm_goto (tgt := 14) dX12_laysRow_61 (by decide) ?_
    exact mm_sub [1, 2, 3, 0] rfl h
  · rw [if_pos hc] at h
    refine mm_aload_n (j := 0) dX12_laysRow_36 rfl rfl ?_
    refine mm_iload_n (j := 2) dX12_laysRow_37 rfl rfl ?_
    refine mm_iload_n (j := 1) dX12_laysRow_38 rfl rfl ?_
    refine mm_iload_n (j := 3) dX12_laysRow_39 rfl rfl ?_
    refine mm_kVI [.int y2, .int y1, .int y3] dX12_laysRow_40 kX12_569 rfl sh_164 (by decide) (by decide) h (fun z40 m40 hG h => ?_)
    refine mm_aload_n (j := 0) dX12_laysRow_43 rfl rfl ?_
    refine mm_getR (ci := 12) (N := 116) (r := 206) dX12_laysRow_44 fX12_139 sh_164 rfl (g_164_65 hG) ?_
    refine mm_sipush (x := 128) dX12_laysRow_47 rfl ?_
    refine mm_iload_n (j := 2) dX12_laysRow_50 rfl rfl ?_
    refine mm_imul dX12_laysRow_51 ?_
    refine mm_iload_n (j := 1) dX12_laysRow_52 rfl rfl ?_
    refine mm_iadd dX12_laysRow_53 ?_
    obtain ⟨hi54, h⟩ := h
    refine mm_iaload (N := 1024) dX12_laysRow_54 sh_206 hi54 ?_
    refine mm_icmp_eq (tgt := 64) dX12_laysRow_55 (by decide) (fun hc => ?_) (fun hc => ?_)
    · rw [if_pos hc] at h
      refine mm_aload_n (j := 0) dX12_laysRow_64 rfl rfl ?_
      refine mm_getR (ci := 12) (N := 116) (r := 207) dX12_laysRow_65 fX12_142 sh_164 rfl (g_164_67 hG) ?_
      refine mm_iload_n (j := 2) dX12_laysRow_68 rfl rfl ?_
      refine mm_iload_n (j := 3) dX12_laysRow_69 rfl rfl ?_
      obtain ⟨hi70, h⟩ := h
      refine mm_iastore (N := 7) dX12_laysRow_70 sh_207 hi70 ?_
      refine mm_iload_n (j := 3) dX12_laysRow_71 rfl rfl ?_
      refine mm_iconst (x := (-1)) dX12_laysRow_72 rfl ?_
      refine mm_icmp_eq (tgt := 82) dX12_laysRow_73 (by decide) (fun hc => ?_) (fun hc => ?_)
      · rw [if_pos hc] at h
        refine mm_iinc (j := 2) (v := y2 + 1) (lv' := [(2, .int (y2 + 1)), (0, .ref 164), (1, .int y1), (3, .int y3)]) dX12_laysRow_82 rfl rfl (by decide) rfl ?_
        refine mm_goto (tgt := 4) dX12_laysRow_85 (by decide) ?_
        exact mm_sub [1, 2, 0] rfl h
      · rw [if_neg hc] at h
        refine mm_iload_n (j := 1) dX12_laysRow_76 rfl rfl ?_
        refine mm_iconst (x := 1) dX12_laysRow_77 rfl ?_
        refine mm_iload_n (j := 3) dX12_laysRow_78 rfl rfl ?_
        refine mm_ishl dX12_laysRow_79 ?_
        refine mm_ior dX12_laysRow_80 ?_
        refine mm_istore_n (lv' := [(1, .int (y1 ||| (1 <<< (y3 &&& 31)))), (0, .ref 164), (2, .int y2), (3, .int y3)]) dX12_laysRow_81 rfl (by decide) rfl ?_
        refine mm_iinc (j := 2) (v := y2 + 1) (lv' := [(2, .int (y2 + 1)), (1, .int (y1 ||| (1 <<< (y3 &&& 31)))), (0, .ref 164), (3, .int y3)]) dX12_laysRow_82 rfl rfl (by decide) rfl ?_
        refine mm_goto (tgt := 4) dX12_laysRow_85 (by decide) ?_
        exact mm_sub [2, 1, 0] rfl h
    · rw [if_neg hc] at h
      refine mm_iinc (j := 3) (v := y3 + 1) (lv' := [(3, .int (y3 + 1)), (0, .ref 164), (1, .int y1), (2, .int y2)]) dX12_laysRow_58 rfl rfl (by decide) rfl ?_
      refine mm_goto (tgt := 14) dX12_laysRow_61 (by decide) ?_
      exact mm_sub [1, 2, 3, 0] rfl h
set_option maxRecDepth 100000 in
set_option maxHeartbeats 4000000 in
theorem rX12_table {d : Nat} {x1 : Int32} {M : mm_M} {K : Int32 → mm_M → Prop} (hG : mm_G M.2.2) (h : if (M.1 164 48) = 0 then (K (-1) M) else (mm_CI mX12_houseMany d [.ref 164] M (fun z12 m12 => mm_CI mX12_isIn d [.long x1.toInt64, .long 0, .long ((1 + z12).toInt64)] m12 (fun z17 m17 => if z17 = 0 then (K (-1) m17) else (mm_CV mX12_laysTable d [.ref 164] (mm_uI m17 164 66 0) (fun m31 => if 2 ≤ x1 then (mm_CV mX12_laysRow d [.ref 164] m31 (fun m60 => vp_in (x1 - 2) 7 ∧ K (m60.1 207 (x1 - 2).toNatClampNeg) m60)) else (if x1 = 0 then (K (m31.1 205 (0).toNatClampNeg) m31) else (K (m31.1 206 (0).toNatClampNeg) m31)))))))) : mm_CI mX12_table (d + 1) [.ref 164, .int x1] M K := by
  show mm_W mX12_table (d + 1) 0 0 0 [(0, .ref 164), (1, .int x1)] [] mm_SH M 0 0 (mm_PI K)
  refine mm_aload_n (j := 0) dX12_table_0 rfl rfl ?_
  refine mm_getI (ci := 12) (N := 116) dX12_table_1 fX12_399 sh_164 rfl ?_
  refine mm_if_eq (tgt := 23) dX12_table_4 (by decide) (fun hc => ?_) (fun hc => ?_)
  · rw [if_pos hc] at h
    refine mm_iconst (x := (-1)) dX12_table_23 rfl ?_
    exact mm_iret dX12_table_24 rfl (Nat.le_refl 0) (Nat.le_refl 0) ⟨_, rfl, rfl, hG, h⟩
  · rw [if_neg hc] at h
    refine mm_iload_n (j := 1) dX12_table_7 rfl rfl ?_
    refine mm_i2l dX12_table_8 ?_
    refine mm_lconst (x := 0) dX12_table_9 rfl ?_
    refine mm_iconst (x := 1) dX12_table_10 rfl ?_
    refine mm_aload_n (j := 0) dX12_table_11 rfl rfl ?_
    refine mm_kVI [] dX12_table_12 kX12_412 rfl sh_164 (by decide) (by decide) h (fun z12 m12 hG h => ?_)
    refine mm_iadd dX12_table_15 ?_
    refine mm_i2l dX12_table_16 ?_
    refine mm_kSI [.long x1.toInt64, .long 0, .long ((1 + z12).toInt64)] dX12_table_17 kX12_303 rfl (by decide) (by decide) h (fun z17 m17 hG h => ?_)
    refine mm_if_ne (tgt := 25) dX12_table_20 (by decide) (fun hc => ?_) (fun hc => ?_)
    · rw [if_neg hc] at h
      refine mm_aload_n (j := 0) dX12_table_25 rfl rfl ?_
      refine mm_iconst (x := 0) dX12_table_26 rfl ?_
      refine mm_putI (ci := 12) (N := 116) dX12_table_27 fX12_559 sh_164 (by decide +kernel) rfl rfl rfl ?_
      refine mm_aload_n (j := 0) dX12_table_30 rfl rfl ?_
      refine mm_kVV [] dX12_table_31 kX12_572 rfl sh_164 (by decide) (by decide) h (fun m31 hG h => ?_)
      refine mm_iload_n (j := 1) dX12_table_34 rfl rfl ?_
      refine mm_iconst (x := 2) dX12_table_35 rfl ?_
      refine mm_icmp_ge (tgt := 59) dX12_table_36 (by decide) (fun hc => ?_) (fun hc => ?_)
      · rw [if_pos hc] at h
        refine mm_aload_n (j := 0) dX12_table_59 rfl rfl ?_
        refine mm_kVV [] dX12_table_60 kX12_575 rfl sh_164 (by decide) (by decide) h (fun m60 hG h => ?_)
        refine mm_aload_n (j := 0) dX12_table_63 rfl rfl ?_
        refine mm_getR (ci := 12) (N := 116) (r := 207) dX12_table_64 fX12_142 sh_164 rfl (g_164_67 hG) ?_
        refine mm_iload_n (j := 1) dX12_table_67 rfl rfl ?_
        refine mm_iconst (x := 2) dX12_table_68 rfl ?_
        refine mm_isub dX12_table_69 ?_
        obtain ⟨hi70, h⟩ := h
        refine mm_iaload (N := 7) dX12_table_70 sh_207 hi70 ?_
        exact mm_iret dX12_table_71 rfl (Nat.le_refl 0) (Nat.le_refl 0) ⟨_, rfl, rfl, hG, h⟩
      · rw [if_neg hc] at h
        refine mm_iload_n (j := 1) dX12_table_39 rfl rfl ?_
        refine mm_if_ne (tgt := 52) dX12_table_40 (by decide) (fun hc => ?_) (fun hc => ?_)
        · rw [if_neg hc] at h
          refine mm_aload_n (j := 0) dX12_table_52 rfl rfl ?_
          refine mm_getR (ci := 12) (N := 116) (r := 206) dX12_table_53 fX12_139 sh_164 rfl (g_164_65 hG) ?_
          refine mm_iconst (x := 0) dX12_table_56 rfl ?_
          refine mm_iaload (N := 1024) dX12_table_57 sh_206 (by decide) ?_
          exact mm_iret dX12_table_58 rfl (Nat.le_refl 0) (Nat.le_refl 0) ⟨_, rfl, rfl, hG, h⟩
        · rw [if_pos hc] at h
          refine mm_aload_n (j := 0) dX12_table_43 rfl rfl ?_
          refine mm_getR (ci := 12) (N := 116) (r := 205) dX12_table_44 fX12_136 sh_164 rfl (g_164_64 hG) ?_
          refine mm_iconst (x := 0) dX12_table_47 rfl ?_
          refine mm_iaload (N := 1024) dX12_table_48 sh_205 (by decide) ?_
          refine mm_goto (tgt := 58) dX12_table_49 (by decide) ?_
          exact mm_iret dX12_table_58 rfl (Nat.le_refl 0) (Nat.le_refl 0) ⟨_, rfl, rfl, hG, h⟩
    · rw [if_pos hc] at h
      refine mm_iconst (x := (-1)) dX12_table_23 rfl ?_
      exact mm_iret dX12_table_24 rfl (Nat.le_refl 0) (Nat.le_refl 0) ⟨_, rfl, rfl, hG, h⟩
