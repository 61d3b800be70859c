set_option maxRecDepth 100000 in
set_option maxHeartbeats 4000000 in
theorem rX12_doAllEat {d : Nat} {x1 : Int32} {M : mm_M} {K : Int32 → mm_M → Prop} (hG : mm_G M.2.2) (h : mm_CV mX12_laysTable d [.ref 164] (mm_uI M 164 66 x1) (fun m6 => mm_CI mX12_thereSet d [.ref 164] m6 (fun z16 m16 => mm_CI mX12_bits d [.int z16] m16 (fun z19 m19 => if (m6.1 205 (0).toNatClampNeg) = z19 then (K 1 m19) else (K 0 m19))))) : mm_CI mX12_doAllEat (d + 1) [.ref 164, .int x1] M K := by
  show mm_W mX12_doAllEat (d + 1) 0 0 0 [(0, .ref 164), (1, .int x1)] [] mm_SH M 0 0 (mm_PI K)
  refine mm_aload_n (j := 0) dX12_doAllEat_0 rfl rfl ?_
  refine mm_iload_n (j := 1) dX12_doAllEat_1 rfl rfl ?_
  refine mm_putI (ci := 12) (N := 116) dX12_doAllEat_2 fX12_559 sh_164 (by decide +kernel) rfl rfl rfl ?_
  refine mm_aload_n (j := 0) dX12_doAllEat_5 rfl rfl ?_
  refine mm_kVV [] dX12_doAllEat_6 kX12_572 rfl sh_164 (by decide) (by decide) h (fun m6 hG h => ?_)
  refine mm_aload_n (j := 0) dX12_doAllEat_9 rfl rfl ?_
  refine mm_getR (ci := 12) (N := 116) (r := 205) dX12_doAllEat_10 fX12_136 sh_164 rfl (g_164_64 hG) ?_
  refine mm_iconst (x := 0) dX12_doAllEat_13 rfl ?_
  refine mm_iaload (N := 1024) dX12_doAllEat_14 sh_205 (by decide) ?_
  refine mm_aload_n (j := 0) dX12_doAllEat_15 rfl rfl ?_
  refine mm_kVI [] dX12_doAllEat_16 kX12_522 rfl sh_164 (by decide) (by decide) h (fun z16 m16 hG h => ?_)
  refine mm_kSI [.int z16] dX12_doAllEat_19 kX12_525 rfl (by decide) (by decide) h (fun z19 m19 hG h => ?_)
  refine mm_icmp_ne (tgt := 29) dX12_doAllEat_22 (by decide) (fun hc => ?_) (fun hc => ?_)
  · rw [if_neg hc] at h
    refine mm_iconst (x := 0) dX12_doAllEat_29 rfl ?_
    exact mm_zret dX12_doAllEat_30 rfl rfl (Nat.le_refl 0) (Nat.le_refl 0) ⟨_, rfl, rfl, hG, h⟩
  · rw [if_pos hc] at h
    refine mm_iconst (x := 1) dX12_doAllEat_25 rfl ?_
    refine mm_goto (tgt := 30) dX12_doAllEat_26 (by decide) ?_
    exact mm_zret dX12_doAllEat_30 rfl rfl (Nat.le_refl 0) (Nat.le_refl 0) ⟨_, rfl, rfl, hG, h⟩
set_option maxRecDepth 100000 in
set_option maxHeartbeats 4000000 in
theorem rX12_bitOf {d : Nat} {x1 : Int32} {M : mm_M} {K : Int32 → mm_M → Prop} (hG : mm_G M.2.2) (h : vp_in x1 21 ∧ vp_in x1 21 ∧ mm_CI mX12_pairOf d [.int (M.1 208 (x1).toNatClampNeg), .int (M.1 209 (x1).toNatClampNeg)] M (fun z13 m13 => K (1 <<< (z13 &&& 31)) m13)) : mm_CI mX12_bitOf (d + 1) [.ref 164, .int x1] M K := by
  show mm_W mX12_bitOf (d + 1) 0 0 0 [(0, .ref 164), (1, .int x1)] [] mm_SH M 0 0 (mm_PI K)
  refine mm_iconst (x := 1) dX12_bitOf_0 rfl ?_
  refine mm_aload_n (j := 0) dX12_bitOf_1 rfl rfl ?_
  refine mm_getR (ci := 12) (N := 116) (r := 208) dX12_bitOf_2 fX12_145 sh_164 rfl (g_164_68 hG) ?_
  refine mm_iload_n (j := 1) dX12_bitOf_5 rfl rfl ?_
  obtain ⟨hi6, h⟩ := h
  refine mm_iaload (N := 21) dX12_bitOf_6 sh_208 hi6 ?_
  refine mm_aload_n (j := 0) dX12_bitOf_7 rfl rfl ?_
  refine mm_getR (ci := 12) (N := 116) (r := 209) dX12_bitOf_8 fX12_148 sh_164 rfl (g_164_69 hG) ?_
  refine mm_iload_n (j := 1) dX12_bitOf_11 rfl rfl ?_
  obtain ⟨hi12, h⟩ := h
  refine mm_iaload (N := 21) dX12_bitOf_12 sh_209 hi12 ?_
  refine mm_kSI [.int (M.1 208 (x1).toNatClampNeg), .int (M.1 209 (x1).toNatClampNeg)] dX12_bitOf_13 kX12_347 rfl (by decide) (by decide) h (fun z13 m13 hG h => ?_)
  refine mm_ishl dX12_bitOf_16 ?_
  exact mm_iret dX12_bitOf_17 rfl (Nat.le_refl 0) (Nat.le_refl 0) ⟨_, rfl, rfl, hG, h⟩
def jX12_laysFree_4 (d : Nat) (M : mm_M) (K : Int32 → mm_M → Prop) (y1 : Int32) (y2 : Int32) : Prop := mm_W mX12_laysFree (d + 1) 0 0 4 [(0, .ref 164), (1, .int y1), (2, .int y2)] [] mm_SH M 0 0 (mm_PI K)
def jX12_laysFree_16 (d : Nat) (M : mm_M) (K : Int32 → mm_M → Prop) (y1 : Int32) (y2 : Int32) (y3 : Int32) : Prop := mm_W mX12_laysFree (d + 1) 0 0 16 [(0, .ref 164), (1, .int y1), (2, .int y2), (3, .int y3)] [] mm_SH M 0 0 (mm_PI K)
set_option maxRecDepth 100000 in
set_option maxHeartbeats 4000000 in
theorem rX12_laysFree {d : Nat} {M : mm_M} {K : Int32 → mm_M → Prop} (hG : mm_G M.2.2) (h : jX12_laysFree_4 d M K 0 0) : mm_CI mX12_laysFree (d + 1) [.ref 164] M K := by
  show mm_W mX12_laysFree (d + 1) 0 0 0 [(0, .ref 164)] [] mm_SH M 0 0 (mm_PI K)
  refine mm_iconst (x := 0) dX12_laysFree_0 rfl ?_
  refine mm_istore_n (lv' := [(1, .int 0), (0, .ref 164)]) dX12_laysFree_1 rfl (by decide) rfl ?_
  refine mm_iconst (x := 0) dX12_laysFree_2 rfl ?_
  refine mm_istore_n (lv' := [(2, .int 0), (1, .int 0), (0, .ref 164)]) dX12_laysFree_3 rfl (by decide) rfl ?_
  exact mm_sub [2, 1, 0] rfl h
set_option maxRecDepth 100000 in
set_option maxHeartbeats 4000000 in
theorem lX12_laysFree_4 {d : Nat} {M : mm_M} {K : Int32 → mm_M → Prop} {y1 : Int32} {y2 : Int32} (hG : mm_G M.2.2) (h : mm_CI mX12_houseMany d [.ref 164] M (fun z6 m6 => if z6 ≤ y2 then (K y1 m6) else (jX12_laysFree_16 d m6 K y1 y2 (y2 + 1)))) : jX12_laysFree_4 d  M K y1 y2 := by
  unfold jX12_laysFree_4
  refine mm_iload_n (j := 2) dX12_laysFree_4 rfl rfl ?_
  refine mm_aload_n (j := 0) dX12_laysFree_5 rfl rfl ?_
  refine mm_kVI [] dX12_laysFree_6 kX12_412 rfl sh_164 (by decide) (by decide) h (fun z6 m6 hG h => ?_)
  refine mm_icmp_ge (tgt := 81) dX12_laysFree_9 (by decide) (fun hc => ?_) (fun hc => ?_)
  · rw [if_pos hc] at h
    refine mm_iload_n (j := 1) dX12_laysFree_81 rfl rfl ?_
    exact mm_iret dX12_laysFree_82 rfl (Nat.le_refl 0) (Nat.le_refl 0) ⟨_, rfl, rfl, hG, h⟩
  · rw [if_neg hc] at h
    refine mm_iload_n (j := 2) dX12_laysFree_12 rfl rfl ?_
    refine mm_iconst (x := 1) dX12_laysFree_13 rfl ?_
    refine mm_iadd dX12_laysFree_14 ?_
    refine mm_istore_n (lv' := [(3, .int (y2 + 1)), (0, .ref 164), (1, .int y1), (2, .int y2)]) dX12_laysFree_15 rfl (by decide) rfl ?_
    exact mm_sub [1, 2, 3, 0] rfl h
set_option maxRecDepth 100000 in
set_option maxHeartbeats 4000000 in
theorem lX12_laysFree_16 {d : Nat} {M : mm_M} {K : Int32 → mm_M → Prop} {y1 : Int32} {y2 : Int32} {y3 : Int32} (hG : mm_G M.2.2) (h : mm_CI mX12_houseMany d [.ref 164] M (fun z18 m18 => if z18 ≤ y3 then (jX12_laysFree_4 d m18 K y1 (y2 + 1)) else (mm_CI mX12_isThere d [.ref 164, .int y2] m18 (fun z26 m26 => if z26 = 0 then (jX12_laysFree_16 d m26 K y1 y2 (y3 + 1)) else (mm_CI mX12_isThere d [.ref 164, .int y3] m26 (fun z34 m34 => if z34 = 0 then (jX12_laysFree_16 d m34 K y1 y2 (y3 + 1)) else (mm_CI mX12_areEnemies d [.ref 164, .int y2, .int y3] m34 (fun z43 m43 => if z43 = 0 then (vp_in y1 21 ∧ vp_in y1 21 ∧ jX12_laysFree_16 d (mm_uI (mm_uI m43 208 (y1).toNatClampNeg y2) 209 (y1).toNatClampNeg y3) K (y1 + 1) y2 (y3 + 1)) else (jX12_laysFree_16 d m43 K y1 y2 (y3 + 1)))))))))) : jX12_laysFree_16 d  M K y1 y2 y3 := by
  unfold jX12_laysFree_16
  refine mm_iload_n (j := 3) dX12_laysFree_16 rfl rfl ?_
  refine mm_aload_n (j := 0) dX12_laysFree_17 rfl rfl ?_
  refine mm_kVI [] dX12_laysFree_18 kX12_412 rfl sh_164 (by decide) (by decide) h (fun z18 m18 hG h => ?_)
  refine mm_icmp_ge (tgt := 75) dX12_laysFree_21 (by decide) (fun hc => ?_) (fun hc => ?_)
  · rw [if_pos hc] at h
    refine mm_iinc (j := 2) (v := y2 + 1) (lv' := [(2, .int (y2 + 1)), (0, .ref 164), (1, .int y1), (3, .int y3)]) dX12_laysFree_75 rfl rfl (by decide) rfl ?_
    refine mm_goto (tgt := 4) dX12_laysFree_78 (by decide) ?_
    exact mm_sub [1, 2, 0] rfl h
  · rw [if_neg hc] at h
    refine mm_aload_n (j := 0) dX12_laysFree_24 rfl rfl ?_
    refine mm_iload_n (j := 2) dX12_laysFree_25 rfl rfl ?_
    refine mm_kVI [.int y2] dX12_laysFree_26 kX12_462 rfl sh_164 (by decide) (by decide) h (fun z26 m26 hG h => ?_)
    refine mm_if_eq (tgt := 69) dX12_laysFree_29 (by decide) (fun hc => ?_) (fun hc => ?_)
    · rw [if_pos hc] at h
      refine mm_iinc (j := 3) (v := y3 + 1) (lv' := [(3, .int (y3 + 1)), (0, .ref 164), (1, .int y1), (2, .int y2)]) dX12_laysFree_69 rfl rfl (by decide) rfl ?_
      refine mm_goto (tgt := 16) dX12_laysFree_72 (by decide) ?_
      exact mm_sub [1, 2, 3, 0] rfl h
    · rw [if_neg hc] at h
      refine mm_aload_n (j := 0) dX12_laysFree_32 rfl rfl ?_
      refine mm_iload_n (j := 3) dX12_laysFree_33 rfl rfl ?_
      refine mm_kVI [.int y3] dX12_laysFree_34 kX12_462 rfl sh_164 (by decide) (by decide) h (fun z34 m34 hG h => ?_)
      refine mm_if_eq (tgt := 69) dX12_laysFree_37 (by decide) (fun hc => ?_) (fun hc => ?_)
      · rw [if_pos hc] at h
        refine mm_iinc (j := 3) (v := y3 + 1) (lv' := [(3, .int (y3 + 1)), (0, .ref 164), (1, .int y1), (2, .int y2)]) dX12_laysFree_69 rfl rfl (by decide) rfl ?_
        refine mm_goto (tgt := 16) dX12_laysFree_72 (by decide) ?_
        exact mm_sub [1, 2, 3, 0] rfl h
      · rw [if_neg hc] at h
        refine mm_aload_n (j := 0) dX12_laysFree_40 rfl rfl ?_
        refine mm_iload_n (j := 2) dX12_laysFree_41 rfl rfl ?_
        refine mm_iload_n (j := 3) dX12_laysFree_42 rfl rfl ?_
        refine mm_kVI [.int y2, .int y3] dX12_laysFree_43 kX12_418 rfl sh_164 (by decide) (by decide) h (fun z43 m43 hG h => ?_)
        refine mm_if_eq (tgt := 52) dX12_laysFree_46 (by decide) (fun hc => ?_) (fun hc => ?_)
        · rw [if_pos hc] at h
          refine mm_aload_n (j := 0) dX12_laysFree_52 rfl rfl ?_
          refine mm_getR (ci := 12) (N := 116) (r := 208) dX12_laysFree_53 fX12_145 sh_164 rfl (g_164_68 hG) ?_
          refine mm_iload_n (j := 1) dX12_laysFree_56 rfl rfl ?_
          refine mm_iload_n (j := 2) dX12_laysFree_57 rfl rfl ?_
          obtain ⟨hi58, h⟩ := h
          refine mm_iastore (N := 21) dX12_laysFree_58 sh_208 hi58 ?_
          refine mm_aload_n (j := 0) dX12_laysFree_59 rfl rfl ?_
          refine mm_getR (ci := 12) (N := 116) (r := 209) dX12_laysFree_60 fX12_148 sh_164 rfl (g_164_69 hG) ?_
          refine mm_iload_n (j := 1) dX12_laysFree_63 rfl rfl ?_
          refine mm_iload_n (j := 3) dX12_laysFree_64 rfl rfl ?_
          obtain ⟨hi65, h⟩ := h
          refine mm_iastore (N := 21) dX12_laysFree_65 sh_209 hi65 ?_
          refine mm_iinc (j := 1) (v := y1 + 1) (lv' := [(1, .int (y1 + 1)), (0, .ref 164), (2, .int y2), (3, .int y3)]) dX12_laysFree_66 rfl rfl (by decide) rfl ?_
          refine mm_iinc (j := 3) (v := y3 + 1) (lv' := [(3, .int (y3 + 1)), (1, .int (y1 + 1)), (0, .ref 164), (2, .int y2)]) dX12_laysFree_69 rfl rfl (by decide) rfl ?_
          refine mm_goto (tgt := 16) dX12_laysFree_72 (by decide) ?_
          exact mm_sub [2, 1, 3, 0] rfl h
        · rw [if_neg hc] at h
          refine mm_goto (tgt := 69) dX12_laysFree_49 (by decide) ?_
          refine mm_iinc (j := 3) (v := y3 + 1) (lv' := [(3, .int (y3 + 1)), (0, .ref 164), (1, .int y1), (2, .int y2)]) dX12_laysFree_69 rfl rfl (by decide) rfl ?_
          refine mm_goto (tgt := 16) dX12_laysFree_72 (by decide) ?_
          exact mm_sub [1, 2, 3, 0] rfl h
def jX12_wantingMany_17 (d : Nat) (M : mm_M) (K : Int32 → mm_M → Prop) (y1 : Int32) (y2 : Int32) : Prop := mm_W mX12_wantingMany (d + 1) 0 0 17 [(0, .ref 164), (1, .int y1), (2, .int y2)] [] mm_SH M 0 0 (mm_PI K)
def jX12_wantingMany_51 (d : Nat) (M : mm_M) (K : Int32 → mm_M → Prop) (y1 : Int32) (y2 : Int32) : Prop := mm_W mX12_wantingMany (d + 1) 0 0 51 [(0, .ref 164), (1, .int y1), (2, .int y2)] [] mm_SH M 0 0 (mm_PI K)
def jX12_wantingMany_113 (d : Nat) (M : mm_M) (K : Int32 → mm_M → Prop) (y1 : Int32) (y2 : Int32) : Prop := mm_W mX12_wantingMany (d + 1) 0 0 113 [(0, .ref 164), (1, .int y1), (2, .int y2)] [] mm_SH M 0 0 (mm_PI K)
def jX12_wantingMany_60 (d : Nat) (M : mm_M) (K : Int32 → mm_M → Prop) (y1 : Int32) (y2 : Int32) (y3 : Int32) : Prop := mm_W mX12_wantingMany (d + 1) 0 0 60 [(0, .ref 164), (1, .int y1), (2, .int y2), (3, .int y3)] [] mm_SH M 0 0 (mm_PI K)
def jX12_wantingMany_122 (d : Nat) (M : mm_M) (K : Int32 → mm_M → Prop) (y1 : Int32) (y2 : Int32) (y3 : Int32) : Prop := mm_W mX12_wantingMany (d + 1) 0 0 122 [(0, .ref 164), (1, .int y1), (2, .int y2), (3, .int y3)] [] mm_SH M 0 0 (mm_PI K)
def jX12_wantingMany_132 (d : Nat) (M : mm_M) (K : Int32 → mm_M → Prop) (y1 : Int32) (y2 : Int32) (y3 : Int32) (y4 : Int32) : Prop := mm_W mX12_wantingMany (d + 1) 0 0 132 [(0, .ref 164), (1, .int y1), (2, .int y2), (3, .int y3), (4, .int y4)] [] mm_SH M 0 0 (mm_PI K)
set_option maxRecDepth 100000 in
set_option maxHeartbeats 4000000 in
theorem rX12_wantingMany {d : Nat} {M : mm_M} {K : Int32 → mm_M → Prop} (hG : mm_G M.2.2) (h : mm_CI mX12_laysFree d [.ref 164] M (fun z1 m1 => mm_CI mX12_doAllEat d [.ref 164, .int 0] m1 (fun z7 m7 => if z7 = 0 then (jX12_wantingMany_17 d m7 K z1 0) else (K 0 m7)))) : mm_CI mX12_wantingMany (d + 1) [.ref 164] M K := by
  show mm_W mX12_wantingMany (d + 1) 0 0 0 [(0, .ref 164)] [] mm_SH M 0 0 (mm_PI K)
  refine mm_aload_n (j := 0) dX12_wantingMany_0 rfl rfl ?_
  refine mm_kVI [] dX12_wantingMany_1 kX12_578 rfl sh_164 (by decide) (by decide) h (fun z1 m1 hG h => ?_)
  refine mm_istore_n (lv' := [(1, .int z1), (0, .ref 164)]) dX12_wantingMany_4 rfl (by decide) rfl ?_
  refine mm_aload_n (j := 1) dX12_wantingMany_5 rfl rfl ?_
  refine mm_iconst (x := 0) dX12_wantingMany_6 rfl ?_
  refine mm_kVI [.int 0] dX12_wantingMany_7 kX12_581 rfl sh_164 (by decide) (by decide) h (fun z7 m7 hG h => ?_)
  refine mm_if_eq (tgt := 15) dX12_wantingMany_10 (by decide) (fun hc => ?_) (fun hc => ?_)
  · rw [if_pos hc] at h
    refine mm_iconst (x := 0) dX12_wantingMany_15 rfl ?_
    refine mm_istore_n (lv' := [(2, .int 0), (1, .int z1), (0, .ref 164)]) dX12_wantingMany_16 rfl (by decide) rfl ?_
    exact mm_sub [2, 1, 0] rfl h
  · rw [if_neg hc] at h
    refine mm_iconst (x := 0) dX12_wantingMany_13 rfl ?_
    exact mm_iret dX12_wantingMany_14 rfl (Nat.le_refl 0) (Nat.le_refl 0) ⟨_, rfl, rfl, hG, h⟩
set_option maxRecDepth 100000 in
set_option maxHeartbeats 4000000 in
theorem lX12_wantingMany_17 {d : Nat} {M : mm_M} {K : Int32 → mm_M → Prop} {y1 : Int32} {y2 : Int32} (hG : mm_G M.2.2) (h : if y1 ≤ y2 then (jX12_wantingMany_51 d M K y1 0) else (mm_CI mX12_bitOf d [.ref 164, .int y2] (mm_uI M 210 (0).toNatClampNeg y2) (fun z32 m32 => mm_CI mX12_doAllEat d [.ref 164, .int z32] m32 (fun z35 m35 => if z35 = 0 then (jX12_wantingMany_17 d m35 K y1 (y2 + 1)) else (K 1 m35))))) : jX12_wantingMany_17 d  M K y1 y2 := by
  unfold jX12_wantingMany_17
  refine mm_iload_n (j := 2) dX12_wantingMany_17 rfl rfl ?_
  refine mm_iload_n (j := 1) dX12_wantingMany_18 rfl rfl ?_
  refine mm_icmp_ge (tgt := 49) dX12_wantingMany_19 (by decide) (fun hc => ?_) (fun hc => ?_)
  · rw [if_pos hc] at h
    refine mm_iconst (x := 0) dX12_wantingMany_49 rfl ?_
    refine mm_istore_n (lv' := [(2, .int 0), (0, .ref 164), (1, .int y1)]) dX12_wantingMany_50 rfl (by decide) rfl ?_
    exact mm_sub [1, 2, 0] rfl h
  · rw [if_neg hc] at h
    refine mm_aload_n (j := 0) dX12_wantingMany_22 rfl rfl ?_
    refine mm_getR (ci := 12) (N := 116) (r := 210) dX12_wantingMany_23 fX12_151 sh_164 rfl (g_164_70 hG) ?_
    refine mm_iconst (x := 0) dX12_wantingMany_26 rfl ?_
    refine mm_iload_n (j := 2) dX12_wantingMany_27 rfl rfl ?_
    refine mm_iastore (N := 3) dX12_wantingMany_28 sh_210 (by decide) ?_
    refine mm_aload_n (j := 0) dX12_wantingMany_29 rfl rfl ?_
    refine mm_aload_n (j := 0) dX12_wantingMany_30 rfl rfl ?_
    refine mm_iload_n (j := 2) dX12_wantingMany_31 rfl rfl ?_
    refine mm_kVI [.int y2] dX12_wantingMany_32 kX12_584 rfl sh_164 (by decide) (by decide) h (fun z32 m32 hG h => ?_)
    refine mm_kVI [.int z32] dX12_wantingMany_35 kX12_581 rfl sh_164 (by decide) (by decide) h (fun z35 m35 hG h => ?_)
    refine mm_if_eq (tgt := 43) dX12_wantingMany_38 (by decide) (fun hc => ?_) (fun hc => ?_)
    · rw [if_pos hc] at h
      refine mm_iinc (j := 2) (v := y2 + 1) (lv' := [(2, .int (y2 + 1)), (0, .ref 164), (1, .int y1)]) dX12_wantingMany_43 rfl rfl (by decide) rfl ?_
      refine mm_goto (tgt := 17) dX12_wantingMany_46 (by decide) ?_
      exact mm_sub [1, 2, 0] rfl h
    · rw [if_neg hc] at h
      refine mm_iconst (x := 1) dX12_wantingMany_41 rfl ?_
      exact mm_iret dX12_wantingMany_42 rfl (Nat.le_refl 0) (Nat.le_refl 0) ⟨_, rfl, rfl, hG, h⟩
set_option maxRecDepth 100000 in
set_option maxHeartbeats 4000000 in
theorem lX12_wantingMany_51 {d : Nat} {M : mm_M} {K : Int32 → mm_M → Prop} {y1 : Int32} {y2 : Int32} (hG : mm_G M.2.2) (h : if y1 ≤ y2 then (jX12_wantingMany_113 d M K y1 0) else (jX12_wantingMany_60 d M K y1 y2 (y2 + 1))) : jX12_wantingMany_51 d  M K y1 y2 := by
  unfold jX12_wantingMany_51
  refine mm_iload_n (j := 2) dX12_wantingMany_51 rfl rfl ?_
  refine mm_iload_n (j := 1) dX12_wantingMany_52 rfl rfl ?_
  refine mm_icmp_ge (tgt := 111) dX12_wantingMany_53 (by decide) (fun hc => ?_) (fun hc => ?_)
  · rw [if_pos hc] at h
    refine mm_iconst (x := 0) dX12_wantingMany_111 rfl ?_
    refine mm_istore_n (lv' := [(2, .int 0), (0, .ref 164), (1, .int y1)]) dX12_wantingMany_112 rfl (by decide) rfl ?_
    exact mm_sub [1, 2, 0] rfl h
  · rw [if_neg hc] at h
    refine mm_iload_n (j := 2) dX12_wantingMany_56 rfl rfl ?_
    refine mm_iconst (x := 1) dX12_wantingMany_57 rfl ?_
    refine mm_iadd dX12_wantingMany_58 ?_
    refine mm_istore_n (lv' := [(3, .int (y2 + 1)), (0, .ref 164), (1, .int y1), (2, .int y2)]) dX12_wantingMany_59 rfl (by decide) rfl ?_
    exact mm_sub [1, 2, 3, 0] rfl h
set_option maxRecDepth 100000 in
set_option maxHeartbeats 4000000 in
theorem lX12_wantingMany_113 {d : Nat} {M : mm_M} {K : Int32 → mm_M → Prop} {y1 : Int32} {y2 : Int32} (hG : mm_G M.2.2) (h : if y1 ≤ y2 then (K (-1) M) else (jX12_wantingMany_122 d M K y1 y2 (y2 + 1))) : jX12_wantingMany_113 d  M K y1 y2 := by
  unfold jX12_wantingMany_113
  refine mm_iload_n (j := 2) dX12_wantingMany_113 rfl rfl ?_
  refine mm_iload_n (j := 1) dX12_wantingMany_114 rfl rfl ?_
  refine mm_icmp_ge (tgt := 205) dX12_wantingMany_115 (by decide) (fun hc => ?_) (fun hc => ?_)
  · rw [if_pos hc] at h
    refine mm_iconst (x := (-1)) dX12_wantingMany_205 rfl ?_
    exact mm_iret dX12_wantingMany_206 rfl (Nat.le_refl 0) (Nat.le_refl 0) ⟨_, rfl, rfl, hG, h⟩
  · rw [if_neg hc] at h
    refine mm_iload_n (j := 2) dX12_wantingMany_118 rfl rfl ?_
    refine mm_iconst (x := 1) dX12_wantingMany_119 rfl ?_
    refine mm_iadd dX12_wantingMany_120 ?_
    refine mm_istore_n (lv' := [(3, .int (y2 + 1)), (0, .ref 164), (1, .int y1), (2, .int y2)]) dX12_wantingMany_121 rfl (by decide) rfl ?_
    exact mm_sub [1, 2, 3, 0] rfl h
set_option maxRecDepth 100000 in
set_option maxHeartbeats 4000000 in
theorem lX12_wantingMany_60 {d : Nat} {M : mm_M} {K : Int32 → mm_M → Prop} {y1 : Int32} {y2 : Int32} {y3 : Int32} (hG : mm_G M.2.2) (h : if y1 ≤ y3 then (jX12_wantingMany_51 d M K y1 (y2 + 1)) else (mm_CI mX12_bitOf d [.ref 164, .int y2] (mm_uI (mm_uI M 210 (0).toNatClampNeg y2) 210 (1).toNatClampNeg y3) (fun z82 m82 => mm_CI mX12_bitOf d [.ref 164, .int y3] m82 (fun z87 m87 => mm_CI mX12_doAllEat d [.ref 164, .int (z82 ||| z87)] m87 (fun z91 m91 => if z91 = 0 then (jX12_wantingMany_60 d m91 K y1 y2 (y3 + 1)) else (K 2 m91)))))) : jX12_wantingMany_60 d  M K y1 y2 y3 := by
  unfold jX12_wantingMany_60
  refine mm_iload_n (j := 3) dX12_wantingMany_60 rfl rfl ?_
  refine mm_iload_n (j := 1) dX12_wantingMany_61 rfl rfl ?_
  refine mm_icmp_ge (tgt := 105) dX12_wantingMany_62 (by decide) (fun hc => ?_) (fun hc => ?_)
  · rw [if_pos hc] at h
    refine mm_iinc (j := 2) (v := y2 + 1) (lv' := [(2, .int (y2 + 1)), (0, .ref 164), (1, .int y1), (3, .int y3)]) dX12_wantingMany_105 rfl rfl (by decide) rfl ?_
    refine mm_goto (tgt := 51) dX12_wantingMany_108 (by decide) ?_
    exact mm_sub [1, 2, 0] rfl h
  · rw [if_neg hc] at h
    refine mm_aload_n (j := 0) dX12_wantingMany_65 rfl rfl ?_
    refine mm_getR (ci := 12) (N := 116) (r := 210) dX12_wantingMany_66 fX12_151 sh_164 rfl (g_164_70 hG) ?_
    refine mm_iconst (x := 0) dX12_wantingMany_69 rfl ?_
    refine mm_iload_n (j := 2) dX12_wantingMany_70 rfl rfl ?_
    refine mm_iastore (N := 3) dX12_wantingMany_71 sh_210 (by decide) ?_
    refine mm_aload_n (j := 0) dX12_wantingMany_72 rfl rfl ?_
    refine mm_getR (ci := 12) (N := 116) (r := 210) dX12_wantingMany_73 fX12_151 sh_164 rfl (g_164_70 hG) ?_
    refine mm_iconst (x := 1) dX12_wantingMany_76 rfl ?_
    refine mm_iload_n (j := 3) dX12_wantingMany_77 rfl rfl ?_
    refine mm_iastore (N := 3) dX12_wantingMany_78 sh_210 (by decide) ?_
    refine mm_aload_n (j := 0) dX12_wantingMany_79 rfl rfl ?_
    refine mm_aload_n (j := 0) dX12_wantingMany_80 rfl rfl ?_
    refine mm_iload_n (j := 2) dX12_wantingMany_81 rfl rfl ?_
    refine mm_kVI [.int y2] dX12_wantingMany_82 kX12_584 rfl sh_164 (by decide) (by decide) h (fun z82 m82 hG h => ?_)
    refine mm_aload_n (j := 0) dX12_wantingMany_85 rfl rfl ?_
    refine mm_iload_n (j := 3) dX12_wantingMany_86 rfl rfl ?_
    refine mm_kVI [.int y3] dX12_wantingMany_87 kX12_584 rfl sh_164 (by decide) (by decide) h (fun z87 m87 hG h => ?_)
    refine mm_ior dX12_wantingMany_90 ?_
    refine mm_kVI [.int (z82 ||| z87)] dX12_wantingMany_91 kX12_581 rfl sh_164 (by decide) (by decide) h (fun z91 m91 hG h => ?_)
    refine mm_if_eq (tgt := 99) dX12_wantingMany_94 (by decide) (fun hc => ?_) (fun hc => ?_)
    · rw [if_pos hc] at h
      refine mm_iinc (j := 3) (v := y3 + 1) (lv' := [(3, .int (y3 + 1)), (0, .ref 164), (1, .int y1), (2, .int y2)]) dX12_wantingMany_99 rfl rfl (by decide) rfl ?_
      refine mm_goto (tgt := 60) dX12_wantingMany_102 (by decide) ?_
      exact mm_sub [1, 2, 3, 0] rfl h
    · rw [if_neg hc] at h
      refine mm_iconst (x := 2) dX12_wantingMany_97 rfl ?_
      exact mm_iret dX12_wantingMany_98 rfl (Nat.le_refl 0) (Nat.le_refl 0) ⟨_, rfl, rfl, hG, h⟩
set_option maxRecDepth 100000 in
set_option maxHeartbeats 4000000 in
theorem lX12_wantingMany_122 {d : Nat} {M : mm_M} {K : Int32 → mm_M → Prop} {y1 : Int32} {y2 : Int32} {y3 : Int32} (hG : mm_G M.2.2) (h : if y1 ≤ y3 then (jX12_wantingMany_113 d M K y1 (y2 + 1)) else (jX12_wantingMany_132 d M K y1 y2 y3 (y3 + 1))) : jX12_wantingMany_122 d  M K y1 y2 y3 := by
  unfold jX12_wantingMany_122
  refine mm_iload_n (j := 3) dX12_wantingMany_122 rfl rfl ?_
  refine mm_iload_n (j := 1) dX12_wantingMany_123 rfl rfl ?_
  refine mm_icmp_ge (tgt := 199) dX12_wantingMany_124 (by decide) (fun hc => ?_) (fun hc => ?_)
  · rw [if_pos hc] at h
    refine mm_iinc (j := 2) (v := y2 + 1) (lv' := [(2, .int (y2 + 1)), (0, .ref 164), (1, .int y1), (3, .int y3)]) dX12_wantingMany_199 rfl rfl (by decide) rfl ?_
    refine mm_goto (tgt := 113) dX12_wantingMany_202 (by decide) ?_
    exact mm_sub [1, 2, 0] rfl h
  · rw [if_neg hc] at h
    refine mm_iload_n (j := 3) dX12_wantingMany_127 rfl rfl ?_
    refine mm_iconst (x := 1) dX12_wantingMany_128 rfl ?_
    refine mm_iadd dX12_wantingMany_129 ?_
    refine mm_istore (lv' := [(4, .int (y3 + 1)), (0, .ref 164), (1, .int y1), (2, .int y2), (3, .int y3)]) dX12_wantingMany_130 (by decide) rfl ?_
    exact mm_sub [1, 2, 3, 4, 0] rfl h
set_option maxRecDepth 100000 in
set_option maxHeartbeats 4000000 in
theorem lX12_wantingMany_132 {d : Nat} {M : mm_M} {K : Int32 → mm_M → Prop} {y1 : Int32} {y2 : Int32} {y3 : Int32} {y4 : Int32} (hG : mm_G M.2.2) (h : if y1 ≤ y4 then (jX12_wantingMany_122 d M K y1 y2 (y3 + 1)) else (mm_CI mX12_bitOf d [.ref 164, .int y2] (mm_uI (mm_uI (mm_uI M 210 (0).toNatClampNeg y2) 210 (1).toNatClampNeg y3) 210 (2).toNatClampNeg y4) (fun z163 m163 => mm_CI mX12_bitOf d [.ref 164, .int y3] m163 (fun z168 m168 => mm_CI mX12_bitOf d [.ref 164, .int y4] m168 (fun z175 m175 => mm_CI mX12_doAllEat d [.ref 164, .int ((z163 ||| z168) ||| z175)] m175 (fun z179 m179 => if z179 = 0 then (jX12_wantingMany_132 d m179 K y1 y2 y3 (y4 + 1)) else (K 3 m179))))))) : jX12_wantingMany_132 d  M K y1 y2 y3 y4 := by
  unfold jX12_wantingMany_132
  refine mm_iload (j := 4) dX12_wantingMany_132 rfl ?_
  refine mm_iload_n (j := 1) dX12_wantingMany_134 rfl rfl ?_
  refine mm_icmp_ge (tgt := 193) dX12_wantingMany_135 (by decide) (fun hc => ?_) (fun hc => ?_)
  · rw [if_pos hc] at h
    refine mm_iinc (j := 3) (v := y3 + 1) (lv' := [(3, .int (y3 + 1)), (0, .ref 164), (1, .int y1), (2, .int y2), (4, .int y4)]) dX12_wantingMany_193 rfl rfl (by decide) rfl ?_
    refine mm_goto (tgt := 122) dX12_wantingMany_196 (by decide) ?_
    exact mm_sub [1, 2, 3, 0] rfl h
  · rw [if_neg hc] at h
    refine mm_aload_n (j := 0) dX12_wantingMany_138 rfl rfl ?_
    refine mm_getR (ci := 12) (N := 116) (r := 210) dX12_wantingMany_139 fX12_151 sh_164 rfl (g_164_70 hG) ?_
    refine mm_iconst (x := 0) dX12_wantingMany_142 rfl ?_
    refine mm_iload_n (j := 2) dX12_wantingMany_143 rfl rfl ?_
    refine mm_iastore (N := 3) dX12_wantingMany_144 sh_210 (by decide) ?_
    refine mm_aload_n (j := 0) dX12_wantingMany_145 rfl rfl ?_
    refine mm_getR (ci := 12) (N := 116) (r := 210) dX12_wantingMany_146 fX12_151 sh_164 rfl (g_164_70 hG) ?_
    refine mm_iconst (x := 1) dX12_wantingMany_149 rfl ?_
    refine mm_iload_n (j := 3) dX12_wantingMany_150 rfl rfl ?_
    refine mm_iastore (N := 3) dX12_wantingMany_151 sh_210 (by decide) ?_
    refine mm_aload_n (j := 0) dX12_wantingMany_152 rfl rfl ?_
    refine mm_getR (ci := 12) (N := 116) (r := 210) dX12_wantingMany_153 fX12_151 sh_164 rfl (g_164_70 hG) ?_
    refine mm_iconst (x := 2) dX12_wantingMany_156 rfl ?_
    refine mm_iload (j := 4) dX12_wantingMany_157 rfl ?_
    refine mm_iastore (N := 3) dX12_wantingMany_159 sh_210 (by decide) ?_
    refine mm_aload_n (j := 0) dX12_wantingMany_160 rfl rfl ?_
    refine mm_aload_n (j := 0) dX12_wantingMany_161 rfl rfl ?_
    refine mm_iload_n (j := 2) dX12_wantingMany_162 rfl rfl ?_
    refine mm_kVI [.int y2] dX12_wantingMany_163 kX12_584 rfl sh_164 (by decide) (by decide) h (fun z163 m163 hG h => ?_)
    refine mm_aload_n (j := 0) dX12_wantingMany_166 rfl rfl ?_
    refine mm_iload_n (j := 3) dX12_wantingMany_167 rfl rfl ?_
    refine mm_kVI [.int y3] dX12_wantingMany_168 kX12_584 rfl sh_164 (by decide) (by decide) h (fun z168 m168 hG h => ?_)
    refine mm_ior dX12_wantingMany_171 ?_
    refine mm_aload_n (j := 0) dX12_wantingMany_172 rfl rfl ?_
    refine mm_iload (j := 4) dX12_wantingMany_173 rfl ?_
    refine mm_kVI [.int y4] dX12_wantingMany_175 kX12_584 rfl sh_164 (by decide) (by decide) h (fun z175 m175 hG h => ?_)
    refine mm_ior dX12_wantingMany_178 ?_
    refine mm_kVI [.int ((z163 ||| z168) ||| z175)] dX12_wantingMany_179 kX12_581 rfl sh_164 (by decide) (by decide) h (fun z179 m179 hG h => ?_)
    refine mm_if_eq (tgt := 187) dX12_wantingMany_182 (by decide) (fun hc => ?_) (fun hc => ?_)
    · rw [if_pos hc] at h
      refine mm_iinc (j := 4) (v := y4 + 1) (lv' := [(4, .int (y4 + 1)), (0, .ref 164), (1, .int y1), (2, .int y2), (3, .int y3)]) dX12_wantingMany_187 rfl rfl (by decide) rfl ?_
      refine mm_goto (tgt := 132) dX12_wantingMany_190 (by decide) ?_
      exact mm_sub [1, 2, 3, 4, 0] rfl h
    · rw [if_neg hc] at h
      refine mm_iconst (x := 3) dX12_wantingMany_185 rfl ?_
      exact mm_iret dX12_wantingMany_186 rfl (Nat.le_refl 0) (Nat.le_refl 0) ⟨_, rfl, rfl, hG, h⟩
set_option maxRecDepth 100000 in
set_option maxHeartbeats 4000000 in
theorem rX12_wanting {d : Nat} {x1 : Int32} {M : mm_M} {K : Int32 → mm_M → Prop} (hG : mm_G M.2.2) (h : if (M.1 164 48) = 0 then (K (-1) M) else (mm_CI mX12_isIn d [.long x1.toInt64, .long (-1), .long 2] M (fun z15 m15 => if z15 = 0 then (K (-1) m15) else (mm_CI mX12_wantingMany d [.ref 164] m15 (fun z24 m24 => if x1 = (-1) then (K z24 (mm_uI m24 164 66 0)) else (if z24 = (-1) then (K z24 (mm_uI m24 164 66 0)) else (if z24 ≤ x1 then (K (-1) (mm_uI m24 164 66 0)) else (vp_in x1 3 ∧ vp_in ((mm_uI m24 164 66 0).1 210 (x1).toNatClampNeg) 21 ∧ vp_in x1 3 ∧ vp_in ((mm_uI m24 164 66 0).1 210 (x1).toNatClampNeg) 21 ∧ K ((8 * ((mm_uI m24 164 66 0).1 208 ((mm_uI m24 164 66 0).1 210 (x1).toNatClampNeg).toNatClampNeg)) + ((mm_uI m24 164 66 0).1 209 ((mm_uI m24 164 66 0).1 210 (x1).toNatClampNeg).toNatClampNeg)) (mm_uI m24 164 66 0))))))))) : mm_CI mX12_wanting (d + 1) [.ref 164, .int x1] M K := by
  show mm_W mX12_wanting (d + 1) 0 0 0 [(0, .ref 164), (1, .int x1)] [] mm_SH M 0 0 (mm_PI K)
  refine mm_aload_n (j := 0) dX12_wanting_0 rfl rfl ?_
  refine mm_getI (ci := 12) (N := 116) dX12_wanting_1 fX12_399 sh_164 rfl ?_
  refine mm_if_eq (tgt := 21) dX12_wanting_4 (by decide) (fun hc => ?_) (fun hc => ?_)
  · rw [if_pos hc] at h
    refine mm_iconst (x := (-1)) dX12_wanting_21 rfl ?_
    exact mm_iret dX12_wanting_22 rfl (Nat.le_refl 0) (Nat.le_refl 0) ⟨_, rfl, rfl, hG, h⟩
  · rw [if_neg hc] at h
    refine mm_iload_n (j := 1) dX12_wanting_7 rfl rfl ?_
    refine mm_i2l dX12_wanting_8 ?_
    refine mm_ldc2 (x := (-1)) dX12_wanting_9 cX12_587 ?_
    refine mm_ldc2 (x := 2) dX12_wanting_12 cX12_554 ?_
    refine mm_kSI [.long x1.toInt64, .long (-1), .long 2] dX12_wanting_15 kX12_303 rfl (by decide) (by decide) h (fun z15 m15 hG h => ?_)
    refine mm_if_ne (tgt := 23) dX12_wanting_18 (by decide) (fun hc => ?_) (fun hc => ?_)
    · rw [if_neg hc] at h
      refine mm_aload_n (j := 0) dX12_wanting_23 rfl rfl ?_
      refine mm_kVI [] dX12_wanting_24 kX12_589 rfl sh_164 (by decide) (by decide) h (fun z24 m24 hG h => ?_)
      refine mm_istore_n (lv' := [(2, .int z24), (0, .ref 164), (1, .int x1)]) dX12_wanting_27 rfl (by decide) rfl ?_
      refine mm_aload_n (j := 1) dX12_wanting_28 rfl rfl ?_
      refine mm_iconst (x := 0) dX12_wanting_29 rfl ?_
      refine mm_putI (ci := 12) (N := 116) dX12_wanting_30 fX12_559 sh_164 (by decide +kernel) rfl rfl rfl ?_
      refine mm_iload_n (j := 2) dX12_wanting_33 rfl rfl ?_
      refine mm_iconst (x := (-1)) dX12_wanting_34 rfl ?_
      refine mm_icmp_eq (tgt := 43) dX12_wanting_35 (by decide) (fun hc => ?_) (fun hc => ?_)
      · rw [if_pos hc] at h
        refine mm_iload_n (j := 0) dX12_wanting_43 rfl rfl ?_
        exact mm_iret dX12_wanting_44 rfl (Nat.le_refl 0) (Nat.le_refl 0) ⟨_, rfl, rfl, hG, h⟩
      · rw [if_neg hc] at h
        refine mm_iload_n (j := 0) dX12_wanting_38 rfl rfl ?_
        refine mm_iconst (x := (-1)) dX12_wanting_39 rfl ?_
        refine mm_icmp_ne (tgt := 45) dX12_wanting_40 (by decide) (fun hc => ?_) (fun hc => ?_)
        · rw [if_neg hc] at h
          refine mm_iload_n (j := 2) dX12_wanting_45 rfl rfl ?_
          refine mm_iload_n (j := 0) dX12_wanting_46 rfl rfl ?_
          refine mm_icmp_ge (tgt := 79) dX12_wanting_47 (by decide) (fun hc => ?_) (fun hc => ?_)
          · rw [if_pos hc] at h
            refine mm_iconst (x := (-1)) dX12_wanting_79 rfl ?_
            exact mm_iret dX12_wanting_80 rfl (Nat.le_refl 0) (Nat.le_refl 0) ⟨_, rfl, rfl, hG, h⟩
          · rw [if_neg hc] at h
            refine mm_bipush (x := 8) dX12_wanting_50 rfl ?_
            refine mm_aload_n (j := 1) dX12_wanting_52 rfl rfl ?_
            refine mm_getR (ci := 12) (N := 116) (r := 208) dX12_wanting_53 fX12_145 sh_164 rfl (g_164_68 hG) ?_
            refine mm_aload_n (j := 1) dX12_wanting_56 rfl rfl ?_
            refine mm_getR (ci := 12) (N := 116) (r := 210) dX12_wanting_57 fX12_151 sh_164 rfl (g_164_70 hG) ?_
            refine mm_iload_n (j := 2) dX12_wanting_60 rfl rfl ?_
            obtain ⟨hi61, h⟩ := h
            refine mm_iaload (N := 3) dX12_wanting_61 sh_210 hi61 ?_
            obtain ⟨hi62, h⟩ := h
            refine mm_iaload (N := 21) dX12_wanting_62 sh_208 hi62 ?_
            refine mm_imul dX12_wanting_63 ?_
            refine mm_aload_n (j := 1) dX12_wanting_64 rfl rfl ?_
            refine mm_getR (ci := 12) (N := 116) (r := 209) dX12_wanting_65 fX12_148 sh_164 rfl (g_164_69 hG) ?_
            refine mm_aload_n (j := 1) dX12_wanting_68 rfl rfl ?_
            refine mm_getR (ci := 12) (N := 116) (r := 210) dX12_wanting_69 fX12_151 sh_164 rfl (g_164_70 hG) ?_
            refine mm_iload_n (j := 2) dX12_wanting_72 rfl rfl ?_
            obtain ⟨hi73, h⟩ := h
            refine mm_iaload (N := 3) dX12_wanting_73 sh_210 hi73 ?_
            obtain ⟨hi74, h⟩ := h
            refine mm_iaload (N := 21) dX12_wanting_74 sh_209 hi74 ?_
            refine mm_iadd dX12_wanting_75 ?_
            refine mm_goto (tgt := 80) dX12_wanting_76 (by decide) ?_
            exact mm_iret dX12_wanting_80 rfl (Nat.le_refl 0) (Nat.le_refl 0) ⟨_, rfl, rfl, hG, h⟩
        · rw [if_pos hc] at h
          refine mm_iload_n (j := 0) dX12_wanting_43 rfl rfl ?_
          exact mm_iret dX12_wanting_44 rfl (Nat.le_refl 0) (Nat.le_refl 0) ⟨_, rfl, rfl, hG, h⟩
    · rw [if_pos hc] at h
      refine mm_iconst (x := (-1)) dX12_wanting_21 rfl ?_
      exact mm_iret dX12_wanting_22 rfl (Nat.le_refl 0) (Nat.le_refl 0) ⟨_, rfl, rfl, hG, h⟩
def jX12_laysFeuds_4 (d : Nat) (M : mm_M) (K : Int32 → mm_M → Prop) (y1 : Int32) (y2 : Int32) : Prop := mm_W mX12_laysFeuds (d + 1) 0 0 4 [(0, .ref 164), (1, .int y1), (2, .int y2)] [] mm_SH M 0 0 (mm_PI K)
def jX12_laysFeuds_16 (d : Nat) (M : mm_M) (K : Int32 → mm_M → Prop) (y1 : Int32) (y2 : Int32) (y3 : Int32) : Prop := mm_W mX12_laysFeuds (d + 1) 0 0 16 [(0, .ref 164), (1, .int y1), (2, .int y2), (3, .int y3)] [] mm_SH M 0 0 (mm_PI K)
set_option maxRecDepth 100000 in
set_option maxHeartbeats 4000000 in
theorem rX12_laysFeuds {d : Nat} {M : mm_M} {K : Int32 → mm_M → Prop} (hG : mm_G M.2.2) (h : jX12_laysFeuds_4 d M K 0 0) : mm_CI mX12_laysFeuds (d + 1) [.ref 164] M K := by
  show mm_W mX12_laysFeuds (d + 1) 0 0 0 [(0, .ref 164)] [] mm_SH M 0 0 (mm_PI K)
  refine mm_iconst (x := 0) dX12_laysFeuds_0 rfl ?_
  refine mm_istore_n (lv' := [(1, .int 0), (0, .ref 164)]) dX12_laysFeuds_1 rfl (by decide) rfl ?_
  refine mm_iconst (x := 0) dX12_laysFeuds_2 rfl ?_
  refine mm_istore_n (lv' := [(2, .int 0), (1, .int 0), (0, .ref 164)]) dX12_laysFeuds_3 rfl (by decide) rfl ?_
  exact mm_sub [2, 1, 0] rfl h
set_option maxRecDepth 100000 in
set_option maxHeartbeats 4000000 in
theorem lX12_laysFeuds_4 {d : Nat} {M : mm_M} {K : Int32 → mm_M → Prop} {y1 : Int32} {y2 : Int32} (hG : mm_G M.2.2) (h : mm_CI mX12_houseMany d [.ref 164] M (fun z6 m6 => if z6 ≤ y2 then (K y1 m6) else (jX12_laysFeuds_16 d m6 K y1 y2 (y2 + 1)))) : jX12_laysFeuds_4 d  M K y1 y2 := by
  unfold jX12_laysFeuds_4
  refine mm_iload_n (j := 2) dX12_laysFeuds_4 rfl rfl ?_
  refine mm_aload_n (j := 0) dX12_laysFeuds_5 rfl rfl ?_
  refine mm_kVI [] dX12_laysFeuds_6 kX12_412 rfl sh_164 (by decide) (by decide) h (fun z6 m6 hG h => ?_)
  refine mm_icmp_ge (tgt := 65) dX12_laysFeuds_9 (by decide) (fun hc => ?_) (fun hc => ?_)
  · rw [if_pos hc] at h
    refine mm_iload_n (j := 1) dX12_laysFeuds_65 rfl rfl ?_
    exact mm_iret dX12_laysFeuds_66 rfl (Nat.le_refl 0) (Nat.le_refl 0) ⟨_, rfl, rfl, hG, h⟩
  · rw [if_neg hc] at h
    refine mm_iload_n (j := 2) dX12_laysFeuds_12 rfl rfl ?_
    refine mm_iconst (x := 1) dX12_laysFeuds_13 rfl ?_
    refine mm_iadd dX12_laysFeuds_14 ?_
    refine mm_istore_n (lv' := [(3, .int (y2 + 1)), (0, .ref 164), (1, .int y1), (2, .int y2)]) dX12_laysFeuds_15 rfl (by decide) rfl ?_
    exact mm_sub [1, 2, 3, 0] rfl h
set_option maxRecDepth 100000 in
set_option maxHeartbeats 4000000 in
theorem lX12_laysFeuds_16 {d : Nat} {M : mm_M} {K : Int32 → mm_M → Prop} {y1 : Int32} {y2 : Int32} {y3 : Int32} (hG : mm_G M.2.2) (h : mm_CI mX12_houseMany d [.ref 164] M (fun z18 m18 => if z18 ≤ y3 then (jX12_laysFeuds_4 d m18 K y1 (y2 + 1)) else (mm_CI mX12_areEnemies d [.ref 164, .int y2, .int y3] m18 (fun z27 m27 => if z27 = 0 then (jX12_laysFeuds_16 d m27 K y1 y2 (y3 + 1)) else (vp_in y1 21 ∧ vp_in y1 21 ∧ jX12_laysFeuds_16 d (mm_uI (mm_uI m27 208 (y1).toNatClampNeg y2) 209 (y1).toNatClampNeg y3) K (y1 + 1) y2 (y3 + 1)))))) : jX12_laysFeuds_16 d  M K y1 y2 y3 := by
  unfold jX12_laysFeuds_16
  refine mm_iload_n (j := 3) dX12_laysFeuds_16 rfl rfl ?_
  refine mm_aload_n (j := 0) dX12_laysFeuds_17 rfl rfl ?_
  refine mm_kVI [] dX12_laysFeuds_18 kX12_412 rfl sh_164 (by decide) (by decide) h (fun z18 m18 hG h => ?_)
  refine mm_icmp_ge (tgt := 59) dX12_laysFeuds_21 (by decide) (fun hc => ?_) (fun hc => ?_)
  · rw [if_pos hc] at h
    refine mm_iinc (j := 2) (v := y2 + 1) (lv' := [(2, .int (y2 + 1)), (0, .ref 164), (1, .int y1), (3, .int y3)]) dX12_laysFeuds_59 rfl rfl (by decide) rfl ?_
    refine mm_goto (tgt := 4) dX12_laysFeuds_62 (by decide) ?_
    exact mm_sub [1, 2, 0] rfl h
  · rw [if_neg hc] at h
    refine mm_aload_n (j := 0) dX12_laysFeuds_24 rfl rfl ?_
    refine mm_iload_n (j := 2) dX12_laysFeuds_25 rfl rfl ?_
    refine mm_iload_n (j := 3) dX12_laysFeuds_26 rfl rfl ?_
    refine mm_kVI [.int y2, .int y3] dX12_laysFeuds_27 kX12_418 rfl sh_164 (by decide) (by decide) h (fun z27 m27 hG h => ?_)
    refine mm_if_ne (tgt := 36) dX12_laysFeuds_30 (by decide) (fun hc => ?_) (fun hc => ?_)
    · rw [if_neg hc] at h
      refine mm_aload_n (j := 0) dX12_laysFeuds_36 rfl rfl ?_
      refine mm_getR (ci := 12) (N := 116) (r := 208) dX12_laysFeuds_37 fX12_145 sh_164 rfl (g_164_68 hG) ?_
      refine mm_iload_n (j := 1) dX12_laysFeuds_40 rfl rfl ?_
      refine mm_iload_n (j := 2) dX12_laysFeuds_41 rfl rfl ?_
      obtain ⟨hi42, h⟩ := h
      refine mm_iastore (N := 21) dX12_laysFeuds_42 sh_208 hi42 ?_
      refine mm_aload_n (j := 0) dX12_laysFeuds_43 rfl rfl ?_
      refine mm_getR (ci := 12) (N := 116) (r := 209) dX12_laysFeuds_44 fX12_148 sh_164 rfl (g_164_69 hG) ?_
      refine mm_iload_n (j := 1) dX12_laysFeuds_47 rfl rfl ?_
      refine mm_iload_n (j := 3) dX12_laysFeuds_48 rfl rfl ?_
      obtain ⟨hi49, h⟩ := h
      refine mm_iastore (N := 21) dX12_laysFeuds_49 sh_209 hi49 ?_
      refine mm_iinc (j := 1) (v := y1 + 1) (lv' := [(1, .int (y1 + 1)), (0, .ref 164), (2, .int y2), (3, .int y3)]) dX12_laysFeuds_50 rfl rfl (by decide) rfl ?_
      refine mm_iinc (j := 3) (v := y3 + 1) (lv' := [(3, .int (y3 + 1)), (1, .int (y1 + 1)), (0, .ref 164), (2, .int y2)]) dX12_laysFeuds_53 rfl rfl (by decide) rfl ?_
      refine mm_goto (tgt := 16) dX12_laysFeuds_56 (by decide) ?_
      exact mm_sub [2, 1, 3, 0] rfl h
    · rw [if_pos hc] at h
      refine mm_goto (tgt := 53) dX12_laysFeuds_33 (by decide) ?_
      refine mm_iinc (j := 3) (v := y3 + 1) (lv' := [(3, .int (y3 + 1)), (0, .ref 164), (1, .int y1), (2, .int y2)]) dX12_laysFeuds_53 rfl rfl (by decide) rfl ?_
      refine mm_goto (tgt := 16) dX12_laysFeuds_56 (by decide) ?_
      exact mm_sub [1, 2, 3, 0] rfl h
def jX12_leftBy_3 (d : Nat) (x1 : Int32) (x2 : Int32) (x3 : Int32) (M : mm_M) (K : Int32 → mm_M → Prop) (y1 : Int32) (y2 : Int32) (y3 : Int32) (y4 : Int32) : Prop := mm_W mX12_leftBy (d + 1) 0 0 3 [(0, .ref 164), (1, .int y1), (2, .int y2), (3, .int y3), (4, .int y4)] [] mm_SH M 0 0 (mm_PI K)
set_option maxRecDepth 100000 in
set_option maxHeartbeats 4000000 in
theorem rX12_leftBy {d : Nat} {x1 : Int32} {x2 : Int32} {x3 : Int32} {M : mm_M} {K : Int32 → mm_M → Prop} (hG : mm_G M.2.2) (h : jX12_leftBy_3 d x1 x2 x3 M K x1 x2 x3 0) : mm_CI mX12_leftBy (d + 1) [.ref 164, .int x1, .int x2, .int x3] M K := by
  show mm_W mX12_leftBy (d + 1) 0 0 0 [(0, .ref 164), (1, .int x1), (2, .int x2), (3, .int x3)] [] mm_SH M 0 0 (mm_PI K)
  refine mm_iconst (x := 0) dX12_leftBy_0 rfl ?_
  refine mm_istore (lv' := [(4, .int 0), (0, .ref 164), (1, .int x1), (2, .int x2), (3, .int x3)]) dX12_leftBy_1 (by decide) rfl ?_
  exact mm_sub [1, 2, 3, 4, 0] rfl h
set_option maxRecDepth 100000 in
set_option maxHeartbeats 4000000 in
theorem lX12_leftBy_3 {d : Nat} {x1 : Int32} {x2 : Int32} {x3 : Int32} {M : mm_M} {K : Int32 → mm_M → Prop} {y1 : Int32} {y2 : Int32} {y3 : Int32} {y4 : Int32} (hG : mm_G M.2.2) (h : if y2 ≤ y4 then (mm_CV mX12_daysGo d [.ref 164, .int y3] M (fun m53 => mm_CI mX12_thereSet d [.ref 164] m53 (fun z57 m57 => mm_CV mX12_triesAnew d [.ref 164] m57 (fun m63 => K z57 m63)))) else (if ((y1 >>> (y4 &&& 31)) &&& 1) = 1 then (vp_in y4 21 ∧ vp_in y4 21 ∧ mm_CI mX12_pairOf d [.int (M.1 208 (y4).toNatClampNeg), .int (M.1 209 (y4).toNatClampNeg)] M (fun z39 m39 => vp_in (22 + z39) 204 ∧ jX12_leftBy_3 d x1 x2 x3 (mm_uI m39 199 (22 + z39).toNatClampNeg 0) K y1 y2 y3 (y4 + 1))) else (jX12_leftBy_3 d x1 x2 x3 M K y1 y2 y3 (y4 + 1)))) : jX12_leftBy_3 d x1 x2 x3 M K y1 y2 y3 y4 := by
  unfold jX12_leftBy_3
  refine mm_iload (j := 4) dX12_leftBy_3 rfl ?_
  refine mm_iload_n (j := 2) dX12_leftBy_5 rfl rfl ?_
  refine mm_icmp_ge (tgt := 51) dX12_leftBy_6 (by decide) (fun hc => ?_) (fun hc => ?_)
  · rw [if_pos hc] at h
    refine mm_aload_n (j := 0) dX12_leftBy_51 rfl rfl ?_
    refine mm_iload_n (j := 3) dX12_leftBy_52 rfl rfl ?_
    refine mm_kVV [.int y3] dX12_leftBy_53 kX12_556 rfl sh_164 (by decide) (by decide) h (fun m53 hG h => ?_)
    refine mm_aload_n (j := 0) dX12_leftBy_56 rfl rfl ?_
    refine mm_kVI [] dX12_leftBy_57 kX12_522 rfl sh_164 (by decide) (by decide) h (fun z57 m57 hG h => ?_)
    refine mm_istore (lv' := [(4, .int z57), (0, .ref 164), (1, .int y1), (2, .int y2), (3, .int y3)]) dX12_leftBy_60 (by decide) rfl ?_
    refine mm_aload_n (j := 1) dX12_leftBy_62 rfl rfl ?_
    refine mm_kVV [] dX12_leftBy_63 kX12_519 rfl sh_164 (by decide) (by decide) h (fun m63 hG h => ?_)
    refine mm_iload (j := 0) dX12_leftBy_66 rfl ?_
    exact mm_iret dX12_leftBy_68 rfl (Nat.le_refl 0) (Nat.le_refl 0) ⟨_, rfl, rfl, hG, h⟩
  · rw [if_neg hc] at h
    refine mm_iload_n (j := 1) dX12_leftBy_9 rfl rfl ?_
    refine mm_iload (j := 4) dX12_leftBy_10 rfl ?_
    refine mm_ishr dX12_leftBy_12 ?_
    refine mm_iconst (x := 1) dX12_leftBy_13 rfl ?_
    refine mm_iand dX12_leftBy_14 ?_
    refine mm_iconst (x := 1) dX12_leftBy_15 rfl ?_
    refine mm_icmp_ne (tgt := 45) dX12_leftBy_16 (by decide) (fun hc => ?_) (fun hc => ?_)
    · rw [if_neg hc] at h
      refine mm_iinc (j := 4) (v := y4 + 1) (lv' := [(4, .int (y4 + 1)), (0, .ref 164), (1, .int y1), (2, .int y2), (3, .int y3)]) dX12_leftBy_45 rfl rfl (by decide) rfl ?_
      refine mm_goto (tgt := 3) dX12_leftBy_48 (by decide) ?_
      exact mm_sub [1, 2, 3, 4, 0] rfl h
    · rw [if_pos hc] at h
      refine mm_aload_n (j := 0) dX12_leftBy_19 rfl rfl ?_
      refine mm_getR (ci := 12) (N := 116) (r := 199) dX12_leftBy_20 fX12_118 sh_164 rfl (g_164_50 hG) ?_
      refine mm_bipush (x := 22) dX12_leftBy_23 rfl ?_
      refine mm_aload_n (j := 0) dX12_leftBy_25 rfl rfl ?_
      refine mm_getR (ci := 12) (N := 116) (r := 208) dX12_leftBy_26 fX12_145 sh_164 rfl (g_164_68 hG) ?_
      refine mm_iload (j := 4) dX12_leftBy_29 rfl ?_
      obtain ⟨hi31, h⟩ := h
      refine mm_iaload (N := 21) dX12_leftBy_31 sh_208 hi31 ?_
      refine mm_aload_n (j := 0) dX12_leftBy_32 rfl rfl ?_
      refine mm_getR (ci := 12) (N := 116) (r := 209) dX12_leftBy_33 fX12_148 sh_164 rfl (g_164_69 hG) ?_
      refine mm_iload (j := 4) dX12_leftBy_36 rfl ?_
      obtain ⟨hi38, h⟩ := h
      refine mm_iaload (N := 21) dX12_leftBy_38 sh_209 hi38 ?_
      refine mm_kSI [.int (M.1 208 (y4).toNatClampNeg), .int (M.1 209 (y4).toNatClampNeg)] dX12_leftBy_39 kX12_347 rfl (by decide) (by decide) h (fun z39 m39 hG h => ?_)
      refine mm_iadd dX12_leftBy_42 ?_
      refine mm_iconst (x := 0) dX12_leftBy_43 rfl ?_
      obtain ⟨hi44, h⟩ := h
      refine mm_iastore (N := 204) dX12_leftBy_44 sh_199 hi44 ?_
      refine mm_iinc (j := 4) (v := y4 + 1) (lv' := [(4, .int (y4 + 1)), (0, .ref 164), (1, .int y1), (2, .int y2), (3, .int y3)]) dX12_leftBy_45 rfl rfl (by decide) rfl ?_
      refine mm_goto (tgt := 3) dX12_leftBy_48 (by decide) ?_
      exact mm_sub [1, 2, 3, 4, 0] rfl h
def jX12_spared_50 (d : Nat) (x1 : Int32) (x2 : Int32) (M : mm_M) (K : Int32 → mm_M → Prop) (y1 : Int32) (y2 : Int32) (y3 : Int32) (y4 : Int32) (y5 : Int32) (y6 : Int32) : Prop := mm_W mX12_spared (d + 1) 0 0 50 [(0, .ref 164), (1, .int y1), (2, .int y2), (3, .int y3), (4, .int y4), (5, .int y5), (6, .int y6)] [] mm_SH M 0 0 (mm_PI K)
def jX12_spared_118 (d : Nat) (x1 : Int32) (x2 : Int32) (M : mm_M) (K : Int32 → mm_M → Prop) (y2 : Int32) (y3 : Int32) (y5 : Int32) (y6 : Int32) (y7 : Int32) : Prop := mm_W mX12_spared (d + 1) 0 0 118 [(0, .ref 164), (2, .int y2), (3, .int y3), (5, .int y5), (6, .int y6), (7, .int y7)] [] mm_SH M 0 0 (mm_PI K)
set_option maxRecDepth 100000 in
set_option maxHeartbeats 4000000 in
theorem rX12_spared {d : Nat} {x1 : Int32} {x2 : Int32} {M : mm_M} {K : Int32 → mm_M → Prop} (hG : mm_G M.2.2) (h : mm_CI mX12_isAhead d [.ref 164, .int x1, .int 1, .int 20] M (fun z5 m5 => if z5 = 0 then (K (-1) m5) else (if (-1) ≤ x2 then (mm_CI mX12_laysFeuds d [.ref 164] m5 (fun z19 m19 => if z19 ≤ 10 then (mm_CV mX12_putsAside d [.ref 164] m19 (fun m32 => mm_CI mX12_leftBy d [.ref 164, .int 0, .int z19, .int x1] m32 (fun z39 m39 => jX12_spared_50 d x1 x2 m39 K x1 x2 z19 z39 0 1))) else (K (-1) m19))) else (K (-1) m5)))) : mm_CI mX12_spared (d + 1) [.ref 164, .int x1, .int x2] M K := by
  show mm_W mX12_spared (d + 1) 0 0 0 [(0, .ref 164), (1, .int x1), (2, .int x2)] [] mm_SH M 0 0 (mm_PI K)
  refine mm_aload_n (j := 0) dX12_spared_0 rfl rfl ?_
  refine mm_iload_n (j := 1) dX12_spared_1 rfl rfl ?_
  refine mm_iconst (x := 1) dX12_spared_2 rfl ?_
  refine mm_bipush (x := 20) dX12_spared_3 rfl ?_
  refine mm_kVI [.int x1, .int 1, .int 20] dX12_spared_5 kX12_550 rfl sh_164 (by decide) (by decide) h (fun z5 m5 hG h => ?_)
  refine mm_if_eq (tgt := 16) dX12_spared_8 (by decide) (fun hc => ?_) (fun hc => ?_)
  · rw [if_pos hc] at h
    refine mm_iconst (x := (-1)) dX12_spared_16 rfl ?_
    exact mm_iret dX12_spared_17 rfl (Nat.le_refl 0) (Nat.le_refl 0) ⟨_, rfl, rfl, hG, h⟩
  · rw [if_neg hc] at h
    refine mm_iload_n (j := 2) dX12_spared_11 rfl rfl ?_
    refine mm_iconst (x := (-1)) dX12_spared_12 rfl ?_
    refine mm_icmp_ge (tgt := 18) dX12_spared_13 (by decide) (fun hc => ?_) (fun hc => ?_)
    · rw [if_pos hc] at h
      refine mm_aload_n (j := 0) dX12_spared_18 rfl rfl ?_
      refine mm_kVI [] dX12_spared_19 kX12_592 rfl sh_164 (by decide) (by decide) h (fun z19 m19 hG h => ?_)
      refine mm_istore_n (lv' := [(3, .int z19), (0, .ref 164), (1, .int x1), (2, .int x2)]) dX12_spared_22 rfl (by decide) rfl ?_
      refine mm_iload_n (j := 0) dX12_spared_23 rfl rfl ?_
      refine mm_bipush (x := 10) dX12_spared_24 rfl ?_
      refine mm_icmp_le (tgt := 31) dX12_spared_26 (by decide) (fun hc => ?_) (fun hc => ?_)
      · rw [if_pos hc] at h
        refine mm_aload_n (j := 1) dX12_spared_31 rfl rfl ?_
        refine mm_kVV [] dX12_spared_32 kX12_544 rfl sh_164 (by decide) (by decide) h (fun m32 hG h => ?_)
        refine mm_aload_n (j := 1) dX12_spared_35 rfl rfl ?_
        refine mm_iconst (x := 0) dX12_spared_36 rfl ?_
        refine mm_iload_n (j := 0) dX12_spared_37 rfl rfl ?_
        refine mm_iload_n (j := 2) dX12_spared_38 rfl rfl ?_
        refine mm_kVI [.int 0, .int z19, .int x1] dX12_spared_39 kX12_595 rfl sh_164 (by decide) (by decide) h (fun z39 m39 hG h => ?_)
        refine mm_istore (lv' := [(4, .int z39), (3, .int z19), (0, .ref 164), (1, .int x1), (2, .int x2)]) dX12_spared_42 (by decide) rfl ?_
        refine mm_iconst (x := 0) dX12_spared_44 rfl ?_
        refine mm_istore (lv' := [(5, .int 0), (4, .int z39), (3, .int z19), (0, .ref 164), (1, .int x1), (2, .int x2)]) dX12_spared_45 (by decide) rfl ?_
        refine mm_iconst (x := 1) dX12_spared_47 rfl ?_
        refine mm_istore (lv' := [(6, .int 1), (5, .int 0), (4, .int z39), (3, .int z19), (0, .ref 164), (1, .int x1), (2, .int x2)]) dX12_spared_48 (by decide) rfl ?_
        exact mm_sub [4, 5, 6, 3, 2, 1, 0] rfl h
      · rw [if_neg hc] at h
        refine mm_iconst (x := (-1)) dX12_spared_29 rfl ?_
        exact mm_iret dX12_spared_30 rfl (Nat.le_refl 0) (Nat.le_refl 0) ⟨_, rfl, rfl, hG, h⟩
    · rw [if_neg hc] at h
      refine mm_iconst (x := (-1)) dX12_spared_16 rfl ?_
      exact mm_iret dX12_spared_17 rfl (Nat.le_refl 0) (Nat.le_refl 0) ⟨_, rfl, rfl, hG, h⟩
set_option maxRecDepth 100000 in
set_option maxHeartbeats 4000000 in
theorem lX12_spared_50 {d : Nat} {x1 : Int32} {x2 : Int32} {M : mm_M} {K : Int32 → mm_M → Prop} {y1 : Int32} {y2 : Int32} {y3 : Int32} {y4 : Int32} {y5 : Int32} {y6 : Int32} (hG : mm_G M.2.2) (h : if (1 <<< (y3 &&& 31)) ≤ y6 then (mm_CV mX12_takesBack d [.ref 164] M (fun m98 => if y2 = (-1) then (mm_CI mX12_bits d [.int y5] m98 (fun z108 m108 => K z108 m108)) else (jX12_spared_118 d x1 x2 m98 K y2 y3 y5 0 0))) else (mm_CI mX12_bits d [.int y6] M (fun z60 m60 => mm_CI mX12_bits d [.int y5] m60 (fun z65 m65 => if z60 ≤ z65 then (jX12_spared_50 d x1 x2 m65 K y1 y2 y3 y4 y5 (y6 + 1)) else (mm_CI mX12_leftBy d [.ref 164, .int y6, .int y3, .int y1] m65 (fun z78 m78 => if (y4 &&& (z78 ^^^ (-1))) = 0 then (jX12_spared_50 d x1 x2 m78 K y1 y2 y3 y4 y6 (y6 + 1)) else (jX12_spared_50 d x1 x2 m78 K y1 y2 y3 y4 y5 (y6 + 1)))))))) : jX12_spared_50 d x1 x2 M K y1 y2 y3 y4 y5 y6 := by
  unfold jX12_spared_50
  refine mm_iload (j := 6) dX12_spared_50 rfl ?_
  refine mm_iconst (x := 1) dX12_spared_52 rfl ?_
  refine mm_iload_n (j := 3) dX12_spared_53 rfl rfl ?_
  refine mm_ishl dX12_spared_54 ?_
  refine mm_icmp_ge (tgt := 97) dX12_spared_55 (by decide) (fun hc => ?_) (fun hc => ?_)
  · rw [if_pos hc] at h
    refine mm_aload_n (j := 0) dX12_spared_97 rfl rfl ?_
    refine mm_kVV [] dX12_spared_98 kX12_547 rfl sh_164 (by decide) (by decide) h (fun m98 hG h => ?_)
    refine mm_iload_n (j := 2) dX12_spared_101 rfl rfl ?_
    refine mm_iconst (x := (-1)) dX12_spared_102 rfl ?_
    refine mm_icmp_ne (tgt := 112) dX12_spared_103 (by decide) (fun hc => ?_) (fun hc => ?_)
    · rw [if_neg hc] at h
      refine mm_iconst (x := 0) dX12_spared_112 rfl ?_
      refine mm_istore (lv' := [(6, .int 0), (0, .ref 164), (1, .int y1), (2, .int y2), (3, .int y3), (4, .int y4), (5, .int y5)]) dX12_spared_113 (by decide) rfl ?_
      refine mm_iconst (x := 0) dX12_spared_115 rfl ?_
      refine mm_istore (lv' := [(7, .int 0), (6, .int 0), (0, .ref 164), (1, .int y1), (2, .int y2), (3, .int y3), (4, .int y4), (5, .int y5)]) dX12_spared_116 (by decide) rfl ?_
      exact mm_sub [2, 4, 5, 7, 1, 0] rfl h
    · rw [if_pos hc] at h
      refine mm_iload (j := 5) dX12_spared_106 rfl ?_
      refine mm_kSI [.int y5] dX12_spared_108 kX12_525 rfl (by decide) (by decide) h (fun z108 m108 hG h => ?_)
      exact mm_iret dX12_spared_111 rfl (Nat.le_refl 0) (Nat.le_refl 0) ⟨_, rfl, rfl, hG, h⟩
  · rw [if_neg hc] at h
    refine mm_iload (j := 6) dX12_spared_58 rfl ?_
    refine mm_kSI [.int y6] dX12_spared_60 kX12_525 rfl (by decide) (by decide) h (fun z60 m60 hG h => ?_)
    refine mm_iload (j := 5) dX12_spared_63 rfl ?_
    refine mm_kSI [.int y5] dX12_spared_65 kX12_525 rfl (by decide) (by decide) h (fun z65 m65 hG h => ?_)
    refine mm_icmp_le (tgt := 91) dX12_spared_68 (by decide) (fun hc => ?_) (fun hc => ?_)
    · rw [if_pos hc] at h
      refine mm_iinc (j := 6) (v := y6 + 1) (lv' := [(6, .int (y6 + 1)), (0, .ref 164), (1, .int y1), (2, .int y2), (3, .int y3), (4, .int y4), (5, .int y5)]) dX12_spared_91 rfl rfl (by decide) rfl ?_
      refine mm_goto (tgt := 50) dX12_spared_94 (by decide) ?_
      exact mm_sub [1, 2, 3, 4, 5, 6, 0] rfl h
    · rw [if_neg hc] at h
      refine mm_iload (j := 4) dX12_spared_71 rfl ?_
      refine mm_aload_n (j := 0) dX12_spared_73 rfl rfl ?_
      refine mm_iload (j := 6) dX12_spared_74 rfl ?_
      refine mm_iload_n (j := 3) dX12_spared_76 rfl rfl ?_
      refine mm_iload_n (j := 1) dX12_spared_77 rfl rfl ?_
      refine mm_kVI [.int y6, .int y3, .int y1] dX12_spared_78 kX12_595 rfl sh_164 (by decide) (by decide) h (fun z78 m78 hG h => ?_)
      refine mm_iconst (x := (-1)) dX12_spared_81 rfl ?_
      refine mm_ixor dX12_spared_82 ?_
      refine mm_iand dX12_spared_83 ?_
      refine mm_if_ne (tgt := 91) dX12_spared_84 (by decide) (fun hc => ?_) (fun hc => ?_)
      · rw [if_neg hc] at h
        refine mm_iinc (j := 6) (v := y6 + 1) (lv' := [(6, .int (y6 + 1)), (0, .ref 164), (1, .int y1), (2, .int y2), (3, .int y3), (4, .int y4), (5, .int y5)]) dX12_spared_91 rfl rfl (by decide) rfl ?_
        refine mm_goto (tgt := 50) dX12_spared_94 (by decide) ?_
        exact mm_sub [1, 2, 3, 4, 5, 6, 0] rfl h
      · rw [if_pos hc] at h
        refine mm_iload (j := 6) dX12_spared_87 rfl ?_
        refine mm_istore (lv' := [(5, .int y6), (0, .ref 164), (1, .int y1), (2, .int y2), (3, .int y3), (4, .int y4), (6, .int y6)]) dX12_spared_89 (by decide) rfl ?_
        refine mm_iinc (j := 6) (v := y6 + 1) (lv' := [(6, .int (y6 + 1)), (5, .int y6), (0, .ref 164), (1, .int y1), (2, .int y2), (3, .int y3), (4, .int y4)]) dX12_spared_91 rfl rfl (by decide) rfl ?_
        refine mm_goto (tgt := 50) dX12_spared_94 (by decide) ?_
        exact mm_sub [2, 3, 4, 5, 6, 1, 0] rfl h
set_option maxRecDepth 100000 in
set_option maxHeartbeats 4000000 in
theorem lX12_spared_118 {d : Nat} {x1 : Int32} {x2 : Int32} {M : mm_M} {K : Int32 → mm_M → Prop} {y2 : Int32} {y3 : Int32} {y5 : Int32} {y6 : Int32} {y7 : Int32} (hG : mm_G M.2.2) (h : if y3 ≤ y7 then (K (-1) M) else (if ((y5 >>> (y7 &&& 31)) &&& 1) = 0 then (jX12_spared_118 d x1 x2 M K y2 y3 y5 y6 (y7 + 1)) else (if y6 = y2 then (vp_in y7 21 ∧ vp_in y7 21 ∧ K ((8 * (M.1 208 (y7).toNatClampNeg)) + (M.1 209 (y7).toNatClampNeg)) M) else (jX12_spared_118 d x1 x2 M K y2 y3 y5 (y6 + 1) (y7 + 1))))) : jX12_spared_118 d x1 x2 M K y2 y3 y5 y6 y7 := by
  unfold jX12_spared_118
  refine mm_iload (j := 5) dX12_spared_118 rfl ?_
  refine mm_iload_n (j := 2) dX12_spared_120 rfl rfl ?_
  refine mm_icmp_ge (tgt := 171) dX12_spared_121 (by decide) (fun hc => ?_) (fun hc => ?_)
  · rw [if_pos hc] at h
    refine mm_iconst (x := (-1)) dX12_spared_171 rfl ?_
    exact mm_iret dX12_spared_172 rfl (Nat.le_refl 0) (Nat.le_refl 0) ⟨_, rfl, rfl, hG, h⟩
  · rw [if_neg hc] at h
    refine mm_iload (j := 3) dX12_spared_124 rfl ?_
    refine mm_iload (j := 5) dX12_spared_126 rfl ?_
    refine mm_ishr dX12_spared_128 ?_
    refine mm_iconst (x := 1) dX12_spared_129 rfl ?_
    refine mm_iand dX12_spared_130 ?_
    refine mm_if_ne (tgt := 137) dX12_spared_131 (by decide) (fun hc => ?_) (fun hc => ?_)
    · rw [if_neg hc] at h
      refine mm_iload (j := 4) dX12_spared_137 rfl ?_
      refine mm_iload_n (j := 1) dX12_spared_139 rfl rfl ?_
      refine mm_icmp_ne (tgt := 162) dX12_spared_140 (by decide) (fun hc => ?_) (fun hc => ?_)
      · rw [if_neg hc] at h
        refine mm_iinc (j := 4) (v := y6 + 1) (lv' := [(6, .int (y6 + 1)), (0, .ref 164), (2, .int y2), (3, .int y3), (5, .int y5), (7, .int y7)]) dX12_spared_162 rfl rfl (by decide) rfl ?_
        refine mm_iinc (j := 5) (v := y7 + 1) (lv' := [(7, .int (y7 + 1)), (6, .int (y6 + 1)), (0, .ref 164), (2, .int y2), (3, .int y3), (5, .int y5)]) dX12_spared_165 rfl rfl (by decide) rfl ?_
        refine mm_goto (tgt := 118) dX12_spared_168 (by decide) ?_
        exact mm_sub [2, 3, 4, 5, 1, 0] rfl h
      · rw [if_pos hc] at h
        refine mm_bipush (x := 8) dX12_spared_143 rfl ?_
        refine mm_aload_n (j := 0) dX12_spared_145 rfl rfl ?_
        refine mm_getR (ci := 12) (N := 116) (r := 208) dX12_spared_146 fX12_145 sh_164 rfl (g_164_68 hG) ?_
        refine mm_iload (j := 5) dX12_spared_149 rfl ?_
        obtain ⟨hi151, h⟩ := h
        refine mm_iaload (N := 21) dX12_spared_151 sh_208 hi151 ?_
        refine mm_imul dX12_spared_152 ?_
        refine mm_aload_n (j := 0) dX12_spared_153 rfl rfl ?_
        refine mm_getR (ci := 12) (N := 116) (r := 209) dX12_spared_154 fX12_148 sh_164 rfl (g_164_69 hG) ?_
        refine mm_iload (j := 5) dX12_spared_157 rfl ?_
        obtain ⟨hi159, h⟩ := h
        refine mm_iaload (N := 21) dX12_spared_159 sh_209 hi159 ?_
        refine mm_iadd dX12_spared_160 ?_
        exact mm_iret dX12_spared_161 rfl (Nat.le_refl 0) (Nat.le_refl 0) ⟨_, rfl, rfl, hG, h⟩
    · rw [if_pos hc] at h
      refine mm_goto (tgt := 165) dX12_spared_134 (by decide) ?_
      refine mm_iinc (j := 5) (v := y7 + 1) (lv' := [(7, .int (y7 + 1)), (0, .ref 164), (2, .int y2), (3, .int y3), (5, .int y5), (6, .int y6)]) dX12_spared_165 rfl rfl (by decide) rfl ?_
      refine mm_goto (tgt := 118) dX12_spared_168 (by decide) ?_
      exact mm_sub [1, 2, 3, 4, 5, 0] rfl h
def jX12_laysHunger_6 (d : Nat) (x1 : Int32) (M : mm_M) (K : mm_M → Prop) (y1 : Int32) (y2 : Int32) : Prop := mm_W mX12_laysHunger (d + 1) 0 0 6 [(0, .ref 164), (1, .int y1), (2, .int y2)] [] mm_SH M 0 0 (mm_PV K)
def jX12_laysHunger_28 (d : Nat) (x1 : Int32) (M : mm_M) (K : mm_M → Prop) (y1 : Int32) (y2 : Int32) (y3 : Int32) : Prop := mm_W mX12_laysHunger (d + 1) 0 0 28 [(0, .ref 164), (1, .int y1), (2, .int y2), (3, .int y3)] [] mm_SH M 0 0 (mm_PV K)
set_option maxRecDepth 100000 in
set_option maxHeartbeats 4000000 in
theorem rX12_laysHunger {d : Nat} {x1 : Int32} {M : mm_M} {K : mm_M → Prop} (hG : mm_G M.2.2) (h : mm_CV mX12_putsAside d [.ref 164] M (fun m1 => jX12_laysHunger_6 d x1 m1 K x1 0)) : mm_CV mX12_laysHunger (d + 1) [.ref 164, .int x1] M K := by
  show mm_W mX12_laysHunger (d + 1) 0 0 0 [(0, .ref 164), (1, .int x1)] [] mm_SH M 0 0 (mm_PV K)
  refine mm_aload_n (j := 0) dX12_laysHunger_0 rfl rfl ?_
  refine mm_kVV [] dX12_laysHunger_1 kX12_544 rfl sh_164 (by decide) (by decide) h (fun m1 hG h => ?_)
  refine mm_iconst (x := 0) dX12_laysHunger_4 rfl ?_
  refine mm_istore_n (lv' := [(2, .int 0), (0, .ref 164), (1, .int x1)]) dX12_laysHunger_5 rfl (by decide) rfl ?_
  exact mm_sub [1, 2, 0] rfl h
set_option maxRecDepth 100000 in
set_option maxHeartbeats 4000000 in
theorem lX12_laysHunger_6 {d : Nat} {x1 : Int32} {M : mm_M} {K : mm_M → Prop} {y1 : Int32} {y2 : Int32} (hG : mm_G M.2.2) (h : mm_CI mX12_houseMany d [.ref 164] M (fun z9 m9 => if (1 <<< (z9 &&& 31)) ≤ y2 then (mm_CV mX12_takesBack d [.ref 164] m9 (fun m82 => K m82)) else (mm_CV mX12_daysGo d [.ref 164, .int y1] (mm_uI m9 164 59 y2) (fun m23 => jX12_laysHunger_28 d x1 m23 K y1 y2 0)))) : jX12_laysHunger_6 d x1 M K y1 y2 := by
  unfold jX12_laysHunger_6
  refine mm_iload_n (j := 2) dX12_laysHunger_6 rfl rfl ?_
  refine mm_iconst (x := 1) dX12_laysHunger_7 rfl ?_
  refine mm_aload_n (j := 0) dX12_laysHunger_8 rfl rfl ?_
  refine mm_kVI [] dX12_laysHunger_9 kX12_412 rfl sh_164 (by decide) (by decide) h (fun z9 m9 hG h => ?_)
  refine mm_ishl dX12_laysHunger_12 ?_
  refine mm_icmp_ge (tgt := 81) dX12_laysHunger_13 (by decide) (fun hc => ?_) (fun hc => ?_)
  · rw [if_pos hc] at h
    refine mm_aload_n (j := 0) dX12_laysHunger_81 rfl rfl ?_
    refine mm_kVV [] dX12_laysHunger_82 kX12_547 rfl sh_164 (by decide) (by decide) h (fun m82 hG h => ?_)
    exact mm_vret dX12_laysHunger_85 rfl (Nat.le_refl 0) (Nat.le_refl 0) ⟨rfl, rfl, hG, h⟩
  · rw [if_neg hc] at h
    refine mm_aload_n (j := 0) dX12_laysHunger_16 rfl rfl ?_
    refine mm_iload_n (j := 2) dX12_laysHunger_17 rfl rfl ?_
    refine mm_putI (ci := 12) (N := 116) dX12_laysHunger_18 fX12_468 sh_164 (by decide +kernel) rfl rfl rfl ?_
    refine mm_aload_n (j := 0) dX12_laysHunger_21 rfl rfl ?_
    refine mm_iload_n (j := 1) dX12_laysHunger_22 rfl rfl ?_
    refine mm_kVV [.int y1] dX12_laysHunger_23 kX12_556 rfl sh_164 (by decide) (by decide) h (fun m23 hG h => ?_)
    refine mm_iconst (x := 0) dX12_laysHunger_26 rfl ?_
    refine mm_istore_n (lv' := [(3, .int 0), (0, .ref 164), (1, .int y1), (2, .int y2)]) dX12_laysHunger_27 rfl (by decide) rfl ?_
    exact mm_sub [1, 2, 3, 0] rfl h
set_option maxRecDepth 100000 in
set_option maxHeartbeats 4000000 in
theorem lX12_laysHunger_28 {d : Nat} {x1 : Int32} {M : mm_M} {K : mm_M → Prop} {y1 : Int32} {y2 : Int32} {y3 : Int32} (hG : mm_G M.2.2) (h : mm_CI mX12_houseMany d [.ref 164] M (fun z30 m30 => if z30 ≤ y3 then (mm_CV mX12_triesAnew d [.ref 164] m30 (fun m72 => jX12_laysHunger_6 d x1 m72 K y1 (y2 + 1))) else (mm_CI mX12_isThere d [.ref 164, .int y3] m30 (fun z48 m48 => if z48 = 0 then (vp_in ((7 * y2) + y3) 896 ∧ jX12_laysHunger_28 d x1 (mm_uI m48 211 ((7 * y2) + y3).toNatClampNeg 10) K y1 y2 (y3 + 1)) else (mm_CI mX12_hungerOf d [.ref 164, .int y3] m48 (fun z56 m56 => vp_in ((7 * y2) + y3) 896 ∧ jX12_laysHunger_28 d x1 (mm_uI m56 211 ((7 * y2) + y3).toNatClampNeg z56) K y1 y2 (y3 + 1))))))) : jX12_laysHunger_28 d x1 M K y1 y2 y3 := by
  unfold jX12_laysHunger_28
  refine mm_iload_n (j := 3) dX12_laysHunger_28 rfl rfl ?_
  refine mm_aload_n (j := 0) dX12_laysHunger_29 rfl rfl ?_
  refine mm_kVI [] dX12_laysHunger_30 kX12_412 rfl sh_164 (by decide) (by decide) h (fun z30 m30 hG h => ?_)
  refine mm_icmp_ge (tgt := 71) dX12_laysHunger_33 (by decide) (fun hc => ?_) (fun hc => ?_)
  · rw [if_pos hc] at h
    refine mm_aload_n (j := 0) dX12_laysHunger_71 rfl rfl ?_
    refine mm_kVV [] dX12_laysHunger_72 kX12_519 rfl sh_164 (by decide) (by decide) h (fun m72 hG h => ?_)
    refine mm_iinc (j := 2) (v := y2 + 1) (lv' := [(2, .int (y2 + 1)), (0, .ref 164), (1, .int y1), (3, .int y3)]) dX12_laysHunger_75 rfl rfl (by decide) rfl ?_
    refine mm_goto (tgt := 6) dX12_laysHunger_78 (by decide) ?_
    exact mm_sub [1, 2, 0] rfl h
  · rw [if_neg hc] at h
    refine mm_aload_n (j := 0) dX12_laysHunger_36 rfl rfl ?_
    refine mm_getR (ci := 12) (N := 116) (r := 211) dX12_laysHunger_37 fX12_154 sh_164 rfl (g_164_71 hG) ?_
    refine mm_bipush (x := 7) dX12_laysHunger_40 rfl ?_
    refine mm_iload_n (j := 2) dX12_laysHunger_42 rfl rfl ?_
    refine mm_imul dX12_laysHunger_43 ?_
    refine mm_iload_n (j := 3) dX12_laysHunger_44 rfl rfl ?_
    refine mm_iadd dX12_laysHunger_45 ?_
    refine mm_aload_n (j := 0) dX12_laysHunger_46 rfl rfl ?_
    refine mm_iload_n (j := 3) dX12_laysHunger_47 rfl rfl ?_
    refine mm_kVI [.int y3] dX12_laysHunger_48 kX12_462 rfl sh_164 (by decide) (by decide) h (fun z48 m48 hG h => ?_)
    refine mm_if_eq (tgt := 62) dX12_laysHunger_51 (by decide) (fun hc => ?_) (fun hc => ?_)
    · rw [if_pos hc] at h
      refine mm_bipush (x := 10) dX12_laysHunger_62 rfl ?_
      obtain ⟨hi64, h⟩ := h
      refine mm_iastore (N := 896) dX12_laysHunger_64 sh_211 hi64 ?_
      refine mm_iinc (j := 3) (v := y3 + 1) (lv' := [(3, .int (y3 + 1)), (0, .ref 164), (1, .int y1), (2, .int y2)]) dX12_laysHunger_65 rfl rfl (by decide) rfl ?_
      refine mm_goto (tgt := 28) dX12_laysHunger_68 (by decide) ?_
      exact mm_sub [1, 2, 3, 0] rfl h
    · rw [if_neg hc] at h
      refine mm_aload_n (j := 0) dX12_laysHunger_54 rfl rfl ?_
      refine mm_iload_n (j := 3) dX12_laysHunger_55 rfl rfl ?_
      refine mm_kVI [.int y3] dX12_laysHunger_56 kX12_459 rfl sh_164 (by decide) (by decide) h (fun z56 m56 hG h => ?_)
      refine mm_goto (tgt := 64) dX12_laysHunger_59 (by decide) ?_
      obtain ⟨hi64, h⟩ := h
      refine mm_iastore (N := 896) dX12_laysHunger_64 sh_211 hi64 ?_
      refine mm_iinc (j := 3) (v := y3 + 1) (lv' := [(3, .int (y3 + 1)), (0, .ref 164), (1, .int y1), (2, .int y2)]) dX12_laysHunger_65 rfl rfl (by decide) rfl ?_
      refine mm_goto (tgt := 28) dX12_laysHunger_68 (by decide) ?_
      exact mm_sub [1, 2, 3, 0] rfl h
def jX12_isRest_2 (d : Nat) (x1 : Int32) (M : mm_M) (K : Int32 → mm_M → Prop) (y1 : Int32) (y2 : Int32) : Prop := mm_W mX12_isRest (d + 1) 0 0 2 [(0, .ref 164), (1, .int y1), (2, .int y2)] [] mm_SH M 0 0 (mm_PI K)
set_option maxRecDepth 100000 in
set_option maxHeartbeats 4000000 in
theorem rX12_isRest {d : Nat} {x1 : Int32} {M : mm_M} {K : Int32 → mm_M → Prop} (hG : mm_G M.2.2) (h : jX12_isRest_2 d x1 M K x1 0) : mm_CI mX12_isRest (d + 1) [.ref 164, .int x1] M K := by
  show mm_W mX12_isRest (d + 1) 0 0 0 [(0, .ref 164), (1, .int x1)] [] mm_SH M 0 0 (mm_PI K)
  refine mm_iconst (x := 0) dX12_isRest_0 rfl ?_
  refine mm_istore_n (lv' := [(2, .int 0), (0, .ref 164), (1, .int x1)]) dX12_isRest_1 rfl (by decide) rfl ?_
  exact mm_sub [1, 2, 0] rfl h
set_option maxRecDepth 100000 in
set_option maxHeartbeats 4000000 in
theorem lX12_isRest_2 {d : Nat} {x1 : Int32} {M : mm_M} {K : Int32 → mm_M → Prop} {y1 : Int32} {y2 : Int32} (hG : mm_G M.2.2) (h : mm_CI mX12_houseMany d [.ref 164] M (fun z4 m4 => if z4 ≤ y2 then (K 1 m4) else (vp_in ((7 * (y1 ^^^ (1 <<< (y2 &&& 31)))) + y2) 896 ∧ vp_in ((7 * y1) + y2) 896 ∧ if (m4.1 211 ((7 * y1) + y2).toNatClampNeg) ≤ (m4.1 211 ((7 * (y1 ^^^ (1 <<< (y2 &&& 31)))) + y2).toNatClampNeg) then (jX12_isRest_2 d x1 m4 K y1 (y2 + 1)) else (K 0 m4)))) : jX12_isRest_2 d x1 M K y1 y2 := by
  unfold jX12_isRest_2
  refine mm_iload_n (j := 2) dX12_isRest_2 rfl rfl ?_
  refine mm_aload_n (j := 0) dX12_isRest_3 rfl rfl ?_
  refine mm_kVI [] dX12_isRest_4 kX12_412 rfl sh_164 (by decide) (by decide) h (fun z4 m4 hG h => ?_)
  refine mm_icmp_ge (tgt := 47) dX12_isRest_7 (by decide) (fun hc => ?_) (fun hc => ?_)
  · rw [if_pos hc] at h
    refine mm_iconst (x := 1) dX12_isRest_47 rfl ?_
    exact mm_zret dX12_isRest_48 rfl rfl (Nat.le_refl 0) (Nat.le_refl 0) ⟨_, rfl, rfl, hG, h⟩
  · rw [if_neg hc] at h
    refine mm_aload_n (j := 0) dX12_isRest_10 rfl rfl ?_
    refine mm_getR (ci := 12) (N := 116) (r := 211) dX12_isRest_11 fX12_154 sh_164 rfl (g_164_71 hG) ?_
    refine mm_bipush (x := 7) dX12_isRest_14 rfl ?_
    refine mm_iload_n (j := 1) dX12_isRest_16 rfl rfl ?_
    refine mm_iconst (x := 1) dX12_isRest_17 rfl ?_
    refine mm_iload_n (j := 2) dX12_isRest_18 rfl rfl ?_
    refine mm_ishl dX12_isRest_19 ?_
    refine mm_ixor dX12_isRest_20 ?_
    refine mm_imul dX12_isRest_21 ?_
    refine mm_iload_n (j := 2) dX12_isRest_22 rfl rfl ?_
    refine mm_iadd dX12_isRest_23 ?_
    obtain ⟨hi24, h⟩ := h
    refine mm_iaload (N := 896) dX12_isRest_24 sh_211 hi24 ?_
    refine mm_aload_n (j := 0) dX12_isRest_25 rfl rfl ?_
    refine mm_getR (ci := 12) (N := 116) (r := 211) dX12_isRest_26 fX12_154 sh_164 rfl (g_164_71 hG) ?_
    refine mm_bipush (x := 7) dX12_isRest_29 rfl ?_
    refine mm_iload_n (j := 1) dX12_isRest_31 rfl rfl ?_
    refine mm_imul dX12_isRest_32 ?_
    refine mm_iload_n (j := 2) dX12_isRest_33 rfl rfl ?_
    refine mm_iadd dX12_isRest_34 ?_
    obtain ⟨hi35, h⟩ := h
    refine mm_iaload (N := 896) dX12_isRest_35 sh_211 hi35 ?_
    refine mm_icmp_ge (tgt := 41) dX12_isRest_36 (by decide) (fun hc => ?_) (fun hc => ?_)
    · rw [if_pos hc] at h
      refine mm_iinc (j := 2) (v := y2 + 1) (lv' := [(2, .int (y2 + 1)), (0, .ref 164), (1, .int y1)]) dX12_isRest_41 rfl rfl (by decide) rfl ?_
      refine mm_goto (tgt := 2) dX12_isRest_44 (by decide) ?_
      exact mm_sub [1, 2, 0] rfl h
    · rw [if_neg hc] at h
      refine mm_iconst (x := 0) dX12_isRest_39 rfl ?_
      exact mm_zret dX12_isRest_40 rfl rfl (Nat.le_refl 0) (Nat.le_refl 0) ⟨_, rfl, rfl, hG, h⟩
def jX12_rest_22 (d : Nat) (x1 : Int32) (M : mm_M) (K : Int32 → mm_M → Prop) (y2 : Int32) (y3 : Int32) : Prop := mm_W mX12_rest (d + 1) 0 0 22 [(0, .ref 164), (2, .int y2), (3, .int y3)] [] mm_SH M 0 0 (mm_PI K)
set_option maxRecDepth 100000 in
set_option maxHeartbeats 4000000 in
theorem rX12_rest {d : Nat} {x1 : Int32} {M : mm_M} {K : Int32 → mm_M → Prop} (hG : mm_G M.2.2) (h : mm_CI mX12_isAhead d [.ref 164, .int x1, .int 1, .int 20] M (fun z5 m5 => if z5 = 0 then (K (-1) m5) else (mm_CV mX12_laysHunger d [.ref 164, .int x1] m5 (fun m15 => jX12_rest_22 d x1 m15 K (-1) 0)))) : mm_CI mX12_rest (d + 1) [.ref 164, .int x1] M K := by
  show mm_W mX12_rest (d + 1) 0 0 0 [(0, .ref 164), (1, .int x1)] [] mm_SH M 0 0 (mm_PI K)
  refine mm_aload_n (j := 0) dX12_rest_0 rfl rfl ?_
  refine mm_iload_n (j := 1) dX12_rest_1 rfl rfl ?_
  refine mm_iconst (x := 1) dX12_rest_2 rfl ?_
  refine mm_bipush (x := 20) dX12_rest_3 rfl ?_
  refine mm_kVI [.int x1, .int 1, .int 20] dX12_rest_5 kX12_550 rfl sh_164 (by decide) (by decide) h (fun z5 m5 hG h => ?_)
  refine mm_if_ne (tgt := 13) dX12_rest_8 (by decide) (fun hc => ?_) (fun hc => ?_)
  · rw [if_neg hc] at h
    refine mm_aload_n (j := 0) dX12_rest_13 rfl rfl ?_
    refine mm_iload_n (j := 1) dX12_rest_14 rfl rfl ?_
    refine mm_kVV [.int x1] dX12_rest_15 kX12_598 rfl sh_164 (by decide) (by decide) h (fun m15 hG h => ?_)
    refine mm_iconst (x := (-1)) dX12_rest_18 rfl ?_
    refine mm_istore_n (lv' := [(2, .int (-1)), (0, .ref 164), (1, .int x1)]) dX12_rest_19 rfl (by decide) rfl ?_
    refine mm_iconst (x := 0) dX12_rest_20 rfl ?_
    refine mm_istore_n (lv' := [(3, .int 0), (2, .int (-1)), (0, .ref 164), (1, .int x1)]) dX12_rest_21 rfl (by decide) rfl ?_
    exact mm_sub [2, 1, 0] rfl h
  · rw [if_pos hc] at h
    refine mm_iconst (x := (-1)) dX12_rest_11 rfl ?_
    exact mm_iret dX12_rest_12 rfl (Nat.le_refl 0) (Nat.le_refl 0) ⟨_, rfl, rfl, hG, h⟩
set_option maxRecDepth 100000 in
set_option maxHeartbeats 4000000 in
theorem lX12_rest_22 {d : Nat} {x1 : Int32} {M : mm_M} {K : Int32 → mm_M → Prop} {y2 : Int32} {y3 : Int32} (hG : mm_G M.2.2) (h : mm_CI mX12_houseMany d [.ref 164] M (fun z25 m25 => if (1 <<< (z25 &&& 31)) ≤ y3 then (K y2 m25) else (if y2 = (-1) then (mm_CI mX12_isRest d [.ref 164, .int y3] m25 (fun z53 m53 => if z53 = 0 then (jX12_rest_22 d x1 m53 K y2 (y3 + 1)) else (jX12_rest_22 d x1 m53 K y3 (y3 + 1)))) else (mm_CI mX12_bits d [.int y3] m25 (fun z38 m38 => mm_CI mX12_bits d [.int y2] m38 (fun z42 m42 => if z38 < z42 then (mm_CI mX12_isRest d [.ref 164, .int y3] m42 (fun z53 m53 => if z53 = 0 then (jX12_rest_22 d x1 m53 K y2 (y3 + 1)) else (jX12_rest_22 d x1 m53 K y3 (y3 + 1)))) else (jX12_rest_22 d x1 m42 K y2 (y3 + 1)))))))) : jX12_rest_22 d x1 M K y2 y3 := by
  unfold jX12_rest_22
  refine mm_iload_n (j := 2) dX12_rest_22 rfl rfl ?_
  refine mm_iconst (x := 1) dX12_rest_23 rfl ?_
  refine mm_aload_n (j := 0) dX12_rest_24 rfl rfl ?_
  refine mm_kVI [] dX12_rest_25 kX12_412 rfl sh_164 (by decide) (by decide) h (fun z25 m25 hG h => ?_)
  refine mm_ishl dX12_rest_28 ?_
  refine mm_icmp_ge (tgt := 67) dX12_rest_29 (by decide) (fun hc => ?_) (fun hc => ?_)
  · rw [if_pos hc] at h
    refine mm_iload_n (j := 1) dX12_rest_67 rfl rfl ?_
    exact mm_iret dX12_rest_68 rfl (Nat.le_refl 0) (Nat.le_refl 0) ⟨_, rfl, rfl, hG, h⟩
  · rw [if_neg hc] at h
    refine mm_iload_n (j := 1) dX12_rest_32 rfl rfl ?_
    refine mm_iconst (x := (-1)) dX12_rest_33 rfl ?_
    refine mm_icmp_eq (tgt := 51) dX12_rest_34 (by decide) (fun hc => ?_) (fun hc => ?_)
    · rw [if_pos hc] at h
      refine mm_aload_n (j := 0) dX12_rest_51 rfl rfl ?_
      refine mm_iload_n (j := 2) dX12_rest_52 rfl rfl ?_
      refine mm_kVI [.int y3] dX12_rest_53 kX12_601 rfl sh_164 (by decide) (by decide) h (fun z53 m53 hG h => ?_)
      refine mm_if_eq (tgt := 61) dX12_rest_56 (by decide) (fun hc => ?_) (fun hc => ?_)
      · rw [if_pos hc] at h
        refine mm_iinc (j := 2) (v := y3 + 1) (lv' := [(3, .int (y3 + 1)), (0, .ref 164), (2, .int y2)]) dX12_rest_61 rfl rfl (by decide) rfl ?_
        refine mm_goto (tgt := 22) dX12_rest_64 (by decide) ?_
        exact mm_sub [1, 2, 0] rfl h
      · rw [if_neg hc] at h
        refine mm_iload_n (j := 2) dX12_rest_59 rfl rfl ?_
        refine mm_istore_n (lv' := [(2, .int y3), (0, .ref 164), (3, .int y3)]) dX12_rest_60 rfl (by decide) rfl ?_
        refine mm_iinc (j := 2) (v := y3 + 1) (lv' := [(3, .int (y3 + 1)), (2, .int y3), (0, .ref 164)]) dX12_rest_61 rfl rfl (by decide) rfl ?_
        refine mm_goto (tgt := 22) dX12_rest_64 (by decide) ?_
        exact mm_sub [2, 1, 0] rfl h
    · rw [if_neg hc] at h
      refine mm_iload_n (j := 2) dX12_rest_37 rfl rfl ?_
      refine mm_kSI [.int y3] dX12_rest_38 kX12_525 rfl (by decide) (by decide) h (fun z38 m38 hG h => ?_)
      refine mm_iload_n (j := 1) dX12_rest_41 rfl rfl ?_
      refine mm_kSI [.int y2] dX12_rest_42 kX12_525 rfl (by decide) (by decide) h (fun z42 m42 hG h => ?_)
      refine mm_icmp_lt (tgt := 51) dX12_rest_45 (by decide) (fun hc => ?_) (fun hc => ?_)
      · rw [if_pos hc] at h
        refine mm_aload_n (j := 0) dX12_rest_51 rfl rfl ?_
        refine mm_iload_n (j := 2) dX12_rest_52 rfl rfl ?_
        refine mm_kVI [.int y3] dX12_rest_53 kX12_601 rfl sh_164 (by decide) (by decide) h (fun z53 m53 hG h => ?_)
        refine mm_if_eq (tgt := 61) dX12_rest_56 (by decide) (fun hc => ?_) (fun hc => ?_)
        · rw [if_pos hc] at h
          refine mm_iinc (j := 2) (v := y3 + 1) (lv' := [(3, .int (y3 + 1)), (0, .ref 164), (2, .int y2)]) dX12_rest_61 rfl rfl (by decide) rfl ?_
          refine mm_goto (tgt := 22) dX12_rest_64 (by decide) ?_
          exact mm_sub [1, 2, 0] rfl h
        · rw [if_neg hc] at h
          refine mm_iload_n (j := 2) dX12_rest_59 rfl rfl ?_
          refine mm_istore_n (lv' := [(2, .int y3), (0, .ref 164), (3, .int y3)]) dX12_rest_60 rfl (by decide) rfl ?_
          refine mm_iinc (j := 2) (v := y3 + 1) (lv' := [(3, .int (y3 + 1)), (2, .int y3), (0, .ref 164)]) dX12_rest_61 rfl rfl (by decide) rfl ?_
          refine mm_goto (tgt := 22) dX12_rest_64 (by decide) ?_
          exact mm_sub [2, 1, 0] rfl h
      · rw [if_neg hc] at h
        refine mm_goto (tgt := 61) dX12_rest_48 (by decide) ?_
        refine mm_iinc (j := 2) (v := y3 + 1) (lv' := [(3, .int (y3 + 1)), (0, .ref 164), (2, .int y2)]) dX12_rest_61 rfl rfl (by decide) rfl ?_
        refine mm_goto (tgt := 22) dX12_rest_64 (by decide) ?_
        exact mm_sub [1, 2, 0] rfl h
set_option maxRecDepth 100000 in
set_option maxHeartbeats 4000000 in
theorem rX12_refuses {d : Nat} {x1 : Int32} {M : mm_M} {K : Int32 → mm_M → Prop} (hG : mm_G M.2.2) (h : vp_in x1 6 ∧ vp_in x1 6 ∧ K (-1) (mm_uI M 166 (x1).toNatClampNeg ((M.1 166 (x1).toNatClampNeg) + 1))) : mm_CI mX12_refuses d [.ref 164, .int x1] M K := by
  show mm_W mX12_refuses d 0 0 0 [(0, .ref 164), (1, .int x1)] [] mm_SH M 0 0 (mm_PI K)
  refine mm_aload_n (j := 0) dX12_refuses_0 rfl rfl ?_
  refine mm_getR (ci := 12) (N := 116) (r := 166) dX12_refuses_1 fX12_17 sh_164 rfl (g_164_9 hG) ?_
  refine mm_iload_n (j := 1) dX12_refuses_4 rfl rfl ?_
  refine mm_dup2 dX12_refuses_5 rfl rfl ?_
  obtain ⟨hi6, h⟩ := h
  refine mm_iaload (N := 6) dX12_refuses_6 sh_166 hi6 ?_
  refine mm_iconst (x := 1) dX12_refuses_7 rfl ?_
  refine mm_iadd dX12_refuses_8 ?_
  obtain ⟨hi9, h⟩ := h
  refine mm_iastore (N := 6) dX12_refuses_9 sh_166 hi9 ?_
  refine mm_iconst (x := (-1)) dX12_refuses_10 rfl ?_
  exact mm_iret dX12_refuses_11 rfl (Nat.le_refl 0) (Nat.le_refl 0) ⟨_, rfl, rfl, hG, h⟩
def jX12_see_36 (d : Nat) (M : mm_M) (K : Int32 → mm_M → Prop) (y1 : Int32) (y2 : Int32) (y3 : Int32) : Prop := mm_W mX12_see (d + 1) 0 0 36 [(0, .ref 164), (1, .int y1), (2, .int y2), (3, .int y3)] [] mm_SH M 0 0 (mm_PI K)
def jX12_see_123 (d : Nat) (M : mm_M) (K : Int32 → mm_M → Prop) (y1 : Int32) (y3 : Int32) : Prop := mm_W mX12_see (d + 1) 0 0 123 [(0, .ref 164), (1, .int y1), (3, .int y3)] [] mm_SH M 0 0 (mm_PI K)
set_option maxRecDepth 100000 in
set_option maxHeartbeats 4000000 in
theorem rX12_see {d : Nat} {M : mm_M} {K : Int32 → mm_M → Prop} (hG : mm_G M.2.2) (h : if (M.1 164 1) ≤ 0 then (jX12_see_36 d (mm_uI M 164 1 0) K (M.1 164 1) 0 0) else (if ((M.1 164 1) - (M.1 164 1) / 3 * 3) = 0 then (if 16 < ((M.1 164 1) / 3) then (jX12_see_36 d (mm_uI M 164 1 0) K (M.1 164 1) 0 0) else (jX12_see_36 d (mm_uI M 164 1 0) K (M.1 164 1) 1 0)) else (jX12_see_36 d (mm_uI M 164 1 0) K (M.1 164 1) 0 0))) : mm_CI mX12_see (d + 1) [.ref 164] M K := by
  show mm_W mX12_see (d + 1) 0 0 0 [(0, .ref 164)] [] mm_SH M 0 0 (mm_PI K)
  refine mm_aload_n (j := 0) dX12_see_0 rfl rfl ?_
  refine mm_getI (ci := 12) (N := 116) dX12_see_1 fX12_257 sh_164 rfl ?_
  refine mm_istore_n (lv' := [(1, .int (M.1 164 1)), (0, .ref 164)]) dX12_see_4 rfl (by decide) rfl ?_
  refine mm_aload_n (j := 1) dX12_see_5 rfl rfl ?_
  refine mm_iconst (x := 0) dX12_see_6 rfl ?_
  refine mm_putI (ci := 12) (N := 116) dX12_see_7 fX12_257 sh_164 (by decide +kernel) rfl rfl rfl ?_
  refine mm_iload_n (j := 0) dX12_see_10 rfl rfl ?_
  refine mm_if_le (tgt := 32) dX12_see_11 (by decide) (fun hc => ?_) (fun hc => ?_)
  · rw [if_pos hc] at h
    refine mm_iconst (x := 0) dX12_see_32 rfl ?_
    refine mm_istore_n (lv' := [(2, .int 0), (1, .int (M.1 164 1)), (0, .ref 164)]) dX12_see_33 rfl (by decide) rfl ?_
    refine mm_iconst (x := 0) dX12_see_34 rfl ?_
    refine mm_istore_n (lv' := [(3, .int 0), (2, .int 0), (1, .int (M.1 164 1)), (0, .ref 164)]) dX12_see_35 rfl (by decide) rfl ?_
    exact mm_sub [3, 2, 1, 0] rfl h
  · rw [if_neg hc] at h
    refine mm_iload_n (j := 0) dX12_see_14 rfl rfl ?_
    refine mm_iconst (x := 3) dX12_see_15 rfl ?_
    refine mm_irem dX12_see_16 (by decide) ?_
    refine mm_if_ne (tgt := 32) dX12_see_17 (by decide) (fun hc => ?_) (fun hc => ?_)
    · rw [if_neg hc] at h
      refine mm_iconst (x := 0) dX12_see_32 rfl ?_
      refine mm_istore_n (lv' := [(2, .int 0), (1, .int (M.1 164 1)), (0, .ref 164)]) dX12_see_33 rfl (by decide) rfl ?_
      refine mm_iconst (x := 0) dX12_see_34 rfl ?_
      refine mm_istore_n (lv' := [(3, .int 0), (2, .int 0), (1, .int (M.1 164 1)), (0, .ref 164)]) dX12_see_35 rfl (by decide) rfl ?_
      exact mm_sub [3, 2, 1, 0] rfl h
    · rw [if_pos hc] at h
      refine mm_iload_n (j := 0) dX12_see_20 rfl rfl ?_
      refine mm_iconst (x := 3) dX12_see_21 rfl ?_
      refine mm_idiv dX12_see_22 (by decide) ?_
      refine mm_bipush (x := 16) dX12_see_23 rfl ?_
      refine mm_icmp_gt (tgt := 32) dX12_see_25 (by decide) (fun hc => ?_) (fun hc => ?_)
      · rw [if_pos hc] at h
        refine mm_iconst (x := 0) dX12_see_32 rfl ?_
        refine mm_istore_n (lv' := [(2, .int 0), (1, .int (M.1 164 1)), (0, .ref 164)]) dX12_see_33 rfl (by decide) rfl ?_
        refine mm_iconst (x := 0) dX12_see_34 rfl ?_
        refine mm_istore_n (lv' := [(3, .int 0), (2, .int 0), (1, .int (M.1 164 1)), (0, .ref 164)]) dX12_see_35 rfl (by decide) rfl ?_
        exact mm_sub [3, 2, 1, 0] rfl h
      · rw [if_neg hc] at h
        refine mm_iconst (x := 1) dX12_see_28 rfl ?_
        refine mm_goto (tgt := 33) dX12_see_29 (by decide) ?_
        refine mm_istore_n (lv' := [(2, .int 1), (1, .int (M.1 164 1)), (0, .ref 164)]) dX12_see_33 rfl (by decide) rfl ?_
        refine mm_iconst (x := 0) dX12_see_34 rfl ?_
        refine mm_istore_n (lv' := [(3, .int 0), (2, .int 1), (1, .int (M.1 164 1)), (0, .ref 164)]) dX12_see_35 rfl (by decide) rfl ?_
        exact mm_sub [3, 2, 1, 0] rfl h
set_option maxRecDepth 100000 in
set_option maxHeartbeats 4000000 in
theorem lX12_see_36 {d : Nat} {M : mm_M} {K : Int32 → mm_M → Prop} {y1 : Int32} {y2 : Int32} {y3 : Int32} (hG : mm_G M.2.2) (h : if y1 ≤ y3 then (if y2 = 0 then (mm_CI mX12_refuses d [.ref 164, .int 1] M (fun z117 m117 => K z117 m117)) else (jX12_see_123 d M K y1 0)) else (if y2 = 0 then (if y2 = 0 then (mm_CI mX12_refuses d [.ref 164, .int 1] M (fun z117 m117 => K z117 m117)) else (jX12_see_123 d M K y1 0)) else (vp_in y3 1600 ∧ if 30 < (M.1 165 (y3).toNatClampNeg) then (jX12_see_36 d M K y1 0 (y3 + 3)) else (vp_in (y3 + 1) 1600 ∧ mm_CI mX12_isHouse d [.ref 164, .long ((M.1 165 (y3 + 1).toNatClampNeg).toInt64)] M (fun z66 m66 => if z66 = 0 then (jX12_see_36 d m66 K y1 0 (y3 + 3)) else (vp_in (y3 + 2) 1600 ∧ if (m66.1 165 (y3 + 2).toNatClampNeg) ≤ 99 then (jX12_see_36 d m66 K y1 1 (y3 + 3)) else (vp_in (y3 + 2) 1600 ∧ if (m66.1 165 (y3 + 2).toNatClampNeg) = 255 then (jX12_see_36 d m66 K y1 1 (y3 + 3)) else (jX12_see_36 d m66 K y1 0 (y3 + 3))))))))) : jX12_see_36 d  M K y1 y2 y3 := by
  unfold jX12_see_36
  refine mm_iload_n (j := 3) dX12_see_36 rfl rfl ?_
  refine mm_iload_n (j := 1) dX12_see_37 rfl rfl ?_
  refine mm_icmp_ge (tgt := 111) dX12_see_38 (by decide) (fun hc => ?_) (fun hc => ?_)
  · rw [if_pos hc] at h
    refine mm_iload_n (j := 2) dX12_see_111 rfl rfl ?_
    refine mm_if_ne (tgt := 121) dX12_see_112 (by decide) (fun hc => ?_) (fun hc => ?_)
    · rw [if_neg hc] at h
      refine mm_iconst (x := 0) dX12_see_121 rfl ?_
      refine mm_istore_n (lv' := [(3, .int 0), (0, .ref 164), (1, .int y1), (2, .int y2)]) dX12_see_122 rfl (by decide) rfl ?_
      exact mm_sub [1, 2, 0] rfl h
    · rw [if_pos hc] at h
      refine mm_aload_n (j := 0) dX12_see_115 rfl rfl ?_
      refine mm_iconst (x := 1) dX12_see_116 rfl ?_
      refine mm_kVI [.int 1] dX12_see_117 kX12_604 rfl sh_164 (by decide) (by decide) h (fun z117 m117 hG h => ?_)
      exact mm_iret dX12_see_120 rfl (Nat.le_refl 0) (Nat.le_refl 0) ⟨_, rfl, rfl, hG, h⟩
  · rw [if_neg hc] at h
    refine mm_iload_n (j := 2) dX12_see_41 rfl rfl ?_
    refine mm_if_eq (tgt := 111) dX12_see_42 (by decide) (fun hc => ?_) (fun hc => ?_)
    · rw [if_pos hc] at h
      refine mm_iload_n (j := 2) dX12_see_111 rfl rfl ?_
      refine mm_if_ne (tgt := 121) dX12_see_112 (by decide) (fun hc => ?_) (fun hc => ?_)
      · rw [if_neg hc] at h
        refine mm_iconst (x := 0) dX12_see_121 rfl ?_
        refine mm_istore_n (lv' := [(3, .int 0), (0, .ref 164), (1, .int y1), (2, .int y2)]) dX12_see_122 rfl (by decide) rfl ?_
        exact mm_sub [1, 2, 0] rfl h
      · rw [if_pos hc] at h
        refine mm_aload_n (j := 0) dX12_see_115 rfl rfl ?_
        refine mm_iconst (x := 1) dX12_see_116 rfl ?_
        refine mm_kVI [.int 1] dX12_see_117 kX12_604 rfl sh_164 (by decide) (by decide) h (fun z117 m117 hG h => ?_)
        exact mm_iret dX12_see_120 rfl (Nat.le_refl 0) (Nat.le_refl 0) ⟨_, rfl, rfl, hG, h⟩
    · rw [if_neg hc] at h
      refine mm_aload_n (j := 0) dX12_see_45 rfl rfl ?_
      refine mm_getR (ci := 12) (N := 116) (r := 165) dX12_see_46 fX12_7 sh_164 rfl (g_164_0 hG) ?_
      refine mm_iload_n (j := 3) dX12_see_49 rfl rfl ?_
      obtain ⟨hi50, h⟩ := h
      refine mm_iaload (N := 1600) dX12_see_50 sh_165 hi50 ?_
      refine mm_bipush (x := 30) dX12_see_51 rfl ?_
      refine mm_icmp_gt (tgt := 103) dX12_see_53 (by decide) (fun hc => ?_) (fun hc => ?_)
      · rw [if_pos hc] at h
        refine mm_iconst (x := 0) dX12_see_103 rfl ?_
        refine mm_istore_n (lv' := [(2, .int 0), (0, .ref 164), (1, .int y1), (3, .int y3)]) dX12_see_104 rfl (by decide) rfl ?_
        refine mm_iinc (j := 3) (v := y3 + 3) (lv' := [(3, .int (y3 + 3)), (2, .int 0), (0, .ref 164), (1, .int y1)]) dX12_see_105 rfl rfl (by decide) rfl ?_
        refine mm_goto (tgt := 36) dX12_see_108 (by decide) ?_
        exact mm_sub [2, 3, 1, 0] rfl h
      · rw [if_neg hc] at h
        refine mm_aload_n (j := 0) dX12_see_56 rfl rfl ?_
        refine mm_aload_n (j := 0) dX12_see_57 rfl rfl ?_
        refine mm_getR (ci := 12) (N := 116) (r := 165) dX12_see_58 fX12_7 sh_164 rfl (g_164_0 hG) ?_
        refine mm_iload_n (j := 3) dX12_see_61 rfl rfl ?_
        refine mm_iconst (x := 1) dX12_see_62 rfl ?_
        refine mm_iadd dX12_see_63 ?_
        obtain ⟨hi64, h⟩ := h
        refine mm_iaload (N := 1600) dX12_see_64 sh_165 hi64 ?_
        refine mm_i2l dX12_see_65 ?_
        refine mm_kVI [.long ((M.1 165 (y3 + 1).toNatClampNeg).toInt64)] dX12_see_66 kX12_534 rfl sh_164 (by decide) (by decide) h (fun z66 m66 hG h => ?_)
        refine mm_if_eq (tgt := 103) dX12_see_69 (by decide) (fun hc => ?_) (fun hc => ?_)
        · rw [if_pos hc] at h
          refine mm_iconst (x := 0) dX12_see_103 rfl ?_
          refine mm_istore_n (lv' := [(2, .int 0), (0, .ref 164), (1, .int y1), (3, .int y3)]) dX12_see_104 rfl (by decide) rfl ?_
          refine mm_iinc (j := 3) (v := y3 + 3) (lv' := [(3, .int (y3 + 3)), (2, .int 0), (0, .ref 164), (1, .int y1)]) dX12_see_105 rfl rfl (by decide) rfl ?_
          refine mm_goto (tgt := 36) dX12_see_108 (by decide) ?_
          exact mm_sub [2, 3, 1, 0] rfl h
        · rw [if_neg hc] at h
          refine mm_aload_n (j := 0) dX12_see_72 rfl rfl ?_
          refine mm_getR (ci := 12) (N := 116) (r := 165) dX12_see_73 fX12_7 sh_164 rfl (g_164_0 hG) ?_
          refine mm_iload_n (j := 3) dX12_see_76 rfl rfl ?_
          refine mm_iconst (x := 2) dX12_see_77 rfl ?_
          refine mm_iadd dX12_see_78 ?_
          obtain ⟨hi79, h⟩ := h
          refine mm_iaload (N := 1600) dX12_see_79 sh_165 hi79 ?_
          refine mm_bipush (x := 99) dX12_see_80 rfl ?_
          refine mm_icmp_le (tgt := 99) dX12_see_82 (by decide) (fun hc => ?_) (fun hc => ?_)
          · rw [if_pos hc] at h
            refine mm_iconst (x := 1) dX12_see_99 rfl ?_
            refine mm_goto (tgt := 104) dX12_see_100 (by decide) ?_
            refine mm_istore_n (lv' := [(2, .int 1), (0, .ref 164), (1, .int y1), (3, .int y3)]) dX12_see_104 rfl (by decide) rfl ?_
            refine mm_iinc (j := 3) (v := y3 + 3) (lv' := [(3, .int (y3 + 3)), (2, .int 1), (0, .ref 164), (1, .int y1)]) dX12_see_105 rfl rfl (by decide) rfl ?_
            refine mm_goto (tgt := 36) dX12_see_108 (by decide) ?_
            exact mm_sub [2, 3, 1, 0] rfl h
          · rw [if_neg hc] at h
            refine mm_aload_n (j := 0) dX12_see_85 rfl rfl ?_
            refine mm_getR (ci := 12) (N := 116) (r := 165) dX12_see_86 fX12_7 sh_164 rfl (g_164_0 hG) ?_
            refine mm_iload_n (j := 3) dX12_see_89 rfl rfl ?_
            refine mm_iconst (x := 2) dX12_see_90 rfl ?_
            refine mm_iadd dX12_see_91 ?_
            obtain ⟨hi92, h⟩ := h
            refine mm_iaload (N := 1600) dX12_see_92 sh_165 hi92 ?_
            refine mm_sipush (x := 255) dX12_see_93 rfl ?_
            refine mm_icmp_ne (tgt := 103) dX12_see_96 (by decide) (fun hc => ?_) (fun hc => ?_)
            · rw [if_neg hc] at h
              refine mm_iconst (x := 0) dX12_see_103 rfl ?_
              refine mm_istore_n (lv' := [(2, .int 0), (0, .ref 164), (1, .int y1), (3, .int y3)]) dX12_see_104 rfl (by decide) rfl ?_
              refine mm_iinc (j := 3) (v := y3 + 3) (lv' := [(3, .int (y3 + 3)), (2, .int 0), (0, .ref 164), (1, .int y1)]) dX12_see_105 rfl rfl (by decide) rfl ?_
              refine mm_goto (tgt := 36) dX12_see_108 (by decide) ?_
              exact mm_sub [2, 3, 1, 0] rfl h
            · rw [if_pos hc] at h
              refine mm_iconst (x := 1) dX12_see_99 rfl ?_
              refine mm_goto (tgt := 104) dX12_see_100 (by decide) ?_
              refine mm_istore_n (lv' := [(2, .int 1), (0, .ref 164), (1, .int y1), (3, .int y3)]) dX12_see_104 rfl (by decide) rfl ?_
              refine mm_iinc (j := 3) (v := y3 + 3) (lv' := [(3, .int (y3 + 3)), (2, .int 1), (0, .ref 164), (1, .int y1)]) dX12_see_105 rfl rfl (by decide) rfl ?_
              refine mm_goto (tgt := 36) dX12_see_108 (by decide) ?_
              exact mm_sub [2, 3, 1, 0] rfl h
set_option maxRecDepth 100000 in
set_option maxHeartbeats 4000000 in
theorem lX12_see_123 {d : Nat} {M : mm_M} {K : Int32 → mm_M → Prop} {y1 : Int32} {y3 : Int32} (hG : mm_G M.2.2) (h : if y1 ≤ y3 then (K ((mm_uI M 164 72 (y1 / 3)).1 164 72) (mm_uI M 164 72 (y1 / 3))) else (vp_in y3 1600 ∧ vp_in y3 48 ∧ jX12_see_123 d (mm_uI M 212 (y3).toNatClampNeg (M.1 165 (y3).toNatClampNeg)) K y1 (y3 + 1))) : jX12_see_123 d  M K y1 y3 := by
  unfold jX12_see_123
  refine mm_iload_n (j := 2) dX12_see_123 rfl rfl ?_
  refine mm_iload_n (j := 1) dX12_see_124 rfl rfl ?_
  refine mm_icmp_ge (tgt := 146) dX12_see_125 (by decide) (fun hc => ?_) (fun hc => ?_)
  · rw [if_pos hc] at h
    refine mm_aload_n (j := 0) dX12_see_146 rfl rfl ?_
    refine mm_iload_n (j := 1) dX12_see_147 rfl rfl ?_
    refine mm_iconst (x := 3) dX12_see_148 rfl ?_
    refine mm_idiv dX12_see_149 (by decide) ?_
    refine mm_putI (ci := 12) (N := 116) dX12_see_150 fX12_409 sh_164 (by decide +kernel) rfl rfl rfl ?_
    refine mm_aload_n (j := 0) dX12_see_153 rfl rfl ?_
    refine mm_getI (ci := 12) (N := 116) dX12_see_154 fX12_409 sh_164 rfl ?_
    exact mm_iret dX12_see_157 rfl (Nat.le_refl 0) (Nat.le_refl 0) ⟨_, rfl, rfl, hG, h⟩
  · rw [if_neg hc] at h
    refine mm_aload_n (j := 0) dX12_see_128 rfl rfl ?_
    refine mm_getR (ci := 12) (N := 116) (r := 212) dX12_see_129 fX12_157 sh_164 rfl (g_164_73 hG) ?_
    refine mm_iload_n (j := 2) dX12_see_132 rfl rfl ?_
    refine mm_aload_n (j := 0) dX12_see_133 rfl rfl ?_
    refine mm_getR (ci := 12) (N := 116) (r := 165) dX12_see_134 fX12_7 sh_164 rfl (g_164_0 hG) ?_
    refine mm_iload_n (j := 2) dX12_see_137 rfl rfl ?_
    obtain ⟨hi138, h⟩ := h
    refine mm_iaload (N := 1600) dX12_see_138 sh_165 hi138 ?_
    obtain ⟨hi139, h⟩ := h
    refine mm_iastore (N := 48) dX12_see_139 sh_212 hi139 ?_
    refine mm_iinc (j := 2) (v := y3 + 1) (lv' := [(3, .int (y3 + 1)), (0, .ref 164), (1, .int y1)]) dX12_see_140 rfl rfl (by decide) rfl ?_
    refine mm_goto (tgt := 123) dX12_see_143 (by decide) ?_
    exact mm_sub [1, 2, 0] rfl h
set_option maxRecDepth 100000 in
set_option maxHeartbeats 4000000 in
theorem rX12_eatenTaste {d : Nat} {x1 : Int32} {M : mm_M} {K : Int32 → mm_M → Prop} (hG : mm_G M.2.2) (h : vp_in x1 7 ∧ if (M.1 202 (x1).toNatClampNeg) = (-1) then (K (-1) M) else (vp_in x1 7 ∧ K (M.1 203 (x1).toNatClampNeg) M)) : mm_CI mX12_eatenTaste d [.ref 164, .int x1] M K := by
  show mm_W mX12_eatenTaste d 0 0 0 [(0, .ref 164), (1, .int x1)] [] mm_SH M 0 0 (mm_PI K)
  refine mm_aload_n (j := 0) dX12_eatenTaste_0 rfl rfl ?_
  refine mm_getR (ci := 12) (N := 116) (r := 202) dX12_eatenTaste_1 fX12_127 sh_164 rfl (g_164_61 hG) ?_
  refine mm_iload_n (j := 1) dX12_eatenTaste_4 rfl rfl ?_
  obtain ⟨hi5, h⟩ := h
  refine mm_iaload (N := 7) dX12_eatenTaste_5 sh_202 hi5 ?_
  refine mm_iconst (x := (-1)) dX12_eatenTaste_6 rfl ?_
  refine mm_icmp_ne (tgt := 14) dX12_eatenTaste_7 (by decide) (fun hc => ?_) (fun hc => ?_)
  · rw [if_neg hc] at h
    refine mm_aload_n (j := 0) dX12_eatenTaste_14 rfl rfl ?_
    refine mm_getR (ci := 12) (N := 116) (r := 203) dX12_eatenTaste_15 fX12_130 sh_164 rfl (g_164_62 hG) ?_
    refine mm_iload_n (j := 1) dX12_eatenTaste_18 rfl rfl ?_
    obtain ⟨hi19, h⟩ := h
    refine mm_iaload (N := 7) dX12_eatenTaste_19 sh_203 hi19 ?_
    exact mm_iret dX12_eatenTaste_20 rfl (Nat.le_refl 0) (Nat.le_refl 0) ⟨_, rfl, rfl, hG, h⟩
  · rw [if_pos hc] at h
    refine mm_iconst (x := (-1)) dX12_eatenTaste_10 rfl ?_
    refine mm_goto (tgt := 20) dX12_eatenTaste_11 (by decide) ?_
    exact mm_iret dX12_eatenTaste_20 rfl (Nat.le_refl 0) (Nat.le_refl 0) ⟨_, rfl, rfl, hG, h⟩
def jX12_isAsSeen_2 (d : Nat) (x1 : Int32) (M : mm_M) (K : Int32 → mm_M → Prop) (y1 : Int32) (y2 : Int32) : Prop := mm_W mX12_isAsSeen (d + 1) 0 0 2 [(0, .ref 164), (1, .int y1), (2, .int y2)] [] mm_SH M 0 0 (mm_PI K)
def jX12_isAsSeen_55 (d : Nat) (x1 : Int32) (M : mm_M) (K : Int32 → mm_M → Prop) (y1 : Int32) (y2 : Int32) (u0 : Int32) : Prop := mm_W mX12_isAsSeen (d + 1) 0 0 55 [(0, .ref 164), (1, .int y1), (2, .int y2)] [.int u0] mm_SH M 0 0 (mm_PI K)
set_option maxRecDepth 100000 in
set_option maxHeartbeats 4000000 in
theorem rX12_isAsSeen {d : Nat} {x1 : Int32} {M : mm_M} {K : Int32 → mm_M → Prop} (hG : mm_G M.2.2) (h : jX12_isAsSeen_2 d x1 M K x1 0) : mm_CI mX12_isAsSeen (d + 1) [.ref 164, .int x1] M K := by
  show mm_W mX12_isAsSeen (d + 1) 0 0 0 [(0, .ref 164), (1, .int x1)] [] mm_SH M 0 0 (mm_PI K)
  refine mm_iconst (x := 0) dX12_isAsSeen_0 rfl ?_
  refine mm_istore_n (lv' := [(2, .int 0), (0, .ref 164), (1, .int x1)]) dX12_isAsSeen_1 rfl (by decide) rfl ?_
  exact mm_sub [1, 2, 0] rfl h
set_option maxRecDepth 100000 in
set_option maxHeartbeats 4000000 in
theorem lX12_isAsSeen_2 {d : Nat} {x1 : Int32} {M : mm_M} {K : Int32 → mm_M → Prop} {y1 : Int32} {y2 : Int32} (hG : mm_G M.2.2) (h : if (M.1 164 72) ≤ y2 then (K 1 M) else (vp_in (3 * y2) 48 ∧ if (M.1 212 (3 * y2).toNatClampNeg) = y1 then (vp_in ((3 * y2) + 2) 48 ∧ if (M.1 212 ((3 * y2) + 2).toNatClampNeg) = 255 then (jX12_isAsSeen_55 d x1 M K y1 y2 (-1)) else (vp_in ((3 * y2) + 2) 48 ∧ jX12_isAsSeen_55 d x1 M K y1 y2 (M.1 212 ((3 * y2) + 2).toNatClampNeg))) else (jX12_isAsSeen_2 d x1 M K y1 (y2 + 1)))) : jX12_isAsSeen_2 d x1 M K y1 y2 := by
  unfold jX12_isAsSeen_2
  refine mm_iload_n (j := 2) dX12_isAsSeen_2 rfl rfl ?_
  refine mm_aload_n (j := 0) dX12_isAsSeen_3 rfl rfl ?_
  refine mm_getI (ci := 12) (N := 116) dX12_isAsSeen_4 fX12_409 sh_164 rfl ?_
  refine mm_icmp_ge (tgt := 94) dX12_isAsSeen_7 (by decide) (fun hc => ?_) (fun hc => ?_)
  · rw [if_pos hc] at h
    refine mm_iconst (x := 1) dX12_isAsSeen_94 rfl ?_
    exact mm_zret dX12_isAsSeen_95 rfl rfl (Nat.le_refl 0) (Nat.le_refl 0) ⟨_, rfl, rfl, hG, h⟩
  · rw [if_neg hc] at h
    refine mm_aload_n (j := 0) dX12_isAsSeen_10 rfl rfl ?_
    refine mm_getR (ci := 12) (N := 116) (r := 212) dX12_isAsSeen_11 fX12_157 sh_164 rfl (g_164_73 hG) ?_
    refine mm_iconst (x := 3) dX12_isAsSeen_14 rfl ?_
    refine mm_iload_n (j := 2) dX12_isAsSeen_15 rfl rfl ?_
    refine mm_imul dX12_isAsSeen_16 ?_
    obtain ⟨hi17, h⟩ := h
    refine mm_iaload (N := 48) dX12_isAsSeen_17 sh_212 hi17 ?_
    refine mm_iload_n (j := 1) dX12_isAsSeen_18 rfl rfl ?_
    refine mm_icmp_eq (tgt := 25) dX12_isAsSeen_19 (by decide) (fun hc => ?_) (fun hc => ?_)
    · rw [if_pos hc] at h
      refine mm_aload_n (j := 0) dX12_isAsSeen_25 rfl rfl ?_
      refine mm_getR (ci := 12) (N := 116) (r := 212) dX12_isAsSeen_26 fX12_157 sh_164 rfl (g_164_73 hG) ?_
      refine mm_iconst (x := 3) dX12_isAsSeen_29 rfl ?_
      refine mm_iload_n (j := 2) dX12_isAsSeen_30 rfl rfl ?_
      refine mm_imul dX12_isAsSeen_31 ?_
      refine mm_iconst (x := 2) dX12_isAsSeen_32 rfl ?_
      refine mm_iadd dX12_isAsSeen_33 ?_
      obtain ⟨hi34, h⟩ := h
      refine mm_iaload (N := 48) dX12_isAsSeen_34 sh_212 hi34 ?_
      refine mm_sipush (x := 255) dX12_isAsSeen_35 rfl ?_
      refine mm_icmp_ne (tgt := 45) dX12_isAsSeen_38 (by decide) (fun hc => ?_) (fun hc => ?_)
      · rw [if_neg hc] at h
        refine mm_aload_n (j := 0) dX12_isAsSeen_45 rfl rfl ?_
        refine mm_getR (ci := 12) (N := 116) (r := 212) dX12_isAsSeen_46 fX12_157 sh_164 rfl (g_164_73 hG) ?_
        refine mm_iconst (x := 3) dX12_isAsSeen_49 rfl ?_
        refine mm_iload_n (j := 2) dX12_isAsSeen_50 rfl rfl ?_
        refine mm_imul dX12_isAsSeen_51 ?_
        refine mm_iconst (x := 2) dX12_isAsSeen_52 rfl ?_
        refine mm_iadd dX12_isAsSeen_53 ?_
        obtain ⟨hi54, h⟩ := h
        refine mm_iaload (N := 48) dX12_isAsSeen_54 sh_212 hi54 ?_
        exact h
      · rw [if_pos hc] at h
        refine mm_iconst (x := (-1)) dX12_isAsSeen_41 rfl ?_
        refine mm_goto (tgt := 55) dX12_isAsSeen_42 (by decide) ?_
        exact h
    · rw [if_neg hc] at h
      refine mm_goto (tgt := 88) dX12_isAsSeen_22 (by decide) ?_
      refine mm_iinc (j := 2) (v := y2 + 1) (lv' := [(2, .int (y2 + 1)), (0, .ref 164), (1, .int y1)]) dX12_isAsSeen_88 rfl rfl (by decide) rfl ?_
      refine mm_goto (tgt := 2) dX12_isAsSeen_91 (by decide) ?_
      exact mm_sub [1, 2, 0] rfl h
set_option maxRecDepth 100000 in
set_option maxHeartbeats 4000000 in
theorem lX12_isAsSeen_55 {d : Nat} {x1 : Int32} {M : mm_M} {K : Int32 → mm_M → Prop} {y1 : Int32} {y2 : Int32} {u0 : Int32} (hG : mm_G M.2.2) (h : if 999 < (M.1 199 (0).toNatClampNeg) then (K 0 M) else (vp_in ((3 * y2) + 1) 48 ∧ mm_CI mX12_eatenTaste d [.ref 164, .int (M.1 212 ((3 * y2) + 1).toNatClampNeg)] M (fun z79 m79 => if z79 = u0 then (jX12_isAsSeen_2 d x1 m79 K y1 (y2 + 1)) else (K 0 m79)))) : jX12_isAsSeen_55 d x1 M K y1 y2 u0 := by
  unfold jX12_isAsSeen_55
  refine mm_istore_n (lv' := [(3, .int u0), (0, .ref 164), (1, .int y1), (2, .int y2)]) dX12_isAsSeen_55 rfl (by decide) rfl ?_
  refine mm_aload_n (j := 1) dX12_isAsSeen_56 rfl rfl ?_
  refine mm_getR (ci := 12) (N := 116) (r := 199) dX12_isAsSeen_57 fX12_118 sh_164 rfl (g_164_50 hG) ?_
  refine mm_iconst (x := 0) dX12_isAsSeen_60 rfl ?_
  refine mm_iaload (N := 204) dX12_isAsSeen_61 sh_199 (by decide) ?_
  refine mm_sipush (x := 999) dX12_isAsSeen_62 rfl ?_
  refine mm_icmp_gt (tgt := 86) dX12_isAsSeen_65 (by decide) (fun hc => ?_) (fun hc => ?_)
  · rw [if_pos hc] at h
    refine mm_iconst (x := 0) dX12_isAsSeen_86 rfl ?_
    exact mm_zret dX12_isAsSeen_87 rfl rfl (Nat.le_refl 0) (Nat.le_refl 0) ⟨_, rfl, rfl, hG, h⟩
  · rw [if_neg hc] at h
    refine mm_aload_n (j := 1) dX12_isAsSeen_68 rfl rfl ?_
    refine mm_aload_n (j := 1) dX12_isAsSeen_69 rfl rfl ?_
    refine mm_getR (ci := 12) (N := 116) (r := 212) dX12_isAsSeen_70 fX12_157 sh_164 rfl (g_164_73 hG) ?_
    refine mm_iconst (x := 3) dX12_isAsSeen_73 rfl ?_
    refine mm_iload_n (j := 3) dX12_isAsSeen_74 rfl rfl ?_
    refine mm_imul dX12_isAsSeen_75 ?_
    refine mm_iconst (x := 1) dX12_isAsSeen_76 rfl ?_
    refine mm_iadd dX12_isAsSeen_77 ?_
    obtain ⟨hi78, h⟩ := h
    refine mm_iaload (N := 48) dX12_isAsSeen_78 sh_212 hi78 ?_
    refine mm_kVI [.int (M.1 212 ((3 * y2) + 1).toNatClampNeg)] dX12_isAsSeen_79 kX12_607 rfl sh_164 (by decide) (by decide) h (fun z79 m79 hG h => ?_)
    refine mm_iload_n (j := 0) dX12_isAsSeen_82 rfl rfl ?_
    refine mm_icmp_eq (tgt := 88) dX12_isAsSeen_83 (by decide) (fun hc => ?_) (fun hc => ?_)
    · rw [if_pos hc] at h
      refine mm_iinc (j := 3) (v := y2 + 1) (lv' := [(2, .int (y2 + 1)), (3, .int u0), (0, .ref 164), (1, .int y1)]) dX12_isAsSeen_88 rfl rfl (by decide) rfl ?_
      refine mm_goto (tgt := 2) dX12_isAsSeen_91 (by decide) ?_
      exact mm_sub [2, 3, 0] rfl h
    · rw [if_neg hc] at h
      refine mm_iconst (x := 0) dX12_isAsSeen_86 rfl ?_
      exact mm_zret dX12_isAsSeen_87 rfl rfl (Nat.le_refl 0) (Nat.le_refl 0) ⟨_, rfl, rfl, hG, h⟩
def jX12_laysFits_11 (d : Nat) (x1 : Int32) (M : mm_M) (K : mm_M → Prop) (y1 : Int32) (y2 : Int32) : Prop := mm_W mX12_laysFits (d + 1) 0 0 11 [(0, .ref 164), (1, .int y1), (2, .int y2)] [] mm_SH M 0 0 (mm_PV K)
def jX12_laysFits_33 (d : Nat) (x1 : Int32) (M : mm_M) (K : mm_M → Prop) (y1 : Int32) (y2 : Int32) (y3 : Int32) (y4 : Int32) : Prop := mm_W mX12_laysFits (d + 1) 0 0 33 [(0, .ref 164), (1, .int y1), (2, .int y2), (3, .int y3), (4, .int y4)] [] mm_SH M 0 0 (mm_PV K)
def jX12_laysFits_66 (d : Nat) (x1 : Int32) (M : mm_M) (K : mm_M → Prop) (y1 : Int32) (y2 : Int32) (y3 : Int32) (y4 : Int32) (y5 : Int32) : Prop := mm_W mX12_laysFits (d + 1) 0 0 66 [(0, .ref 164), (1, .int y1), (2, .int y2), (3, .int y3), (4, .int y4), (5, .int y5)] [] mm_SH M 0 0 (mm_PV K)
set_option maxRecDepth 100000 in
set_option maxHeartbeats 4000000 in
theorem rX12_laysFits {d : Nat} {x1 : Int32} {M : mm_M} {K : mm_M → Prop} (hG : mm_G M.2.2) (h : mm_CV mX12_putsAside d [.ref 164] (mm_uI M 164 76 0) (fun m6 => jX12_laysFits_11 d x1 m6 K x1 0)) : mm_CV mX12_laysFits (d + 1) [.ref 164, .int x1] M K := by
  show mm_W mX12_laysFits (d + 1) 0 0 0 [(0, .ref 164), (1, .int x1)] [] mm_SH M 0 0 (mm_PV K)
  refine mm_aload_n (j := 0) dX12_laysFits_0 rfl rfl ?_
  refine mm_iconst (x := 0) dX12_laysFits_1 rfl ?_
  refine mm_putI (ci := 12) (N := 116) dX12_laysFits_2 fX12_610 sh_164 (by decide +kernel) rfl rfl rfl ?_
  refine mm_aload_n (j := 0) dX12_laysFits_5 rfl rfl ?_
  refine mm_kVV [] dX12_laysFits_6 kX12_544 rfl sh_164 (by decide) (by decide) h (fun m6 hG h => ?_)
  refine mm_iconst (x := 0) dX12_laysFits_9 rfl ?_
  refine mm_istore_n (lv' := [(2, .int 0), (0, .ref 164), (1, .int x1)]) dX12_laysFits_10 rfl (by decide) rfl ?_
  exact mm_sub [1, 2, 0] rfl h
set_option maxRecDepth 100000 in
set_option maxHeartbeats 4000000 in
theorem lX12_laysFits_11 {d : Nat} {x1 : Int32} {M : mm_M} {K : mm_M → Prop} {y1 : Int32} {y2 : Int32} (hG : mm_G M.2.2) (h : if 99 < y2 then (mm_CV mX12_takesBack d [.ref 164] M (fun m144 => K m144)) else (vp_in (2 + (3 * y1)) 204 ∧ jX12_laysFits_33 d x1 (mm_uI M 199 (2 + (3 * y1)).toNatClampNeg y2) K y1 y2 1 0)) : jX12_laysFits_11 d x1 M K y1 y2 := by
  unfold jX12_laysFits_11
  refine mm_iload_n (j := 2) dX12_laysFits_11 rfl rfl ?_
  refine mm_bipush (x := 99) dX12_laysFits_12 rfl ?_
  refine mm_icmp_gt (tgt := 143) dX12_laysFits_14 (by decide) (fun hc => ?_) (fun hc => ?_)
  · rw [if_pos hc] at h
    refine mm_aload_n (j := 0) dX12_laysFits_143 rfl rfl ?_
    refine mm_kVV [] dX12_laysFits_144 kX12_547 rfl sh_164 (by decide) (by decide) h (fun m144 hG h => ?_)
    exact mm_vret dX12_laysFits_147 rfl (Nat.le_refl 0) (Nat.le_refl 0) ⟨rfl, rfl, hG, h⟩
  · rw [if_neg hc] at h
    refine mm_aload_n (j := 0) dX12_laysFits_17 rfl rfl ?_
    refine mm_getR (ci := 12) (N := 116) (r := 199) dX12_laysFits_18 fX12_118 sh_164 rfl (g_164_50 hG) ?_
    refine mm_iconst (x := 2) dX12_laysFits_21 rfl ?_
    refine mm_iconst (x := 3) dX12_laysFits_22 rfl ?_
    refine mm_iload_n (j := 1) dX12_laysFits_23 rfl rfl ?_
    refine mm_imul dX12_laysFits_24 ?_
    refine mm_iadd dX12_laysFits_25 ?_
    refine mm_iload_n (j := 2) dX12_laysFits_26 rfl rfl ?_
    obtain ⟨hi27, h⟩ := h
    refine mm_iastore (N := 204) dX12_laysFits_27 sh_199 hi27 ?_
    refine mm_iconst (x := 1) dX12_laysFits_28 rfl ?_
    refine mm_istore_n (lv' := [(3, .int 1), (0, .ref 164), (1, .int y1), (2, .int y2)]) dX12_laysFits_29 rfl (by decide) rfl ?_
    refine mm_iconst (x := 0) dX12_laysFits_30 rfl ?_
    refine mm_istore (lv' := [(4, .int 0), (3, .int 1), (0, .ref 164), (1, .int y1), (2, .int y2)]) dX12_laysFits_31 (by decide) rfl ?_
    exact mm_sub [2, 3, 4, 1, 0] rfl h
set_option maxRecDepth 100000 in
set_option maxHeartbeats 4000000 in
theorem lX12_laysFits_33 {d : Nat} {x1 : Int32} {M : mm_M} {K : mm_M → Prop} {y1 : Int32} {y2 : Int32} {y3 : Int32} {y4 : Int32} (hG : mm_G M.2.2) (h : if 30 < y4 then (mm_CV mX12_triesAnew d [.ref 164] M (fun m113 => vp_in y2 100 ∧ if y3 = 0 then (jX12_laysFits_11 d x1 (mm_uI m113 214 (y2).toNatClampNeg (vp_nar .boolean y3)) K y1 (y2 + 1)) else (jX12_laysFits_11 d x1 (mm_uI (mm_uI m113 214 (y2).toNatClampNeg (vp_nar .boolean y3)) 164 76 (((mm_uI m113 214 (y2).toNatClampNeg (vp_nar .boolean y3)).1 164 76) + 1)) K y1 (y2 + 1)))) else (mm_CV mX12_dayGoes d [.ref 164] M (fun m41 => if y3 = 0 then (jX12_laysFits_66 d x1 m41 K y1 y2 0 y4 0) else (mm_CI mX12_isAsSeen d [.ref 164, .int y4] m41 (fun z51 m51 => if z51 = 0 then (jX12_laysFits_66 d x1 m51 K y1 y2 0 y4 0) else (jX12_laysFits_66 d x1 m51 K y1 y2 1 y4 0)))))) : jX12_laysFits_33 d x1 M K y1 y2 y3 y4 := by
  unfold jX12_laysFits_33
  refine mm_iload (j := 4) dX12_laysFits_33 rfl ?_
  refine mm_bipush (x := 30) dX12_laysFits_35 rfl ?_
  refine mm_icmp_gt (tgt := 112) dX12_laysFits_37 (by decide) (fun hc => ?_) (fun hc => ?_)
  · rw [if_pos hc] at h
    refine mm_aload_n (j := 0) dX12_laysFits_112 rfl rfl ?_
    refine mm_kVV [] dX12_laysFits_113 kX12_519 rfl sh_164 (by decide) (by decide) h (fun m113 hG h => ?_)
    refine mm_aload_n (j := 0) dX12_laysFits_116 rfl rfl ?_
    refine mm_getR (ci := 12) (N := 116) (r := 214) dX12_laysFits_117 fX12_163 sh_164 rfl (g_164_75 hG) ?_
    refine mm_iload_n (j := 2) dX12_laysFits_120 rfl rfl ?_
    refine mm_iload_n (j := 3) dX12_laysFits_121 rfl rfl ?_
    obtain ⟨hi122, h⟩ := h
    refine mm_zastore (N := 100) dX12_laysFits_122 sh_214 hi122 ?_
    refine mm_iload_n (j := 3) dX12_laysFits_123 rfl rfl ?_
    refine mm_if_eq (tgt := 137) dX12_laysFits_124 (by decide) (fun hc => ?_) (fun hc => ?_)
    · rw [if_pos hc] at h
      refine mm_iinc (j := 2) (v := y2 + 1) (lv' := [(2, .int (y2 + 1)), (0, .ref 164), (1, .int y1), (3, .int y3), (4, .int y4)]) dX12_laysFits_137 rfl rfl (by decide) rfl ?_
      refine mm_goto (tgt := 11) dX12_laysFits_140 (by decide) ?_
      exact mm_sub [1, 2, 0] rfl h
    · rw [if_neg hc] at h
      refine mm_aload_n (j := 0) dX12_laysFits_127 rfl rfl ?_
      refine mm_dup dX12_laysFits_128 rfl ?_
      refine mm_getI (ci := 12) (N := 116) dX12_laysFits_129 fX12_610 sh_164 rfl ?_
      refine mm_iconst (x := 1) dX12_laysFits_132 rfl ?_
      refine mm_iadd dX12_laysFits_133 ?_
      refine mm_putI (ci := 12) (N := 116) dX12_laysFits_134 fX12_610 sh_164 (by decide +kernel) rfl rfl rfl ?_
      refine mm_iinc (j := 2) (v := y2 + 1) (lv' := [(2, .int (y2 + 1)), (0, .ref 164), (1, .int y1), (3, .int y3), (4, .int y4)]) dX12_laysFits_137 rfl rfl (by decide) rfl ?_
      refine mm_goto (tgt := 11) dX12_laysFits_140 (by decide) ?_
      exact mm_sub [1, 2, 0] rfl h
  · rw [if_neg hc] at h
    refine mm_aload_n (j := 0) dX12_laysFits_40 rfl rfl ?_
    refine mm_kVV [] dX12_laysFits_41 kX12_516 rfl sh_164 (by decide) (by decide) h (fun m41 hG h => ?_)
    refine mm_iload_n (j := 3) dX12_laysFits_44 rfl rfl ?_
    refine mm_if_eq (tgt := 61) dX12_laysFits_45 (by decide) (fun hc => ?_) (fun hc => ?_)
    · rw [if_pos hc] at h
      refine mm_iconst (x := 0) dX12_laysFits_61 rfl ?_
      refine mm_istore_n (lv' := [(3, .int 0), (0, .ref 164), (1, .int y1), (2, .int y2), (4, .int y4)]) dX12_laysFits_62 rfl (by decide) rfl ?_
      refine mm_iconst (x := 0) dX12_laysFits_63 rfl ?_
      refine mm_istore (lv' := [(5, .int 0), (3, .int 0), (0, .ref 164), (1, .int y1), (2, .int y2), (4, .int y4)]) dX12_laysFits_64 (by decide) rfl ?_
      exact mm_sub [2, 3, 4, 1, 5, 0] rfl h
    · rw [if_neg hc] at h
      refine mm_aload_n (j := 0) dX12_laysFits_48 rfl rfl ?_
      refine mm_iload (j := 4) dX12_laysFits_49 rfl ?_
      refine mm_kVI [.int y4] dX12_laysFits_51 kX12_613 rfl sh_164 (by decide) (by decide) h (fun z51 m51 hG h => ?_)
      refine mm_if_eq (tgt := 61) dX12_laysFits_54 (by decide) (fun hc => ?_) (fun hc => ?_)
      · rw [if_pos hc] at h
        refine mm_iconst (x := 0) dX12_laysFits_61 rfl ?_
        refine mm_istore_n (lv' := [(3, .int 0), (0, .ref 164), (1, .int y1), (2, .int y2), (4, .int y4)]) dX12_laysFits_62 rfl (by decide) rfl ?_
        refine mm_iconst (x := 0) dX12_laysFits_63 rfl ?_
        refine mm_istore (lv' := [(5, .int 0), (3, .int 0), (0, .ref 164), (1, .int y1), (2, .int y2), (4, .int y4)]) dX12_laysFits_64 (by decide) rfl ?_
        exact mm_sub [2, 3, 4, 1, 5, 0] rfl h
      · rw [if_neg hc] at h
        refine mm_iconst (x := 1) dX12_laysFits_57 rfl ?_
        refine mm_goto (tgt := 62) dX12_laysFits_58 (by decide) ?_
        refine mm_istore_n (lv' := [(3, .int 1), (0, .ref 164), (1, .int y1), (2, .int y2), (4, .int y4)]) dX12_laysFits_62 rfl (by decide) rfl ?_
        refine mm_iconst (x := 0) dX12_laysFits_63 rfl ?_
        refine mm_istore (lv' := [(5, .int 0), (3, .int 1), (0, .ref 164), (1, .int y1), (2, .int y2), (4, .int y4)]) dX12_laysFits_64 (by decide) rfl ?_
        exact mm_sub [2, 3, 4, 1, 5, 0] rfl h
set_option maxRecDepth 100000 in
set_option maxHeartbeats 4000000 in
theorem lX12_laysFits_66 {d : Nat} {x1 : Int32} {M : mm_M} {K : mm_M → Prop} {y1 : Int32} {y2 : Int32} {y3 : Int32} {y4 : Int32} {y5 : Int32} (hG : mm_G M.2.2) (h : mm_CI mX12_houseMany d [.ref 164] M (fun z69 m69 => if z69 ≤ y5 then (jX12_laysFits_33 d x1 m69 K y1 y2 y3 (y4 + 1)) else (mm_CI mX12_eatenTaste d [.ref 164, .int y5] m69 (fun z96 m96 => vp_in (((217 * y2) + (7 * y4)) + y5) 21700 ∧ jX12_laysFits_66 d x1 (mm_uI m96 213 (((217 * y2) + (7 * y4)) + y5).toNatClampNeg z96) K y1 y2 y3 y4 (y5 + 1))))) : jX12_laysFits_66 d x1 M K y1 y2 y3 y4 y5 := by
  unfold jX12_laysFits_66
  refine mm_iload (j := 5) dX12_laysFits_66 rfl ?_
  refine mm_aload_n (j := 0) dX12_laysFits_68 rfl rfl ?_
  refine mm_kVI [] dX12_laysFits_69 kX12_412 rfl sh_164 (by decide) (by decide) h (fun z69 m69 hG h => ?_)
  refine mm_icmp_ge (tgt := 106) dX12_laysFits_72 (by decide) (fun hc => ?_) (fun hc => ?_)
  · rw [if_pos hc] at h
    refine mm_iinc (j := 4) (v := y4 + 1) (lv' := [(4, .int (y4 + 1)), (0, .ref 164), (1, .int y1), (2, .int y2), (3, .int y3), (5, .int y5)]) dX12_laysFits_106 rfl rfl (by decide) rfl ?_
    refine mm_goto (tgt := 33) dX12_laysFits_109 (by decide) ?_
    exact mm_sub [1, 2, 3, 4, 0] rfl h
  · rw [if_neg hc] at h
    refine mm_aload_n (j := 0) dX12_laysFits_75 rfl rfl ?_
    refine mm_getR (ci := 12) (N := 116) (r := 213) dX12_laysFits_76 fX12_160 sh_164 rfl (g_164_74 hG) ?_
    refine mm_sipush (x := 217) dX12_laysFits_79 rfl ?_
    refine mm_iload_n (j := 2) dX12_laysFits_82 rfl rfl ?_
    refine mm_imul dX12_laysFits_83 ?_
    refine mm_bipush (x := 7) dX12_laysFits_84 rfl ?_
    refine mm_iload (j := 4) dX12_laysFits_86 rfl ?_
    refine mm_imul dX12_laysFits_88 ?_
    refine mm_iadd dX12_laysFits_89 ?_
    refine mm_iload (j := 5) dX12_laysFits_90 rfl ?_
    refine mm_iadd dX12_laysFits_92 ?_
    refine mm_aload_n (j := 0) dX12_laysFits_93 rfl rfl ?_
    refine mm_iload (j := 5) dX12_laysFits_94 rfl ?_
    refine mm_kVI [.int y5] dX12_laysFits_96 kX12_607 rfl sh_164 (by decide) (by decide) h (fun z96 m96 hG h => ?_)
    obtain ⟨hi99, h⟩ := h
    refine mm_iastore (N := 21700) dX12_laysFits_99 sh_213 hi99 ?_
    refine mm_iinc (j := 5) (v := y5 + 1) (lv' := [(5, .int (y5 + 1)), (0, .ref 164), (1, .int y1), (2, .int y2), (3, .int y3), (4, .int y4)]) dX12_laysFits_100 rfl rfl (by decide) rfl ?_
    refine mm_goto (tgt := 66) dX12_laysFits_103 (by decide) ?_
    exact mm_sub [1, 2, 3, 4, 5, 0] rfl h
def jX12_flour_44 (d : Nat) (x1 : Int32) (x2 : Int32) (M : mm_M) (K : Int32 → mm_M → Prop) (y2 : Int32) (y3 : Int32) (y4 : Int32) (y5 : Int32) : Prop := mm_W mX12_flour (d + 1) 0 0 44 [(0, .ref 164), (2, .int y2), (3, .int y3), (4, .int y4), (5, .int y5)] [] mm_SH M 0 0 (mm_PI K)
set_option maxRecDepth 100000 in
set_option maxHeartbeats 4000000 in
theorem rX12_flour {d : Nat} {x1 : Int32} {x2 : Int32} {M : mm_M} {K : Int32 → mm_M → Prop} (hG : mm_G M.2.2) (h : mm_CI mX12_isHouse d [.ref 164, .long x1.toInt64] M (fun z3 m3 => if z3 = 0 then (K (-1) m3) else (mm_CI mX12_isThere d [.ref 164, .int x1] m3 (fun z11 m11 => if z11 = 0 then (K (-1) m11) else (mm_CI mX12_isIn d [.long x2.toInt64, .long 0, .long 2] m11 (fun z23 m23 => if z23 = 0 then (K (-1) m23) else (mm_CV mX12_laysFits d [.ref 164, .int x1] m23 (fun m33 => jX12_flour_44 d x1 x2 m33 K x2 (-1) (-1) 0)))))))) : mm_CI mX12_flour (d + 1) [.ref 164, .int x1, .int x2] M K := by
  show mm_W mX12_flour (d + 1) 0 0 0 [(0, .ref 164), (1, .int x1), (2, .int x2)] [] mm_SH M 0 0 (mm_PI K)
  refine mm_aload_n (j := 0) dX12_flour_0 rfl rfl ?_
  refine mm_iload_n (j := 1) dX12_flour_1 rfl rfl ?_
  refine mm_i2l dX12_flour_2 ?_
  refine mm_kVI [.long x1.toInt64] dX12_flour_3 kX12_534 rfl sh_164 (by decide) (by decide) h (fun z3 m3 hG h => ?_)
  refine mm_if_eq (tgt := 29) dX12_flour_6 (by decide) (fun hc => ?_) (fun hc => ?_)
  · rw [if_pos hc] at h
    refine mm_iconst (x := (-1)) dX12_flour_29 rfl ?_
    exact mm_iret dX12_flour_30 rfl (Nat.le_refl 0) (Nat.le_refl 0) ⟨_, rfl, rfl, hG, h⟩
  · rw [if_neg hc] at h
    refine mm_aload_n (j := 0) dX12_flour_9 rfl rfl ?_
    refine mm_iload_n (j := 1) dX12_flour_10 rfl rfl ?_
    refine mm_kVI [.int x1] dX12_flour_11 kX12_462 rfl sh_164 (by decide) (by decide) h (fun z11 m11 hG h => ?_)
    refine mm_if_eq (tgt := 29) dX12_flour_14 (by decide) (fun hc => ?_) (fun hc => ?_)
    · rw [if_pos hc] at h
      refine mm_iconst (x := (-1)) dX12_flour_29 rfl ?_
      exact mm_iret dX12_flour_30 rfl (Nat.le_refl 0) (Nat.le_refl 0) ⟨_, rfl, rfl, hG, h⟩
    · rw [if_neg hc] at h
      refine mm_iload_n (j := 2) dX12_flour_17 rfl rfl ?_
      refine mm_i2l dX12_flour_18 ?_
      refine mm_lconst (x := 0) dX12_flour_19 rfl ?_
      refine mm_ldc2 (x := 2) dX12_flour_20 cX12_554 ?_
      refine mm_kSI [.long x2.toInt64, .long 0, .long 2] dX12_flour_23 kX12_303 rfl (by decide) (by decide) h (fun z23 m23 hG h => ?_)
      refine mm_if_ne (tgt := 31) dX12_flour_26 (by decide) (fun hc => ?_) (fun hc => ?_)
      · rw [if_neg hc] at h
        refine mm_aload_n (j := 0) dX12_flour_31 rfl rfl ?_
        refine mm_iload_n (j := 1) dX12_flour_32 rfl rfl ?_
        refine mm_kVV [.int x1] dX12_flour_33 kX12_616 rfl sh_164 (by decide) (by decide) h (fun m33 hG h => ?_)
        refine mm_iconst (x := (-1)) dX12_flour_36 rfl ?_
        refine mm_istore_n (lv' := [(3, .int (-1)), (0, .ref 164), (1, .int x1), (2, .int x2)]) dX12_flour_37 rfl (by decide) rfl ?_
        refine mm_iconst (x := (-1)) dX12_flour_38 rfl ?_
        refine mm_istore (lv' := [(4, .int (-1)), (3, .int (-1)), (0, .ref 164), (1, .int x1), (2, .int x2)]) dX12_flour_39 (by decide) rfl ?_
        refine mm_iconst (x := 0) dX12_flour_41 rfl ?_
        refine mm_istore (lv' := [(5, .int 0), (4, .int (-1)), (3, .int (-1)), (0, .ref 164), (1, .int x1), (2, .int x2)]) dX12_flour_42 (by decide) rfl ?_
        exact mm_sub [3, 5, 2, 1, 0] rfl h
      · rw [if_pos hc] at h
        refine mm_iconst (x := (-1)) dX12_flour_29 rfl ?_
        exact mm_iret dX12_flour_30 rfl (Nat.le_refl 0) (Nat.le_refl 0) ⟨_, rfl, rfl, hG, h⟩
set_option maxRecDepth 100000 in
set_option maxHeartbeats 4000000 in
theorem lX12_flour_44 {d : Nat} {x1 : Int32} {x2 : Int32} {M : mm_M} {K : Int32 → mm_M → Prop} {y2 : Int32} {y3 : Int32} {y4 : Int32} {y5 : Int32} (hG : mm_G M.2.2) (h : if 99 < y5 then (if y2 = 0 then (K (M.1 164 76) M) else (if y2 = 1 then (K y3 M) else (K y4 M))) else (vp_in y5 100 ∧ if (M.1 214 (y5).toNatClampNeg) = 0 then (jX12_flour_44 d x1 x2 M K y2 y3 y4 (y5 + 1)) else (if y3 = (-1) then (jX12_flour_44 d x1 x2 M K y2 y5 y5 (y5 + 1)) else (jX12_flour_44 d x1 x2 M K y2 y3 y5 (y5 + 1))))) : jX12_flour_44 d x1 x2 M K y2 y3 y4 y5 := by
  unfold jX12_flour_44
  refine mm_iload (j := 4) dX12_flour_44 rfl ?_
  refine mm_bipush (x := 99) dX12_flour_46 rfl ?_
  refine mm_icmp_gt (tgt := 79) dX12_flour_48 (by decide) (fun hc => ?_) (fun hc => ?_)
  · rw [if_pos hc] at h
    refine mm_iload_n (j := 1) dX12_flour_79 rfl rfl ?_
    refine mm_if_ne (tgt := 90) dX12_flour_80 (by decide) (fun hc => ?_) (fun hc => ?_)
    · rw [if_neg hc] at h
      refine mm_iload_n (j := 1) dX12_flour_90 rfl rfl ?_
      refine mm_iconst (x := 1) dX12_flour_91 rfl ?_
      refine mm_icmp_ne (tgt := 99) dX12_flour_92 (by decide) (fun hc => ?_) (fun hc => ?_)
      · rw [if_neg hc] at h
        refine mm_iload (j := 3) dX12_flour_99 rfl ?_
        exact mm_iret dX12_flour_101 rfl (Nat.le_refl 0) (Nat.le_refl 0) ⟨_, rfl, rfl, hG, h⟩
      · rw [if_pos hc] at h
        refine mm_iload_n (j := 2) dX12_flour_95 rfl rfl ?_
        refine mm_goto (tgt := 101) dX12_flour_96 (by decide) ?_
        exact mm_iret dX12_flour_101 rfl (Nat.le_refl 0) (Nat.le_refl 0) ⟨_, rfl, rfl, hG, h⟩
    · rw [if_pos hc] at h
      refine mm_aload_n (j := 0) dX12_flour_83 rfl rfl ?_
      refine mm_getI (ci := 12) (N := 116) dX12_flour_84 fX12_610 sh_164 rfl ?_
      refine mm_goto (tgt := 101) dX12_flour_87 (by decide) ?_
      exact mm_iret dX12_flour_101 rfl (Nat.le_refl 0) (Nat.le_refl 0) ⟨_, rfl, rfl, hG, h⟩
  · rw [if_neg hc] at h
    refine mm_aload_n (j := 0) dX12_flour_51 rfl rfl ?_
    refine mm_getR (ci := 12) (N := 116) (r := 214) dX12_flour_52 fX12_163 sh_164 rfl (g_164_75 hG) ?_
    refine mm_iload (j := 4) dX12_flour_55 rfl ?_
    obtain ⟨hi57, h⟩ := h
    refine mm_zaload (N := 100) dX12_flour_57 sh_214 hi57 ?_
    refine mm_if_eq (tgt := 73) dX12_flour_58 (by decide) (fun hc => ?_) (fun hc => ?_)
    · rw [if_pos hc] at h
      refine mm_iinc (j := 4) (v := y5 + 1) (lv' := [(5, .int (y5 + 1)), (0, .ref 164), (2, .int y2), (3, .int y3), (4, .int y4)]) dX12_flour_73 rfl rfl (by decide) rfl ?_
      refine mm_goto (tgt := 44) dX12_flour_76 (by decide) ?_
      exact mm_sub [1, 2, 3, 4, 0] rfl h
    · rw [if_neg hc] at h
      refine mm_iload_n (j := 2) dX12_flour_61 rfl rfl ?_
      refine mm_iconst (x := (-1)) dX12_flour_62 rfl ?_
      refine mm_icmp_ne (tgt := 69) dX12_flour_63 (by decide) (fun hc => ?_) (fun hc => ?_)
      · rw [if_neg hc] at h
        refine mm_iload (j := 4) dX12_flour_69 rfl ?_
        refine mm_istore (lv' := [(4, .int y5), (0, .ref 164), (2, .int y2), (3, .int y3), (5, .int y5)]) dX12_flour_71 (by decide) rfl ?_
        refine mm_iinc (j := 4) (v := y5 + 1) (lv' := [(5, .int (y5 + 1)), (4, .int y5), (0, .ref 164), (2, .int y2), (3, .int y3)]) dX12_flour_73 rfl rfl (by decide) rfl ?_
        refine mm_goto (tgt := 44) dX12_flour_76 (by decide) ?_
        exact mm_sub [2, 3, 4, 1, 0] rfl h
      · rw [if_pos hc] at h
        refine mm_iload (j := 4) dX12_flour_66 rfl ?_
        refine mm_istore_n (lv' := [(3, .int y5), (0, .ref 164), (2, .int y2), (4, .int y4), (5, .int y5)]) dX12_flour_68 rfl (by decide) rfl ?_
        refine mm_iload (j := 4) dX12_flour_69 rfl ?_
        refine mm_istore (lv' := [(4, .int y5), (3, .int y5), (0, .ref 164), (2, .int y2), (5, .int y5)]) dX12_flour_71 (by decide) rfl ?_
        refine mm_iinc (j := 4) (v := y5 + 1) (lv' := [(5, .int (y5 + 1)), (4, .int y5), (3, .int y5), (0, .ref 164), (2, .int y2)]) dX12_flour_73 rfl rfl (by decide) rfl ?_
        refine mm_goto (tgt := 44) dX12_flour_76 (by decide) ?_
        exact mm_sub [3, 4, 2, 1, 0] rfl h
def jX12_mostAlike_4 (d : Nat) (x1 : Int32) (M : mm_M) (K : Int32 → mm_M → Prop) (y1 : Int32) (y2 : Int32) (y3 : Int32) : Prop := mm_W mX12_mostAlike d 0 0 4 [(0, .ref 164), (1, .int y1), (2, .int y2), (3, .int y3)] [] mm_SH M 0 0 (mm_PI K)
def jX12_mostAlike_25 (d : Nat) (x1 : Int32) (M : mm_M) (K : Int32 → mm_M → Prop) (y1 : Int32) (y2 : Int32) (y3 : Int32) : Prop := mm_W mX12_mostAlike d 0 0 25 [(0, .ref 164), (1, .int y1), (2, .int y2), (3, .int y3)] [] mm_SH M 0 0 (mm_PI K)
set_option maxRecDepth 100000 in
set_option maxHeartbeats 4000000 in
theorem rX12_mostAlike {d : Nat} {x1 : Int32} {M : mm_M} {K : Int32 → mm_M → Prop} (hG : mm_G M.2.2) (h : jX12_mostAlike_4 d x1 M K x1 0 0) : mm_CI mX12_mostAlike d [.ref 164, .int x1] M K := by
  show mm_W mX12_mostAlike d 0 0 0 [(0, .ref 164), (1, .int x1)] [] mm_SH M 0 0 (mm_PI K)
  refine mm_iconst (x := 0) dX12_mostAlike_0 rfl ?_
  refine mm_istore_n (lv' := [(2, .int 0), (0, .ref 164), (1, .int x1)]) dX12_mostAlike_1 rfl (by decide) rfl ?_
  refine mm_iconst (x := 0) dX12_mostAlike_2 rfl ?_
  refine mm_istore_n (lv' := [(3, .int 0), (2, .int 0), (0, .ref 164), (1, .int x1)]) dX12_mostAlike_3 rfl (by decide) rfl ?_
  exact mm_sub [2, 3, 1, 0] rfl h
set_option maxRecDepth 100000 in
set_option maxHeartbeats 4000000 in
theorem lX12_mostAlike_4 {d : Nat} {x1 : Int32} {M : mm_M} {K : Int32 → mm_M → Prop} {y1 : Int32} {y2 : Int32} {y3 : Int32} (hG : mm_G M.2.2) (h : if 100 < y3 then (jX12_mostAlike_25 d x1 M K y1 y2 0) else (vp_in y3 101 ∧ jX12_mostAlike_4 d x1 (mm_uI M 215 (y3).toNatClampNeg 0) K y1 y2 (y3 + 1))) : jX12_mostAlike_4 d x1 M K y1 y2 y3 := by
  unfold jX12_mostAlike_4
  refine mm_iload_n (j := 3) dX12_mostAlike_4 rfl rfl ?_
  refine mm_bipush (x := 100) dX12_mostAlike_5 rfl ?_
  refine mm_icmp_gt (tgt := 23) dX12_mostAlike_7 (by decide) (fun hc => ?_) (fun hc => ?_)
  · rw [if_pos hc] at h
    refine mm_iconst (x := 0) dX12_mostAlike_23 rfl ?_
    refine mm_istore_n (lv' := [(3, .int 0), (0, .ref 164), (1, .int y1), (2, .int y2)]) dX12_mostAlike_24 rfl (by decide) rfl ?_
    exact mm_sub [1, 2, 3, 0] rfl h
  · rw [if_neg hc] at h
    refine mm_aload_n (j := 0) dX12_mostAlike_10 rfl rfl ?_
    refine mm_getR (ci := 12) (N := 116) (r := 215) dX12_mostAlike_11 fX12_167 sh_164 rfl (g_164_77 hG) ?_
    refine mm_iload_n (j := 3) dX12_mostAlike_14 rfl rfl ?_
    refine mm_iconst (x := 0) dX12_mostAlike_15 rfl ?_
    obtain ⟨hi16, h⟩ := h
    refine mm_iastore (N := 101) dX12_mostAlike_16 sh_215 hi16 ?_
    refine mm_iinc (j := 3) (v := y3 + 1) (lv' := [(3, .int (y3 + 1)), (0, .ref 164), (1, .int y1), (2, .int y2)]) dX12_mostAlike_17 rfl rfl (by decide) rfl ?_
    refine mm_goto (tgt := 4) dX12_mostAlike_20 (by decide) ?_
    exact mm_sub [1, 2, 3, 0] rfl h
set_option maxRecDepth 100000 in
set_option maxHeartbeats 4000000 in
theorem lX12_mostAlike_25 {d : Nat} {x1 : Int32} {M : mm_M} {K : Int32 → mm_M → Prop} {y1 : Int32} {y2 : Int32} {y3 : Int32} (hG : mm_G M.2.2) (h : if 99 < y3 then (K y2 M) else (vp_in y3 100 ∧ if (M.1 214 (y3).toNatClampNeg) = 0 then (jX12_mostAlike_25 d x1 M K y1 y2 (y3 + 1)) else (vp_in ((217 * y3) + y1) 21700 ∧ vp_in ((M.1 213 ((217 * y3) + y1).toNatClampNeg) + 1) 101 ∧ vp_in ((M.1 213 ((217 * y3) + y1).toNatClampNeg) + 1) 101 ∧ vp_in ((M.1 213 ((217 * y3) + y1).toNatClampNeg) + 1) 101 ∧ if ((mm_uI M 215 ((M.1 213 ((217 * y3) + y1).toNatClampNeg) + 1).toNatClampNeg ((M.1 215 ((M.1 213 ((217 * y3) + y1).toNatClampNeg) + 1).toNatClampNeg) + 1)).1 215 ((M.1 213 ((217 * y3) + y1).toNatClampNeg) + 1).toNatClampNeg) ≤ y2 then (jX12_mostAlike_25 d x1 (mm_uI M 215 ((M.1 213 ((217 * y3) + y1).toNatClampNeg) + 1).toNatClampNeg ((M.1 215 ((M.1 213 ((217 * y3) + y1).toNatClampNeg) + 1).toNatClampNeg) + 1)) K y1 y2 (y3 + 1)) else (vp_in ((M.1 213 ((217 * y3) + y1).toNatClampNeg) + 1) 101 ∧ jX12_mostAlike_25 d x1 (mm_uI M 215 ((M.1 213 ((217 * y3) + y1).toNatClampNeg) + 1).toNatClampNeg ((M.1 215 ((M.1 213 ((217 * y3) + y1).toNatClampNeg) + 1).toNatClampNeg) + 1)) K y1 ((mm_uI M 215 ((M.1 213 ((217 * y3) + y1).toNatClampNeg) + 1).toNatClampNeg ((M.1 215 ((M.1 213 ((217 * y3) + y1).toNatClampNeg) + 1).toNatClampNeg) + 1)).1 215 ((M.1 213 ((217 * y3) + y1).toNatClampNeg) + 1).toNatClampNeg) (y3 + 1))))) : jX12_mostAlike_25 d x1 M K y1 y2 y3 := by
  unfold jX12_mostAlike_25
  refine mm_iload_n (j := 3) dX12_mostAlike_25 rfl rfl ?_
  refine mm_bipush (x := 99) dX12_mostAlike_26 rfl ?_
  refine mm_icmp_gt (tgt := 95) dX12_mostAlike_28 (by decide) (fun hc => ?_) (fun hc => ?_)
  · rw [if_pos hc] at h
    refine mm_iload_n (j := 2) dX12_mostAlike_95 rfl rfl ?_
    exact mm_iret dX12_mostAlike_96 rfl (Nat.le_refl 0) (Nat.le_refl 0) ⟨_, rfl, rfl, hG, h⟩
  · rw [if_neg hc] at h
    refine mm_aload_n (j := 0) dX12_mostAlike_31 rfl rfl ?_
    refine mm_getR (ci := 12) (N := 116) (r := 214) dX12_mostAlike_32 fX12_163 sh_164 rfl (g_164_75 hG) ?_
    refine mm_iload_n (j := 3) dX12_mostAlike_35 rfl rfl ?_
    obtain ⟨hi36, h⟩ := h
    refine mm_zaload (N := 100) dX12_mostAlike_36 sh_214 hi36 ?_
    refine mm_if_ne (tgt := 43) dX12_mostAlike_37 (by decide) (fun hc => ?_) (fun hc => ?_)
    · rw [if_neg hc] at h
      refine mm_aload_n (j := 0) dX12_mostAlike_43 rfl rfl ?_
      refine mm_getR (ci := 12) (N := 116) (r := 213) dX12_mostAlike_44 fX12_160 sh_164 rfl (g_164_74 hG) ?_
      refine mm_sipush (x := 217) dX12_mostAlike_47 rfl ?_
      refine mm_iload_n (j := 3) dX12_mostAlike_50 rfl rfl ?_
      refine mm_imul dX12_mostAlike_51 ?_
      refine mm_iload_n (j := 1) dX12_mostAlike_52 rfl rfl ?_
      refine mm_iadd dX12_mostAlike_53 ?_
      obtain ⟨hi54, h⟩ := h
      refine mm_iaload (N := 21700) dX12_mostAlike_54 sh_213 hi54 ?_
      refine mm_iconst (x := 1) dX12_mostAlike_55 rfl ?_
      refine mm_iadd dX12_mostAlike_56 ?_
      refine mm_istore (lv' := [(4, .int ((M.1 213 ((217 * y3) + y1).toNatClampNeg) + 1)), (0, .ref 164), (1, .int y1), (2, .int y2), (3, .int y3)]) dX12_mostAlike_57 (by decide) rfl ?_
      refine mm_aload_n (j := 1) dX12_mostAlike_59 rfl rfl ?_
      refine mm_getR (ci := 12) (N := 116) (r := 215) dX12_mostAlike_60 fX12_167 sh_164 rfl (g_164_77 hG) ?_
      refine mm_iload (j := 0) dX12_mostAlike_63 rfl ?_
      refine mm_dup2 dX12_mostAlike_65 rfl rfl ?_
      obtain ⟨hi66, h⟩ := h
      refine mm_iaload (N := 101) dX12_mostAlike_66 sh_215 hi66 ?_
      refine mm_iconst (x := 1) dX12_mostAlike_67 rfl ?_
      refine mm_iadd dX12_mostAlike_68 ?_
      obtain ⟨hi69, h⟩ := h
      refine mm_iastore (N := 101) dX12_mostAlike_69 sh_215 hi69 ?_
      refine mm_aload_n (j := 1) dX12_mostAlike_70 rfl rfl ?_
      refine mm_getR (ci := 12) (N := 116) (r := 215) dX12_mostAlike_71 fX12_167 sh_164 rfl (g_164_77 hG) ?_
      refine mm_iload (j := 0) dX12_mostAlike_74 rfl ?_
      obtain ⟨hi76, h⟩ := h
      refine mm_iaload (N := 101) dX12_mostAlike_76 sh_215 hi76 ?_
      refine mm_iload_n (j := 3) dX12_mostAlike_77 rfl rfl ?_
      refine mm_icmp_le (tgt := 89) dX12_mostAlike_78 (by decide) (fun hc => ?_) (fun hc => ?_)
      · rw [if_pos hc] at h
        refine mm_iinc (j := 4) (v := y3 + 1) (lv' := [(3, .int (y3 + 1)), (4, .int ((M.1 213 ((217 * y3) + y1).toNatClampNeg) + 1)), (0, .ref 164), (1, .int y1), (2, .int y2)]) dX12_mostAlike_89 rfl rfl (by decide) rfl ?_
        refine mm_goto (tgt := 25) dX12_mostAlike_92 (by decide) ?_
        exact mm_sub [2, 3, 4, 0] rfl h
      · rw [if_neg hc] at h
        refine mm_aload_n (j := 1) dX12_mostAlike_81 rfl rfl ?_
        refine mm_getR (ci := 12) (N := 116) (r := 215) dX12_mostAlike_82 fX12_167 sh_164 rfl (g_164_77 hG) ?_
        refine mm_iload (j := 0) dX12_mostAlike_85 rfl ?_
        obtain ⟨hi87, h⟩ := h
        refine mm_iaload (N := 101) dX12_mostAlike_87 sh_215 hi87 ?_
        refine mm_istore_n (lv' := [(2, .int ((mm_uI M 215 ((M.1 213 ((217 * y3) + y1).toNatClampNeg) + 1).toNatClampNeg ((M.1 215 ((M.1 213 ((217 * y3) + y1).toNatClampNeg) + 1).toNatClampNeg) + 1)).1 215 ((M.1 213 ((217 * y3) + y1).toNatClampNeg) + 1).toNatClampNeg)), (4, .int ((M.1 213 ((217 * y3) + y1).toNatClampNeg) + 1)), (0, .ref 164), (1, .int y1), (3, .int y3)]) dX12_mostAlike_88 rfl (by decide) rfl ?_
        refine mm_iinc (j := 4) (v := y3 + 1) (lv' := [(3, .int (y3 + 1)), (2, .int ((mm_uI M 215 ((M.1 213 ((217 * y3) + y1).toNatClampNeg) + 1).toNatClampNeg ((M.1 215 ((M.1 213 ((217 * y3) + y1).toNatClampNeg) + 1).toNatClampNeg) + 1)).1 215 ((M.1 213 ((217 * y3) + y1).toNatClampNeg) + 1).toNatClampNeg)), (4, .int ((M.1 213 ((217 * y3) + y1).toNatClampNeg) + 1)), (0, .ref 164), (1, .int y1)]) dX12_mostAlike_89 rfl rfl (by decide) rfl ?_
        refine mm_goto (tgt := 25) dX12_mostAlike_92 (by decide) ?_
        exact mm_sub [3, 4, 1, 0] rfl h
    · rw [if_pos hc] at h
      refine mm_goto (tgt := 89) dX12_mostAlike_40 (by decide) ?_
      refine mm_iinc (j := 3) (v := y3 + 1) (lv' := [(3, .int (y3 + 1)), (0, .ref 164), (1, .int y1), (2, .int y2)]) dX12_mostAlike_89 rfl rfl (by decide) rfl ?_
      refine mm_goto (tgt := 25) dX12_mostAlike_92 (by decide) ?_
      exact mm_sub [1, 2, 3, 0] rfl h
def jX12_tells_47 (d : Nat) (x1 : Int32) (x2 : Int32) (M : mm_M) (K : Int32 → mm_M → Prop) (y2 : Int32) (y3 : Int32) (y4 : Int32) (y5 : Int32) (y6 : Int32) : Prop := mm_W mX12_tells (d + 1) 0 0 47 [(0, .ref 164), (2, .int y2), (3, .int y3), (4, .int y4), (5, .int y5), (6, .int y6)] [] mm_SH M 0 0 (mm_PI K)
def jX12_tells_140 (d : Nat) (x1 : Int32) (x2 : Int32) (M : mm_M) (K : Int32 → mm_M → Prop) (y2 : Int32) (y3 : Int32) (y4 : Int32) (y5 : Int32) : Prop := mm_W mX12_tells (d + 1) 0 0 140 [(2, .int y2), (3, .int y3), (4, .int y4), (5, .int y5)] [] mm_SH M 0 0 (mm_PI K)
def jX12_tells_79 (d : Nat) (x1 : Int32) (x2 : Int32) (M : mm_M) (K : Int32 → mm_M → Prop) (y2 : Int32) (y3 : Int32) (y4 : Int32) (y5 : Int32) (y6 : Int32) (y7 : Int32) : Prop := mm_W mX12_tells (d + 1) 0 0 79 [(0, .ref 164), (2, .int y2), (3, .int y3), (4, .int y4), (5, .int y5), (6, .int y6), (7, .int y7)] [] mm_SH M 0 0 (mm_PI K)
set_option maxRecDepth 100000 in
set_option maxHeartbeats 4000000 in
theorem rX12_tells {d : Nat} {x1 : Int32} {x2 : Int32} {M : mm_M} {K : Int32 → mm_M → Prop} (hG : mm_G M.2.2) (h : mm_CI mX12_isHouse d [.ref 164, .long x1.toInt64] M (fun z3 m3 => if z3 = 0 then (K (-1) m3) else (mm_CI mX12_isThere d [.ref 164, .int x1] m3 (fun z11 m11 => if z11 = 0 then (K (-1) m11) else (mm_CI mX12_isIn d [.long x2.toInt64, .long 0, .long 2] m11 (fun z23 m23 => if z23 = 0 then (K (-1) m23) else (mm_CV mX12_laysFits d [.ref 164, .int x1] m23 (fun m33 => jX12_tells_47 d x1 x2 m33 K x2 (-1) (-1) 0 0)))))))) : mm_CI mX12_tells (d + 1) [.ref 164, .int x1, .int x2] M K := by
  show mm_W mX12_tells (d + 1) 0 0 0 [(0, .ref 164), (1, .int x1), (2, .int x2)] [] mm_SH M 0 0 (mm_PI K)
  refine mm_aload_n (j := 0) dX12_tells_0 rfl rfl ?_
  refine mm_iload_n (j := 1) dX12_tells_1 rfl rfl ?_
  refine mm_i2l dX12_tells_2 ?_
  refine mm_kVI [.long x1.toInt64] dX12_tells_3 kX12_534 rfl sh_164 (by decide) (by decide) h (fun z3 m3 hG h => ?_)
  refine mm_if_eq (tgt := 29) dX12_tells_6 (by decide) (fun hc => ?_) (fun hc => ?_)
  · rw [if_pos hc] at h
    refine mm_iconst (x := (-1)) dX12_tells_29 rfl ?_
    exact mm_iret dX12_tells_30 rfl (Nat.le_refl 0) (Nat.le_refl 0) ⟨_, rfl, rfl, hG, h⟩
  · rw [if_neg hc] at h
    refine mm_aload_n (j := 0) dX12_tells_9 rfl rfl ?_
    refine mm_iload_n (j := 1) dX12_tells_10 rfl rfl ?_
    refine mm_kVI [.int x1] dX12_tells_11 kX12_462 rfl sh_164 (by decide) (by decide) h (fun z11 m11 hG h => ?_)
    refine mm_if_eq (tgt := 29) dX12_tells_14 (by decide) (fun hc => ?_) (fun hc => ?_)
    · rw [if_pos hc] at h
      refine mm_iconst (x := (-1)) dX12_tells_29 rfl ?_
      exact mm_iret dX12_tells_30 rfl (Nat.le_refl 0) (Nat.le_refl 0) ⟨_, rfl, rfl, hG, h⟩
    · rw [if_neg hc] at h
      refine mm_iload_n (j := 2) dX12_tells_17 rfl rfl ?_
      refine mm_i2l dX12_tells_18 ?_
      refine mm_lconst (x := 0) dX12_tells_19 rfl ?_
      refine mm_ldc2 (x := 2) dX12_tells_20 cX12_554 ?_
      refine mm_kSI [.long x2.toInt64, .long 0, .long 2] dX12_tells_23 kX12_303 rfl (by decide) (by decide) h (fun z23 m23 hG h => ?_)
      refine mm_if_ne (tgt := 31) dX12_tells_26 (by decide) (fun hc => ?_) (fun hc => ?_)
      · rw [if_neg hc] at h
        refine mm_aload_n (j := 0) dX12_tells_31 rfl rfl ?_
        refine mm_iload_n (j := 1) dX12_tells_32 rfl rfl ?_
        refine mm_kVV [.int x1] dX12_tells_33 kX12_616 rfl sh_164 (by decide) (by decide) h (fun m33 hG h => ?_)
        refine mm_iconst (x := (-1)) dX12_tells_36 rfl ?_
        refine mm_istore_n (lv' := [(3, .int (-1)), (0, .ref 164), (1, .int x1), (2, .int x2)]) dX12_tells_37 rfl (by decide) rfl ?_
        refine mm_iconst (x := (-1)) dX12_tells_38 rfl ?_
        refine mm_istore (lv' := [(4, .int (-1)), (3, .int (-1)), (0, .ref 164), (1, .int x1), (2, .int x2)]) dX12_tells_39 (by decide) rfl ?_
        refine mm_iconst (x := 0) dX12_tells_41 rfl ?_
        refine mm_istore (lv' := [(5, .int 0), (4, .int (-1)), (3, .int (-1)), (0, .ref 164), (1, .int x1), (2, .int x2)]) dX12_tells_42 (by decide) rfl ?_
        refine mm_iconst (x := 0) dX12_tells_44 rfl ?_
        refine mm_istore (lv' := [(6, .int 0), (5, .int 0), (4, .int (-1)), (3, .int (-1)), (0, .ref 164), (1, .int x1), (2, .int x2)]) dX12_tells_45 (by decide) rfl ?_
        exact mm_sub [4, 6, 3, 2, 1, 0] rfl h
      · rw [if_pos hc] at h
        refine mm_iconst (x := (-1)) dX12_tells_29 rfl ?_
        exact mm_iret dX12_tells_30 rfl (Nat.le_refl 0) (Nat.le_refl 0) ⟨_, rfl, rfl, hG, h⟩
set_option maxRecDepth 100000 in
set_option maxHeartbeats 4000000 in
theorem lX12_tells_47 {d : Nat} {x1 : Int32} {x2 : Int32} {M : mm_M} {K : Int32 → mm_M → Prop} {y2 : Int32} {y3 : Int32} {y4 : Int32} {y5 : Int32} {y6 : Int32} (hG : mm_G M.2.2) (h : if (M.1 164 76) ≤ 0 then (jX12_tells_140 d x1 x2 M K y2 y3 y4 y5) else (if 30 < y6 then (jX12_tells_140 d x1 x2 M K y2 y3 y4 y5) else (if 999 ≤ ((M.1 199 (0).toNatClampNeg) + y6) then (jX12_tells_140 d x1 x2 M K y2 y3 y4 y5) else (jX12_tells_79 d x1 x2 M K y2 y3 y4 y5 y6 0)))) : jX12_tells_47 d x1 x2 M K y2 y3 y4 y5 y6 := by
  unfold jX12_tells_47
  refine mm_aload_n (j := 0) dX12_tells_47 rfl rfl ?_
  refine mm_getI (ci := 12) (N := 116) dX12_tells_48 fX12_610 sh_164 rfl ?_
  refine mm_if_le (tgt := 140) dX12_tells_51 (by decide) (fun hc => ?_) (fun hc => ?_)
  · rw [if_pos hc] at h
    exact mm_sub [1, 2, 3, 4] rfl h
  · rw [if_neg hc] at h
    refine mm_iload (j := 5) dX12_tells_54 rfl ?_
    refine mm_bipush (x := 30) dX12_tells_56 rfl ?_
    refine mm_icmp_gt (tgt := 140) dX12_tells_58 (by decide) (fun hc => ?_) (fun hc => ?_)
    · rw [if_pos hc] at h
      exact mm_sub [1, 2, 3, 4] rfl h
    · rw [if_neg hc] at h
      refine mm_aload_n (j := 0) dX12_tells_61 rfl rfl ?_
      refine mm_getR (ci := 12) (N := 116) (r := 199) dX12_tells_62 fX12_118 sh_164 rfl (g_164_50 hG) ?_
      refine mm_iconst (x := 0) dX12_tells_65 rfl ?_
      refine mm_iaload (N := 204) dX12_tells_66 sh_199 (by decide) ?_
      refine mm_iload (j := 5) dX12_tells_67 rfl ?_
      refine mm_iadd dX12_tells_69 ?_
      refine mm_sipush (x := 999) dX12_tells_70 rfl ?_
      refine mm_icmp_ge (tgt := 140) dX12_tells_73 (by decide) (fun hc => ?_) (fun hc => ?_)
      · rw [if_pos hc] at h
        exact mm_sub [1, 2, 3, 4] rfl h
      · rw [if_neg hc] at h
        refine mm_iconst (x := 0) dX12_tells_76 rfl ?_
        refine mm_istore (lv' := [(7, .int 0), (0, .ref 164), (2, .int y2), (3, .int y3), (4, .int y4), (5, .int y5), (6, .int y6)]) dX12_tells_77 (by decide) rfl ?_
        exact mm_sub [1, 2, 3, 4, 5, 6, 0] rfl h
set_option maxRecDepth 100000 in
set_option maxHeartbeats 4000000 in
theorem lX12_tells_140 {d : Nat} {x1 : Int32} {x2 : Int32} {M : mm_M} {K : Int32 → mm_M → Prop} {y2 : Int32} {y3 : Int32} {y4 : Int32} {y5 : Int32} (hG : mm_G M.2.2) (h : if y3 = (-1) then (K (-1) M) else (if y2 = 0 then (K y3 M) else (if y2 = 1 then (K y4 M) else (K y5 M)))) : jX12_tells_140 d x1 x2 M K y2 y3 y4 y5 := by
  unfold jX12_tells_140
  refine mm_iload_n (j := 1) dX12_tells_140 rfl rfl ?_
  refine mm_iconst (x := (-1)) dX12_tells_141 rfl ?_
  refine mm_icmp_ne (tgt := 149) dX12_tells_142 (by decide) (fun hc => ?_) (fun hc => ?_)
  · rw [if_neg hc] at h
    refine mm_iload_n (j := 0) dX12_tells_149 rfl rfl ?_
    refine mm_if_ne (tgt := 157) dX12_tells_150 (by decide) (fun hc => ?_) (fun hc => ?_)
    · rw [if_neg hc] at h
      refine mm_iload_n (j := 0) dX12_tells_157 rfl rfl ?_
      refine mm_iconst (x := 1) dX12_tells_158 rfl ?_
      refine mm_icmp_ne (tgt := 167) dX12_tells_159 (by decide) (fun hc => ?_) (fun hc => ?_)
      · rw [if_neg hc] at h
        refine mm_iload (j := 3) dX12_tells_167 rfl ?_
        exact mm_iret dX12_tells_169 rfl (Nat.le_refl 0) (Nat.le_refl 0) ⟨_, rfl, rfl, hG, h⟩
      · rw [if_pos hc] at h
        refine mm_iload (j := 2) dX12_tells_162 rfl ?_
        refine mm_goto (tgt := 169) dX12_tells_164 (by decide) ?_
        exact mm_iret dX12_tells_169 rfl (Nat.le_refl 0) (Nat.le_refl 0) ⟨_, rfl, rfl, hG, h⟩
    · rw [if_pos hc] at h
      refine mm_iload_n (j := 1) dX12_tells_153 rfl rfl ?_
      refine mm_goto (tgt := 169) dX12_tells_154 (by decide) ?_
      exact mm_iret dX12_tells_169 rfl (Nat.le_refl 0) (Nat.le_refl 0) ⟨_, rfl, rfl, hG, h⟩
  · rw [if_pos hc] at h
    refine mm_iconst (x := (-1)) dX12_tells_145 rfl ?_
    refine mm_goto (tgt := 169) dX12_tells_146 (by decide) ?_
    exact mm_iret dX12_tells_169 rfl (Nat.le_refl 0) (Nat.le_refl 0) ⟨_, rfl, rfl, hG, h⟩
set_option maxRecDepth 100000 in
set_option maxHeartbeats 4000000 in
theorem lX12_tells_79 {d : Nat} {x1 : Int32} {x2 : Int32} {M : mm_M} {K : Int32 → mm_M → Prop} {y2 : Int32} {y3 : Int32} {y4 : Int32} {y5 : Int32} {y6 : Int32} {y7 : Int32} (hG : mm_G M.2.2) (h : mm_CI mX12_houseMany d [.ref 164] M (fun z82 m82 => if z82 ≤ y7 then (jX12_tells_47 d x1 x2 m82 K y2 y3 y4 y5 (y6 + 1)) else (mm_CI mX12_mostAlike d [.ref 164, .int ((7 * y6) + y7)] m82 (fun z97 m97 => if y3 = (-1) then (jX12_tells_79 d x1 x2 m97 K y2 y6 y7 z97 y6 (y7 + 1)) else (if z97 < y5 then (jX12_tells_79 d x1 x2 m97 K y2 y6 y7 z97 y6 (y7 + 1)) else (jX12_tells_79 d x1 x2 m97 K y2 y3 y4 y5 y6 (y7 + 1))))))) : jX12_tells_79 d x1 x2 M K y2 y3 y4 y5 y6 y7 := by
  unfold jX12_tells_79
  refine mm_iload (j := 6) dX12_tells_79 rfl ?_
  refine mm_aload_n (j := 0) dX12_tells_81 rfl rfl ?_
  refine mm_kVI [] dX12_tells_82 kX12_412 rfl sh_164 (by decide) (by decide) h (fun z82 m82 hG h => ?_)
  refine mm_icmp_ge (tgt := 134) dX12_tells_85 (by decide) (fun hc => ?_) (fun hc => ?_)
  · rw [if_pos hc] at h
    refine mm_iinc (j := 5) (v := y6 + 1) (lv' := [(6, .int (y6 + 1)), (0, .ref 164), (2, .int y2), (3, .int y3), (4, .int y4), (5, .int y5), (7, .int y7)]) dX12_tells_134 rfl rfl (by decide) rfl ?_
    refine mm_goto (tgt := 47) dX12_tells_137 (by decide) ?_
    exact mm_sub [1, 2, 3, 4, 5, 0] rfl h
  · rw [if_neg hc] at h
    refine mm_aload_n (j := 0) dX12_tells_88 rfl rfl ?_
    refine mm_bipush (x := 7) dX12_tells_89 rfl ?_
    refine mm_iload (j := 5) dX12_tells_91 rfl ?_
    refine mm_imul dX12_tells_93 ?_
    refine mm_iload (j := 6) dX12_tells_94 rfl ?_
    refine mm_iadd dX12_tells_96 ?_
    refine mm_kVI [.int ((7 * y6) + y7)] dX12_tells_97 kX12_619 rfl sh_164 (by decide) (by decide) h (fun z97 m97 hG h => ?_)
    refine mm_istore (lv' := [(8, .int z97), (0, .ref 164), (2, .int y2), (3, .int y3), (4, .int y4), (5, .int y5), (6, .int y6), (7, .int y7)]) dX12_tells_100 (by decide) rfl ?_
    refine mm_iload_n (j := 3) dX12_tells_102 rfl rfl ?_
    refine mm_iconst (x := (-1)) dX12_tells_103 rfl ?_
    refine mm_icmp_eq (tgt := 117) dX12_tells_104 (by decide) (fun hc => ?_) (fun hc => ?_)
    · rw [if_pos hc] at h
      refine mm_iload (j := 6) dX12_tells_117 rfl ?_
      refine mm_istore_n (lv' := [(3, .int y6), (8, .int z97), (0, .ref 164), (2, .int y2), (4, .int y4), (5, .int y5), (6, .int y6), (7, .int y7)]) dX12_tells_119 rfl (by decide) rfl ?_
      refine mm_iload (j := 7) dX12_tells_120 rfl ?_
      refine mm_istore (lv' := [(4, .int y7), (3, .int y6), (8, .int z97), (0, .ref 164), (2, .int y2), (5, .int y5), (6, .int y6), (7, .int y7)]) dX12_tells_122 (by decide) rfl ?_
      refine mm_iload (j := 2) dX12_tells_124 rfl ?_
      refine mm_istore (lv' := [(5, .int z97), (4, .int y7), (3, .int y6), (8, .int z97), (0, .ref 164), (2, .int y2), (6, .int y6), (7, .int y7)]) dX12_tells_126 (by decide) rfl ?_
      refine mm_iinc (j := 7) (v := y7 + 1) (lv' := [(7, .int (y7 + 1)), (5, .int z97), (4, .int y7), (3, .int y6), (8, .int z97), (0, .ref 164), (2, .int y2), (6, .int y6)]) dX12_tells_128 rfl rfl (by decide) rfl ?_
      refine mm_goto (tgt := 79) dX12_tells_131 (by decide) ?_
      exact mm_sub [5, 6, 3, 2, 1, 7, 0] rfl h
    · rw [if_neg hc] at h
      refine mm_iload (j := 0) dX12_tells_107 rfl ?_
      refine mm_iload (j := 5) dX12_tells_109 rfl ?_
      refine mm_icmp_lt (tgt := 117) dX12_tells_111 (by decide) (fun hc => ?_) (fun hc => ?_)
      · rw [if_pos hc] at h
        refine mm_iload (j := 6) dX12_tells_117 rfl ?_
        refine mm_istore_n (lv' := [(3, .int y6), (8, .int z97), (0, .ref 164), (2, .int y2), (4, .int y4), (5, .int y5), (6, .int y6), (7, .int y7)]) dX12_tells_119 rfl (by decide) rfl ?_
        refine mm_iload (j := 7) dX12_tells_120 rfl ?_
        refine mm_istore (lv' := [(4, .int y7), (3, .int y6), (8, .int z97), (0, .ref 164), (2, .int y2), (5, .int y5), (6, .int y6), (7, .int y7)]) dX12_tells_122 (by decide) rfl ?_
        refine mm_iload (j := 2) dX12_tells_124 rfl ?_
        refine mm_istore (lv' := [(5, .int z97), (4, .int y7), (3, .int y6), (8, .int z97), (0, .ref 164), (2, .int y2), (6, .int y6), (7, .int y7)]) dX12_tells_126 (by decide) rfl ?_
        refine mm_iinc (j := 7) (v := y7 + 1) (lv' := [(7, .int (y7 + 1)), (5, .int z97), (4, .int y7), (3, .int y6), (8, .int z97), (0, .ref 164), (2, .int y2), (6, .int y6)]) dX12_tells_128 rfl rfl (by decide) rfl ?_
        refine mm_goto (tgt := 79) dX12_tells_131 (by decide) ?_
        exact mm_sub [5, 6, 3, 2, 1, 7, 0] rfl h
      · rw [if_neg hc] at h
        refine mm_goto (tgt := 128) dX12_tells_114 (by decide) ?_
        refine mm_iinc (j := 7) (v := y7 + 1) (lv' := [(7, .int (y7 + 1)), (8, .int z97), (0, .ref 164), (2, .int y2), (3, .int y3), (4, .int y4), (5, .int y5), (6, .int y6)]) dX12_tells_128 rfl rfl (by decide) rfl ?_
        refine mm_goto (tgt := 79) dX12_tells_131 (by decide) ?_
        exact mm_sub [2, 3, 4, 5, 6, 7, 0] rfl h
def jX12_keeps_15 (d : Nat) (M : mm_M) (K : mm_M → Prop) (y1 : Int32) : Prop := mm_W mX12_keeps d 0 0 15 [(0, .ref 164), (1, .int y1)] [] mm_SH M 0 0 (mm_PV K)
set_option maxRecDepth 100000 in
set_option maxHeartbeats 4000000 in
theorem rX12_keeps {d : Nat} {M : mm_M} {K : mm_M → Prop} (hG : mm_G M.2.2) (h : jX12_keeps_15 d (mm_uI M 164 80 (((M.1 164 80) + 1) - ((M.1 164 80) + 1) / 20 * 20)) K 0) : mm_CV mX12_keeps d [.ref 164] M K := by
  show mm_W mX12_keeps d 0 0 0 [(0, .ref 164)] [] mm_SH M 0 0 (mm_PV K)
  refine mm_aload_n (j := 0) dX12_keeps_0 rfl rfl ?_
  refine mm_aload_n (j := 0) dX12_keeps_1 rfl rfl ?_
  refine mm_getI (ci := 12) (N := 116) dX12_keeps_2 fX12_622 sh_164 rfl ?_
  refine mm_iconst (x := 1) dX12_keeps_5 rfl ?_
  refine mm_iadd dX12_keeps_6 ?_
  refine mm_bipush (x := 20) dX12_keeps_7 rfl ?_
  refine mm_irem dX12_keeps_9 (by decide) ?_
  refine mm_putI (ci := 12) (N := 116) dX12_keeps_10 fX12_622 sh_164 (by decide +kernel) rfl rfl rfl ?_
  refine mm_iconst (x := 0) dX12_keeps_13 rfl ?_
  refine mm_istore_n (lv' := [(1, .int 0), (0, .ref 164)]) dX12_keeps_14 rfl (by decide) rfl ?_
  exact mm_sub [1, 0] rfl h
set_option maxRecDepth 100000 in
set_option maxHeartbeats 4000000 in
theorem lX12_keeps_15 {d : Nat} {M : mm_M} {K : mm_M → Prop} {y1 : Int32} (hG : mm_G M.2.2) (h : if 204 ≤ y1 then (if 20 ≤ (M.1 164 79) then (K M) else (K (mm_uI M 164 79 ((M.1 164 79) + 1)))) else (vp_in y1 204 ∧ vp_in ((204 * (M.1 164 80)) + y1) 4080 ∧ jX12_keeps_15 d (mm_uI M 216 ((204 * (M.1 164 80)) + y1).toNatClampNeg (M.1 199 (y1).toNatClampNeg)) K (y1 + 1))) : jX12_keeps_15 d  M K y1 := by
  unfold jX12_keeps_15
  refine mm_iload_n (j := 1) dX12_keeps_15 rfl rfl ?_
  refine mm_sipush (x := 204) dX12_keeps_16 rfl ?_
  refine mm_icmp_ge (tgt := 49) dX12_keeps_19 (by decide) (fun hc => ?_) (fun hc => ?_)
  · rw [if_pos hc] at h
    refine mm_aload_n (j := 0) dX12_keeps_49 rfl rfl ?_
    refine mm_getI (ci := 12) (N := 116) dX12_keeps_50 fX12_406 sh_164 rfl ?_
    refine mm_bipush (x := 20) dX12_keeps_53 rfl ?_
    refine mm_icmp_ge (tgt := 68) dX12_keeps_55 (by decide) (fun hc => ?_) (fun hc => ?_)
    · rw [if_pos hc] at h
      exact mm_vret dX12_keeps_68 rfl (Nat.le_refl 0) (Nat.le_refl 0) ⟨rfl, rfl, hG, h⟩
    · rw [if_neg hc] at h
      refine mm_aload_n (j := 0) dX12_keeps_58 rfl rfl ?_
      refine mm_dup dX12_keeps_59 rfl ?_
      refine mm_getI (ci := 12) (N := 116) dX12_keeps_60 fX12_406 sh_164 rfl ?_
      refine mm_iconst (x := 1) dX12_keeps_63 rfl ?_
      refine mm_iadd dX12_keeps_64 ?_
      refine mm_putI (ci := 12) (N := 116) dX12_keeps_65 fX12_406 sh_164 (by decide +kernel) rfl rfl rfl ?_
      exact mm_vret dX12_keeps_68 rfl (Nat.le_refl 0) (Nat.le_refl 0) ⟨rfl, rfl, hG, h⟩
  · rw [if_neg hc] at h
    refine mm_aload_n (j := 0) dX12_keeps_22 rfl rfl ?_
    refine mm_getR (ci := 12) (N := 116) (r := 216) dX12_keeps_23 fX12_170 sh_164 rfl (g_164_78 hG) ?_
    refine mm_sipush (x := 204) dX12_keeps_26 rfl ?_
    refine mm_aload_n (j := 0) dX12_keeps_29 rfl rfl ?_
    refine mm_getI (ci := 12) (N := 116) dX12_keeps_30 fX12_622 sh_164 rfl ?_
    refine mm_imul dX12_keeps_33 ?_
    refine mm_iload_n (j := 1) dX12_keeps_34 rfl rfl ?_
    refine mm_iadd dX12_keeps_35 ?_
    refine mm_aload_n (j := 0) dX12_keeps_36 rfl rfl ?_
    refine mm_getR (ci := 12) (N := 116) (r := 199) dX12_keeps_37 fX12_118 sh_164 rfl (g_164_50 hG) ?_
    refine mm_iload_n (j := 1) dX12_keeps_40 rfl rfl ?_
    obtain ⟨hi41, h⟩ := h
    refine mm_iaload (N := 204) dX12_keeps_41 sh_199 hi41 ?_
    obtain ⟨hi42, h⟩ := h
    refine mm_iastore (N := 4080) dX12_keeps_42 sh_216 hi42 ?_
    refine mm_iinc (j := 1) (v := y1 + 1) (lv' := [(1, .int (y1 + 1)), (0, .ref 164)]) dX12_keeps_43 rfl rfl (by decide) rfl ?_
    refine mm_goto (tgt := 15) dX12_keeps_46 (by decide) ?_
    exact mm_sub [1, 0] rfl h
def jX12_undo_21 (d : Nat) (M : mm_M) (K : Int32 → mm_M → Prop) (y1 : Int32) : Prop := mm_W mX12_undo d 0 0 21 [(0, .ref 164), (1, .int y1)] [] mm_SH M 0 0 (mm_PI K)
set_option maxRecDepth 100000 in
set_option maxHeartbeats 4000000 in
theorem rX12_undo {d : Nat} {M : mm_M} {K : Int32 → mm_M → Prop} (hG : mm_G M.2.2) (h : if (M.1 164 79) = 0 then (K 0 (mm_uI M 166 (4).toNatClampNeg ((M.1 166 (4).toNatClampNeg) + 1))) else (jX12_undo_21 d M K 0)) : mm_CI mX12_undo d [.ref 164] M K := by
  show mm_W mX12_undo d 0 0 0 [(0, .ref 164)] [] mm_SH M 0 0 (mm_PI K)
  refine mm_aload_n (j := 0) dX12_undo_0 rfl rfl ?_
  refine mm_getI (ci := 12) (N := 116) dX12_undo_1 fX12_406 sh_164 rfl ?_
  refine mm_if_ne (tgt := 19) dX12_undo_4 (by decide) (fun hc => ?_) (fun hc => ?_)
  · rw [if_neg hc] at h
    refine mm_iconst (x := 0) dX12_undo_19 rfl ?_
    refine mm_istore_n (lv' := [(1, .int 0), (0, .ref 164)]) dX12_undo_20 rfl (by decide) rfl ?_
    exact mm_sub [1, 0] rfl h
  · rw [if_pos hc] at h
    refine mm_aload_n (j := 0) dX12_undo_7 rfl rfl ?_
    refine mm_getR (ci := 12) (N := 116) (r := 166) dX12_undo_8 fX12_17 sh_164 rfl (g_164_9 hG) ?_
    refine mm_iconst (x := 4) dX12_undo_11 rfl ?_
    refine mm_dup2 dX12_undo_12 rfl rfl ?_
    refine mm_iaload (N := 6) dX12_undo_13 sh_166 (by decide) ?_
    refine mm_iconst (x := 1) dX12_undo_14 rfl ?_
    refine mm_iadd dX12_undo_15 ?_
    refine mm_iastore (N := 6) dX12_undo_16 sh_166 (by decide) ?_
    refine mm_iconst (x := 0) dX12_undo_17 rfl ?_
    exact mm_zret dX12_undo_18 rfl rfl (Nat.le_refl 0) (Nat.le_refl 0) ⟨_, rfl, rfl, hG, h⟩
set_option maxRecDepth 100000 in
set_option maxHeartbeats 4000000 in
theorem lX12_undo_21 {d : Nat} {M : mm_M} {K : Int32 → mm_M → Prop} {y1 : Int32} (hG : mm_G M.2.2) (h : if 204 ≤ y1 then (K 1 (mm_uI (mm_uI M 164 80 ((((M.1 164 80) + 20) - 1) - (((M.1 164 80) + 20) - 1) / 20 * 20)) 164 79 (((mm_uI M 164 80 ((((M.1 164 80) + 20) - 1) - (((M.1 164 80) + 20) - 1) / 20 * 20)).1 164 79) - 1))) else (vp_in ((204 * (M.1 164 80)) + y1) 4080 ∧ vp_in y1 204 ∧ jX12_undo_21 d (mm_uI M 199 (y1).toNatClampNeg (M.1 216 ((204 * (M.1 164 80)) + y1).toNatClampNeg)) K (y1 + 1))) : jX12_undo_21 d  M K y1 := by
  unfold jX12_undo_21
  refine mm_iload_n (j := 1) dX12_undo_21 rfl rfl ?_
  refine mm_sipush (x := 204) dX12_undo_22 rfl ?_
  refine mm_icmp_ge (tgt := 55) dX12_undo_25 (by decide) (fun hc => ?_) (fun hc => ?_)
  · rw [if_pos hc] at h
    refine mm_aload_n (j := 0) dX12_undo_55 rfl rfl ?_
    refine mm_aload_n (j := 0) dX12_undo_56 rfl rfl ?_
    refine mm_getI (ci := 12) (N := 116) dX12_undo_57 fX12_622 sh_164 rfl ?_
    refine mm_bipush (x := 20) dX12_undo_60 rfl ?_
    refine mm_iadd dX12_undo_62 ?_
    refine mm_iconst (x := 1) dX12_undo_63 rfl ?_
    refine mm_isub dX12_undo_64 ?_
    refine mm_bipush (x := 20) dX12_undo_65 rfl ?_
    refine mm_irem dX12_undo_67 (by decide) ?_
    refine mm_putI (ci := 12) (N := 116) dX12_undo_68 fX12_622 sh_164 (by decide +kernel) rfl rfl rfl ?_
    refine mm_aload_n (j := 0) dX12_undo_71 rfl rfl ?_
    refine mm_dup dX12_undo_72 rfl ?_
    refine mm_getI (ci := 12) (N := 116) dX12_undo_73 fX12_406 sh_164 rfl ?_
    refine mm_iconst (x := 1) dX12_undo_76 rfl ?_
    refine mm_isub dX12_undo_77 ?_
    refine mm_putI (ci := 12) (N := 116) dX12_undo_78 fX12_406 sh_164 (by decide +kernel) rfl rfl rfl ?_
    refine mm_iconst (x := 1) dX12_undo_81 rfl ?_
    exact mm_zret dX12_undo_82 rfl rfl (Nat.le_refl 0) (Nat.le_refl 0) ⟨_, rfl, rfl, hG, h⟩
  · rw [if_neg hc] at h
    refine mm_aload_n (j := 0) dX12_undo_28 rfl rfl ?_
    refine mm_getR (ci := 12) (N := 116) (r := 199) dX12_undo_29 fX12_118 sh_164 rfl (g_164_50 hG) ?_
    refine mm_iload_n (j := 1) dX12_undo_32 rfl rfl ?_
    refine mm_aload_n (j := 0) dX12_undo_33 rfl rfl ?_
    refine mm_getR (ci := 12) (N := 116) (r := 216) dX12_undo_34 fX12_170 sh_164 rfl (g_164_78 hG) ?_
    refine mm_sipush (x := 204) dX12_undo_37 rfl ?_
    refine mm_aload_n (j := 0) dX12_undo_40 rfl rfl ?_
    refine mm_getI (ci := 12) (N := 116) dX12_undo_41 fX12_622 sh_164 rfl ?_
    refine mm_imul dX12_undo_44 ?_
    refine mm_iload_n (j := 1) dX12_undo_45 rfl rfl ?_
    refine mm_iadd dX12_undo_46 ?_
    obtain ⟨hi47, h⟩ := h
    refine mm_iaload (N := 4080) dX12_undo_47 sh_216 hi47 ?_
    obtain ⟨hi48, h⟩ := h
    refine mm_iastore (N := 204) dX12_undo_48 sh_199 hi48 ?_
    refine mm_iinc (j := 1) (v := y1 + 1) (lv' := [(1, .int (y1 + 1)), (0, .ref 164)]) dX12_undo_49 rfl rfl (by decide) rfl ?_
    refine mm_goto (tgt := 21) dX12_undo_52 (by decide) ?_
    exact mm_sub [1, 0] rfl h
set_option maxRecDepth 100000 in
set_option maxHeartbeats 4000000 in
theorem rX12_isRefused {d : Nat} {M : mm_M} {K : Int32 → mm_M → Prop} (hG : mm_G M.2.2) (h : K 0 (mm_uI M 166 (2).toNatClampNeg ((M.1 166 (2).toNatClampNeg) + 1))) : mm_CI mX12_isRefused d [.ref 164] M K := by
  show mm_W mX12_isRefused d 0 0 0 [(0, .ref 164)] [] mm_SH M 0 0 (mm_PI K)
  refine mm_aload_n (j := 0) dX12_isRefused_0 rfl rfl ?_
  refine mm_getR (ci := 12) (N := 116) (r := 166) dX12_isRefused_1 fX12_17 sh_164 rfl (g_164_9 hG) ?_
  refine mm_iconst (x := 2) dX12_isRefused_4 rfl ?_
  refine mm_dup2 dX12_isRefused_5 rfl rfl ?_
  refine mm_iaload (N := 6) dX12_isRefused_6 sh_166 (by decide) ?_
  refine mm_iconst (x := 1) dX12_isRefused_7 rfl ?_
  refine mm_iadd dX12_isRefused_8 ?_
  refine mm_iastore (N := 6) dX12_isRefused_9 sh_166 (by decide) ?_
  refine mm_iconst (x := 0) dX12_isRefused_10 rfl ?_
  exact mm_zret dX12_isRefused_11 rfl rfl (Nat.le_refl 0) (Nat.le_refl 0) ⟨_, rfl, rfl, hG, h⟩
set_option maxRecDepth 100000 in
set_option maxHeartbeats 4000000 in
theorem rX12_feud {d : Nat} {x1 : Int32} {x2 : Int32} {x3 : Int32} {M : mm_M} {K : Int32 → mm_M → Prop} (hG : mm_G M.2.2) (h : mm_CI mX12_areTwo d [.ref 164, .int x1, .int x2] M (fun z3 m3 => if z3 = 0 then (mm_CI mX12_isRefused d [.ref 164] m3 (fun z48 m48 => (z48 = 0 ∨ z48 = 1) ∧ K z48 m48)) else (mm_CI mX12_isThere d [.ref 164, .int x1] m3 (fun z11 m11 => if z11 = 0 then (mm_CI mX12_isRefused d [.ref 164] m11 (fun z48 m48 => (z48 = 0 ∨ z48 = 1) ∧ K z48 m48)) else (mm_CI mX12_isThere d [.ref 164, .int x2] m11 (fun z19 m19 => if z19 = 0 then (mm_CI mX12_isRefused d [.ref 164] m19 (fun z48 m48 => (z48 = 0 ∨ z48 = 1) ∧ K z48 m48)) else (mm_CI mX12_isIn d [.long x3.toInt64, .long 0, .long 99] m19 (fun z31 m31 => if z31 = 0 then (mm_CI mX12_isRefused d [.ref 164] m31 (fun z48 m48 => (z48 = 0 ∨ z48 = 1) ∧ K z48 m48)) else (mm_CI mX12_hateOf d [.ref 164, .int x1, .int x2] m31 (fun z40 m40 => if z40 = x3 then (mm_CI mX12_isRefused d [.ref 164] m40 (fun z48 m48 => (z48 = 0 ∨ z48 = 1) ∧ K z48 m48)) else (mm_CV mX12_keeps d [.ref 164] m40 (fun m53 => mm_CI mX12_pairOf d [.int x1, .int x2] m53 (fun z64 m64 => vp_in (22 + z64) 204 ∧ K 1 (mm_uI m64 199 (22 + z64).toNatClampNeg x3)))))))))))))) : mm_CI mX12_feud (d + 1) [.ref 164, .int x1, .int x2, .int x3] M K := by
  show mm_W mX12_feud (d + 1) 0 0 0 [(0, .ref 164), (1, .int x1), (2, .int x2), (3, .int x3)] [] mm_SH M 0 0 (mm_PI K)
  refine mm_aload_n (j := 0) dX12_feud_0 rfl rfl ?_
  refine mm_iload_n (j := 1) dX12_feud_1 rfl rfl ?_
  refine mm_iload_n (j := 2) dX12_feud_2 rfl rfl ?_
  refine mm_kVI [.int x1, .int x2] dX12_feud_3 kX12_541 rfl sh_164 (by decide) (by decide) h (fun z3 m3 hG h => ?_)
  refine mm_if_eq (tgt := 47) dX12_feud_6 (by decide) (fun hc => ?_) (fun hc => ?_)
  · rw [if_pos hc] at h
    refine mm_aload_n (j := 0) dX12_feud_47 rfl rfl ?_
    refine mm_kVI [] dX12_feud_48 kX12_625 rfl sh_164 (by decide) (by decide) h (fun z48 m48 hG h => ?_)
    obtain ⟨hb, h⟩ := h
    exact mm_zret dX12_feud_51 rfl (mm_nb hb) (Nat.le_refl 0) (Nat.le_refl 0) ⟨_, rfl, rfl, hG, h⟩
  · rw [if_neg hc] at h
    refine mm_aload_n (j := 0) dX12_feud_9 rfl rfl ?_
    refine mm_iload_n (j := 1) dX12_feud_10 rfl rfl ?_
    refine mm_kVI [.int x1] dX12_feud_11 kX12_462 rfl sh_164 (by decide) (by decide) h (fun z11 m11 hG h => ?_)
    refine mm_if_eq (tgt := 47) dX12_feud_14 (by decide) (fun hc => ?_) (fun hc => ?_)
    · rw [if_pos hc] at h
      refine mm_aload_n (j := 0) dX12_feud_47 rfl rfl ?_
      refine mm_kVI [] dX12_feud_48 kX12_625 rfl sh_164 (by decide) (by decide) h (fun z48 m48 hG h => ?_)
      obtain ⟨hb, h⟩ := h
      exact mm_zret dX12_feud_51 rfl (mm_nb hb) (Nat.le_refl 0) (Nat.le_refl 0) ⟨_, rfl, rfl, hG, h⟩
    · rw [if_neg hc] at h
      refine mm_aload_n (j := 0) dX12_feud_17 rfl rfl ?_
      refine mm_iload_n (j := 2) dX12_feud_18 rfl rfl ?_
      refine mm_kVI [.int x2] dX12_feud_19 kX12_462 rfl sh_164 (by decide) (by decide) h (fun z19 m19 hG h => ?_)
      refine mm_if_eq (tgt := 47) dX12_feud_22 (by decide) (fun hc => ?_) (fun hc => ?_)
      · rw [if_pos hc] at h
        refine mm_aload_n (j := 0) dX12_feud_47 rfl rfl ?_
        refine mm_kVI [] dX12_feud_48 kX12_625 rfl sh_164 (by decide) (by decide) h (fun z48 m48 hG h => ?_)
        obtain ⟨hb, h⟩ := h
        exact mm_zret dX12_feud_51 rfl (mm_nb hb) (Nat.le_refl 0) (Nat.le_refl 0) ⟨_, rfl, rfl, hG, h⟩
      · rw [if_neg hc] at h
        refine mm_iload_n (j := 3) dX12_feud_25 rfl rfl ?_
        refine mm_i2l dX12_feud_26 ?_
        refine mm_lconst (x := 0) dX12_feud_27 rfl ?_
        refine mm_ldc2 (x := 99) dX12_feud_28 cX12_255 ?_
        refine mm_kSI [.long x3.toInt64, .long 0, .long 99] dX12_feud_31 kX12_303 rfl (by decide) (by decide) h (fun z31 m31 hG h => ?_)
        refine mm_if_eq (tgt := 47) dX12_feud_34 (by decide) (fun hc => ?_) (fun hc => ?_)
        · rw [if_pos hc] at h
          refine mm_aload_n (j := 0) dX12_feud_47 rfl rfl ?_
          refine mm_kVI [] dX12_feud_48 kX12_625 rfl sh_164 (by decide) (by decide) h (fun z48 m48 hG h => ?_)
          obtain ⟨hb, h⟩ := h
          exact mm_zret dX12_feud_51 rfl (mm_nb hb) (Nat.le_refl 0) (Nat.le_refl 0) ⟨_, rfl, rfl, hG, h⟩
        · rw [if_neg hc] at h
          refine mm_aload_n (j := 0) dX12_feud_37 rfl rfl ?_
          refine mm_iload_n (j := 1) dX12_feud_38 rfl rfl ?_
          refine mm_iload_n (j := 2) dX12_feud_39 rfl rfl ?_
          refine mm_kVI [.int x1, .int x2] dX12_feud_40 kX12_415 rfl sh_164 (by decide) (by decide) h (fun z40 m40 hG h => ?_)
          refine mm_iload_n (j := 3) dX12_feud_43 rfl rfl ?_
          refine mm_icmp_ne (tgt := 52) dX12_feud_44 (by decide) (fun hc => ?_) (fun hc => ?_)
          · rw [if_neg hc] at h
            refine mm_aload_n (j := 0) dX12_feud_52 rfl rfl ?_
            refine mm_kVV [] dX12_feud_53 kX12_628 rfl sh_164 (by decide) (by decide) h (fun m53 hG h => ?_)
            refine mm_aload_n (j := 0) dX12_feud_56 rfl rfl ?_
            refine mm_getR (ci := 12) (N := 116) (r := 199) dX12_feud_57 fX12_118 sh_164 rfl (g_164_50 hG) ?_
            refine mm_bipush (x := 22) dX12_feud_60 rfl ?_
            refine mm_iload_n (j := 1) dX12_feud_62 rfl rfl ?_
            refine mm_iload_n (j := 2) dX12_feud_63 rfl rfl ?_
            refine mm_kSI [.int x1, .int x2] dX12_feud_64 kX12_347 rfl (by decide) (by decide) h (fun z64 m64 hG h => ?_)
            refine mm_iadd dX12_feud_67 ?_
            refine mm_iload_n (j := 3) dX12_feud_68 rfl rfl ?_
            obtain ⟨hi69, h⟩ := h
            refine mm_iastore (N := 204) dX12_feud_69 sh_199 hi69 ?_
            refine mm_iconst (x := 1) dX12_feud_70 rfl ?_
            exact mm_zret dX12_feud_71 rfl rfl (Nat.le_refl 0) (Nat.le_refl 0) ⟨_, rfl, rfl, hG, h⟩
          · rw [if_pos hc] at h
            refine mm_aload_n (j := 0) dX12_feud_47 rfl rfl ?_
            refine mm_kVI [] dX12_feud_48 kX12_625 rfl sh_164 (by decide) (by decide) h (fun z48 m48 hG h => ?_)
            obtain ⟨hb, h⟩ := h
            exact mm_zret dX12_feud_51 rfl (mm_nb hb) (Nat.le_refl 0) (Nat.le_refl 0) ⟨_, rfl, rfl, hG, h⟩
set_option maxRecDepth 100000 in
set_option maxHeartbeats 4000000 in
theorem rX12_bring {d : Nat} {x1 : Int32} {x2 : Int32} {M : mm_M} {K : Int32 → mm_M → Prop} (hG : mm_G M.2.2) (h : mm_CI mX12_isHouse d [.ref 164, .long x1.toInt64] M (fun z3 m3 => if z3 = 0 then (mm_CI mX12_isRefused d [.ref 164] m3 (fun z39 m39 => (z39 = 0 ∨ z39 = 1) ∧ K z39 m39)) else (mm_CI mX12_isThere d [.ref 164, .int x1] m3 (fun z11 m11 => if z11 = 0 then (mm_CI mX12_isRefused d [.ref 164] m11 (fun z39 m39 => (z39 = 0 ∨ z39 = 1) ∧ K z39 m39)) else (mm_CI mX12_isIn d [.long x2.toInt64, .long 0, .long 99] m11 (fun z23 m23 => if z23 = 0 then (mm_CI mX12_isRefused d [.ref 164] m23 (fun z39 m39 => (z39 = 0 ∨ z39 = 1) ∧ K z39 m39)) else (mm_CI mX12_flourOf d [.ref 164, .int x1] m23 (fun z31 m31 => if z31 = x2 then (mm_CI mX12_isRefused d [.ref 164] m31 (fun z39 m39 => (z39 = 0 ∨ z39 = 1) ∧ K z39 m39)) else (mm_CV mX12_keeps d [.ref 164] m31 (fun m44 => vp_in (2 + (3 * x1)) 204 ∧ K 1 (mm_uI m44 199 (2 + (3 * x1)).toNatClampNeg x2))))))))))) : mm_CI mX12_bring (d + 1) [.ref 164, .int x1, .int x2] M K := by
  show mm_W mX12_bring (d + 1) 0 0 0 [(0, .ref 164), (1, .int x1), (2, .int x2)] [] mm_SH M 0 0 (mm_PI K)
  refine mm_aload_n (j := 0) dX12_bring_0 rfl rfl ?_
  refine mm_iload_n (j := 1) dX12_bring_1 rfl rfl ?_
  refine mm_i2l dX12_bring_2 ?_
  refine mm_kVI [.long x1.toInt64] dX12_bring_3 kX12_534 rfl sh_164 (by decide) (by decide) h (fun z3 m3 hG h => ?_)
  refine mm_if_eq (tgt := 38) dX12_bring_6 (by decide) (fun hc => ?_) (fun hc => ?_)
  · rw [if_pos hc] at h
    refine mm_aload_n (j := 0) dX12_bring_38 rfl rfl ?_
    refine mm_kVI [] dX12_bring_39 kX12_625 rfl sh_164 (by decide) (by decide) h (fun z39 m39 hG h => ?_)
    obtain ⟨hb, h⟩ := h
    exact mm_zret dX12_bring_42 rfl (mm_nb hb) (Nat.le_refl 0) (Nat.le_refl 0) ⟨_, rfl, rfl, hG, h⟩
  · rw [if_neg hc] at h
    refine mm_aload_n (j := 0) dX12_bring_9 rfl rfl ?_
    refine mm_iload_n (j := 1) dX12_bring_10 rfl rfl ?_
    refine mm_kVI [.int x1] dX12_bring_11 kX12_462 rfl sh_164 (by decide) (by decide) h (fun z11 m11 hG h => ?_)
    refine mm_if_eq (tgt := 38) dX12_bring_14 (by decide) (fun hc => ?_) (fun hc => ?_)
    · rw [if_pos hc] at h
      refine mm_aload_n (j := 0) dX12_bring_38 rfl rfl ?_
      refine mm_kVI [] dX12_bring_39 kX12_625 rfl sh_164 (by decide) (by decide) h (fun z39 m39 hG h => ?_)
      obtain ⟨hb, h⟩ := h
      exact mm_zret dX12_bring_42 rfl (mm_nb hb) (Nat.le_refl 0) (Nat.le_refl 0) ⟨_, rfl, rfl, hG, h⟩
    · rw [if_neg hc] at h
      refine mm_iload_n (j := 2) dX12_bring_17 rfl rfl ?_
      refine mm_i2l dX12_bring_18 ?_
      refine mm_lconst (x := 0) dX12_bring_19 rfl ?_
      refine mm_ldc2 (x := 99) dX12_bring_20 cX12_255 ?_
      refine mm_kSI [.long x2.toInt64, .long 0, .long 99] dX12_bring_23 kX12_303 rfl (by decide) (by decide) h (fun z23 m23 hG h => ?_)
      refine mm_if_eq (tgt := 38) dX12_bring_26 (by decide) (fun hc => ?_) (fun hc => ?_)
      · rw [if_pos hc] at h
        refine mm_aload_n (j := 0) dX12_bring_38 rfl rfl ?_
        refine mm_kVI [] dX12_bring_39 kX12_625 rfl sh_164 (by decide) (by decide) h (fun z39 m39 hG h => ?_)
        obtain ⟨hb, h⟩ := h
        exact mm_zret dX12_bring_42 rfl (mm_nb hb) (Nat.le_refl 0) (Nat.le_refl 0) ⟨_, rfl, rfl, hG, h⟩
      · rw [if_neg hc] at h
        refine mm_aload_n (j := 0) dX12_bring_29 rfl rfl ?_
        refine mm_iload_n (j := 1) dX12_bring_30 rfl rfl ?_
        refine mm_kVI [.int x1] dX12_bring_31 kX12_465 rfl sh_164 (by decide) (by decide) h (fun z31 m31 hG h => ?_)
        refine mm_iload_n (j := 2) dX12_bring_34 rfl rfl ?_
        refine mm_icmp_ne (tgt := 43) dX12_bring_35 (by decide) (fun hc => ?_) (fun hc => ?_)
        · rw [if_neg hc] at h
          refine mm_aload_n (j := 0) dX12_bring_43 rfl rfl ?_
          refine mm_kVV [] dX12_bring_44 kX12_628 rfl sh_164 (by decide) (by decide) h (fun m44 hG h => ?_)
          refine mm_aload_n (j := 0) dX12_bring_47 rfl rfl ?_
          refine mm_getR (ci := 12) (N := 116) (r := 199) dX12_bring_48 fX12_118 sh_164 rfl (g_164_50 hG) ?_
          refine mm_iconst (x := 2) dX12_bring_51 rfl ?_
          refine mm_iconst (x := 3) dX12_bring_52 rfl ?_
          refine mm_iload_n (j := 1) dX12_bring_53 rfl rfl ?_
          refine mm_imul dX12_bring_54 ?_
          refine mm_iadd dX12_bring_55 ?_
          refine mm_iload_n (j := 2) dX12_bring_56 rfl rfl ?_
          obtain ⟨hi57, h⟩ := h
          refine mm_iastore (N := 204) dX12_bring_57 sh_199 hi57 ?_
          refine mm_iconst (x := 1) dX12_bring_58 rfl ?_
          exact mm_zret dX12_bring_59 rfl rfl (Nat.le_refl 0) (Nat.le_refl 0) ⟨_, rfl, rfl, hG, h⟩
        · rw [if_pos hc] at h
          refine mm_aload_n (j := 0) dX12_bring_38 rfl rfl ?_
          refine mm_kVI [] dX12_bring_39 kX12_625 rfl sh_164 (by decide) (by decide) h (fun z39 m39 hG h => ?_)
          obtain ⟨hb, h⟩ := h
          exact mm_zret dX12_bring_42 rfl (mm_nb hb) (Nat.le_refl 0) (Nat.le_refl 0) ⟨_, rfl, rfl, hG, h⟩
set_option maxRecDepth 100000 in
set_option maxHeartbeats 4000000 in
theorem rX12_days {d : Nat} {x1 : Int32} {M : mm_M} {K : Int32 → mm_M → Prop} (hG : mm_G M.2.2) (h : mm_CI mX12_isAhead d [.ref 164, .int x1, .int 1, .int 100] M (fun z5 m5 => if z5 = 0 then (mm_CI mX12_refuses d [.ref 164, .int 3] m5 (fun z13 m13 => K z13 m13)) else (mm_CV mX12_keeps d [.ref 164] m5 (fun m18 => mm_CV mX12_daysGo d [.ref 164, .int x1] (mm_uI m18 164 58 0) (fun m28 => K (m28.1 164 58) m28))))) : mm_CI mX12_days (d + 1) [.ref 164, .int x1] M K := by
  show mm_W mX12_days (d + 1) 0 0 0 [(0, .ref 164), (1, .int x1)] [] mm_SH M 0 0 (mm_PI K)
  refine mm_aload_n (j := 0) dX12_days_0 rfl rfl ?_
  refine mm_iload_n (j := 1) dX12_days_1 rfl rfl ?_
  refine mm_iconst (x := 1) dX12_days_2 rfl ?_
  refine mm_bipush (x := 100) dX12_days_3 rfl ?_
  refine mm_kVI [.int x1, .int 1, .int 100] dX12_days_5 kX12_550 rfl sh_164 (by decide) (by decide) h (fun z5 m5 hG h => ?_)
  refine mm_if_ne (tgt := 17) dX12_days_8 (by decide) (fun hc => ?_) (fun hc => ?_)
  · rw [if_neg hc] at h
    refine mm_aload_n (j := 0) dX12_days_17 rfl rfl ?_
    refine mm_kVV [] dX12_days_18 kX12_628 rfl sh_164 (by decide) (by decide) h (fun m18 hG h => ?_)
    refine mm_aload_n (j := 0) dX12_days_21 rfl rfl ?_
    refine mm_iconst (x := 0) dX12_days_22 rfl ?_
    refine mm_putI (ci := 12) (N := 116) dX12_days_23 fX12_489 sh_164 (by decide +kernel) rfl rfl rfl ?_
    refine mm_aload_n (j := 0) dX12_days_26 rfl rfl ?_
    refine mm_iload_n (j := 1) dX12_days_27 rfl rfl ?_
    refine mm_kVV [.int x1] dX12_days_28 kX12_556 rfl sh_164 (by decide) (by decide) h (fun m28 hG h => ?_)
    refine mm_aload_n (j := 0) dX12_days_31 rfl rfl ?_
    refine mm_getI (ci := 12) (N := 116) dX12_days_32 fX12_489 sh_164 rfl ?_
    exact mm_iret dX12_days_35 rfl (Nat.le_refl 0) (Nat.le_refl 0) ⟨_, rfl, rfl, hG, h⟩
  · rw [if_pos hc] at h
    refine mm_aload_n (j := 0) dX12_days_11 rfl rfl ?_
    refine mm_iconst (x := 3) dX12_days_12 rfl ?_
    refine mm_kVI [.int 3] dX12_days_13 kX12_604 rfl sh_164 (by decide) (by decide) h (fun z13 m13 hG h => ?_)
    exact mm_iret dX12_days_16 rfl (Nat.le_refl 0) (Nat.le_refl 0) ⟨_, rfl, rfl, hG, h⟩
set_option maxRecDepth 100000 in
set_option maxHeartbeats 4000000 in
theorem rX12_seed {d : Nat} {x1 : Int32} {M : mm_M} {K : Int32 → mm_M → Prop} (hG : mm_G M.2.2) (h : if 0 ≤ x1 then (K 1 (mm_uL M 164 81 x1.toInt64)) else (K 0 (mm_uI M 166 (5).toNatClampNeg ((M.1 166 (5).toNatClampNeg) + 1)))) : mm_CI mX12_seed d [.ref 164, .int x1] M K := by
  show mm_W mX12_seed d 0 0 0 [(0, .ref 164), (1, .int x1)] [] mm_SH M 0 0 (mm_PI K)
  refine mm_iload_n (j := 1) dX12_seed_0 rfl rfl ?_
  refine mm_if_ge (tgt := 16) dX12_seed_1 (by decide) (fun hc => ?_) (fun hc => ?_)
  · rw [if_pos hc] at h
    refine mm_aload_n (j := 0) dX12_seed_16 rfl rfl ?_
    refine mm_iload_n (j := 1) dX12_seed_17 rfl rfl ?_
    refine mm_i2l dX12_seed_18 ?_
    refine mm_putL (ci := 12) (N := 116) dX12_seed_19 fX12_173 sh_164 (by decide +kernel) rfl ?_
    refine mm_iconst (x := 1) dX12_seed_22 rfl ?_
    exact mm_zret dX12_seed_23 rfl rfl (Nat.le_refl 0) (Nat.le_refl 0) ⟨_, rfl, rfl, hG, h⟩
  · rw [if_neg hc] at h
    refine mm_aload_n (j := 0) dX12_seed_4 rfl rfl ?_
    refine mm_getR (ci := 12) (N := 116) (r := 166) dX12_seed_5 fX12_17 sh_164 rfl (g_164_9 hG) ?_
    refine mm_iconst (x := 5) dX12_seed_8 rfl ?_
    refine mm_dup2 dX12_seed_9 rfl rfl ?_
    refine mm_iaload (N := 6) dX12_seed_10 sh_166 (by decide) ?_
    refine mm_iconst (x := 1) dX12_seed_11 rfl ?_
    refine mm_iadd dX12_seed_12 ?_
    refine mm_iastore (N := 6) dX12_seed_13 sh_166 (by decide) ?_
    refine mm_iconst (x := 0) dX12_seed_14 rfl ?_
    exact mm_zret dX12_seed_15 rfl rfl (Nat.le_refl 0) (Nat.le_refl 0) ⟨_, rfl, rfl, hG, h⟩
set_option maxRecDepth 100000 in
set_option maxHeartbeats 4000000 in
theorem rX12_drawOf {d : Nat} {x1 : Int32} {M : mm_M} {K : Int32 → mm_M → Prop} (hG : mm_G M.2.2) (h : ¬ x1.toInt64 = 0 ∧ K (((((mm_uL M 164 81 (((1103515245 * (M.2.1 164 81)) + 12345) - ((1103515245 * (M.2.1 164 81)) + 12345) / 2147483648 * 2147483648)).2.1 164 81) / 64) - (((mm_uL M 164 81 (((1103515245 * (M.2.1 164 81)) + 12345) - ((1103515245 * (M.2.1 164 81)) + 12345) / 2147483648 * 2147483648)).2.1 164 81) / 64) / x1.toInt64 * x1.toInt64).toInt32) (mm_uL M 164 81 (((1103515245 * (M.2.1 164 81)) + 12345) - ((1103515245 * (M.2.1 164 81)) + 12345) / 2147483648 * 2147483648))) : mm_CI mX12_drawOf d [.ref 164, .int x1] M K := by
  show mm_W mX12_drawOf d 0 0 0 [(0, .ref 164), (1, .int x1)] [] mm_SH M 0 0 (mm_PI K)
  refine mm_aload_n (j := 0) dX12_drawOf_0 rfl rfl ?_
  refine mm_ldc2 (x := 1103515245) dX12_drawOf_1 cX12_631 ?_
  refine mm_aload_n (j := 0) dX12_drawOf_4 rfl rfl ?_
  refine mm_getL (ci := 12) (N := 116) dX12_drawOf_5 fX12_173 sh_164 rfl ?_
  refine mm_lmul dX12_drawOf_8 ?_
  refine mm_ldc2 (x := 12345) dX12_drawOf_9 cX12_633 ?_
  refine mm_ladd dX12_drawOf_12 ?_
  refine mm_ldc2 (x := 2147483648) dX12_drawOf_13 cX12_635 ?_
  refine mm_lrem dX12_drawOf_16 (by decide) ?_
  refine mm_putL (ci := 12) (N := 116) dX12_drawOf_17 fX12_173 sh_164 (by decide +kernel) rfl ?_
  refine mm_aload_n (j := 0) dX12_drawOf_20 rfl rfl ?_
  refine mm_getL (ci := 12) (N := 116) dX12_drawOf_21 fX12_173 sh_164 rfl ?_
  refine mm_ldc2 (x := 64) dX12_drawOf_24 cX12_637 ?_
  refine mm_ldiv dX12_drawOf_27 (by decide) ?_
  refine mm_iload_n (j := 1) dX12_drawOf_28 rfl rfl ?_
  refine mm_i2l dX12_drawOf_29 ?_
  obtain ⟨hz30, h⟩ := h
  refine mm_lrem dX12_drawOf_30 hz30 ?_
  refine mm_l2i dX12_drawOf_31 ?_
  exact mm_iret dX12_drawOf_32 rfl (Nat.le_refl 0) (Nat.le_refl 0) ⟨_, rfl, rfl, hG, h⟩
def jX12_chance_25 (d : Nat) (x1 : Int32) (M : mm_M) (K : Int32 → mm_M → Prop) (y1 : Int32) (y2 : Int32) (y3 : Int32) : Prop := mm_W mX12_chance (d + 1) 0 0 25 [(0, .ref 164), (1, .int y1), (2, .int y2), (3, .int y3)] [] mm_SH M 0 0 (mm_PI K)
set_option maxRecDepth 100000 in
set_option maxHeartbeats 4000000 in
theorem rX12_chance {d : Nat} {x1 : Int32} {M : mm_M} {K : Int32 → mm_M → Prop} (hG : mm_G M.2.2) (h : mm_CI mX12_isAhead d [.ref 164, .int x1, .int 1, .int 100] M (fun z5 m5 => if z5 = 0 then (mm_CI mX12_refuses d [.ref 164, .int 3] m5 (fun z13 m13 => K z13 m13)) else (mm_CV mX12_keeps d [.ref 164] m5 (fun m18 => jX12_chance_25 d x1 m18 K x1 0 0)))) : mm_CI mX12_chance (d + 1) [.ref 164, .int x1] M K := by
  show mm_W mX12_chance (d + 1) 0 0 0 [(0, .ref 164), (1, .int x1)] [] mm_SH M 0 0 (mm_PI K)
  refine mm_aload_n (j := 0) dX12_chance_0 rfl rfl ?_
  refine mm_iload_n (j := 1) dX12_chance_1 rfl rfl ?_
  refine mm_iconst (x := 1) dX12_chance_2 rfl ?_
  refine mm_bipush (x := 100) dX12_chance_3 rfl ?_
  refine mm_kVI [.int x1, .int 1, .int 100] dX12_chance_5 kX12_550 rfl sh_164 (by decide) (by decide) h (fun z5 m5 hG h => ?_)
  refine mm_if_ne (tgt := 17) dX12_chance_8 (by decide) (fun hc => ?_) (fun hc => ?_)
  · rw [if_neg hc] at h
    refine mm_aload_n (j := 0) dX12_chance_17 rfl rfl ?_
    refine mm_kVV [] dX12_chance_18 kX12_628 rfl sh_164 (by decide) (by decide) h (fun m18 hG h => ?_)
    refine mm_iconst (x := 0) dX12_chance_21 rfl ?_
    refine mm_istore_n (lv' := [(2, .int 0), (0, .ref 164), (1, .int x1)]) dX12_chance_22 rfl (by decide) rfl ?_
    refine mm_iconst (x := 0) dX12_chance_23 rfl ?_
    refine mm_istore_n (lv' := [(3, .int 0), (2, .int 0), (0, .ref 164), (1, .int x1)]) dX12_chance_24 rfl (by decide) rfl ?_
    exact mm_sub [2, 3, 1, 0] rfl h
  · rw [if_pos hc] at h
    refine mm_aload_n (j := 0) dX12_chance_11 rfl rfl ?_
    refine mm_iconst (x := 3) dX12_chance_12 rfl ?_
    refine mm_kVI [.int 3] dX12_chance_13 kX12_604 rfl sh_164 (by decide) (by decide) h (fun z13 m13 hG h => ?_)
    exact mm_iret dX12_chance_16 rfl (Nat.le_refl 0) (Nat.le_refl 0) ⟨_, rfl, rfl, hG, h⟩
set_option maxRecDepth 100000 in
set_option maxHeartbeats 4000000 in
theorem lX12_chance_25 {d : Nat} {x1 : Int32} {M : mm_M} {K : Int32 → mm_M → Prop} {y1 : Int32} {y2 : Int32} {y3 : Int32} (hG : mm_G M.2.2) (h : if y1 ≤ y3 then (K y2 M) else (mm_CI mX12_drawOf d [.ref 164, .int 100] M (fun z33 m33 => if (m33.1 191 (3).toNatClampNeg) ≤ z33 then (mm_CV mX12_dayGoes d [.ref 164] m33 (fun m85 => jX12_chance_25 d x1 m85 K y1 y2 (y3 + 1))) else (mm_CI mX12_houseMany d [.ref 164] m33 (fun z46 m46 => if z46 ≤ 0 then (mm_CV mX12_dayGoes d [.ref 164] m46 (fun m85 => jX12_chance_25 d x1 m85 K y1 y2 (y3 + 1))) else (mm_CI mX12_houseMany d [.ref 164] m46 (fun z54 m54 => mm_CI mX12_drawOf d [.ref 164, .int z54] m54 (fun z57 m57 => mm_CI mX12_flourOf d [.ref 164, .int z57] m57 (fun z75 m75 => vp_in (2 + (3 * z57)) 204 ∧ mm_CV mX12_dayGoes d [.ref 164] (mm_uI m75 199 (2 + (3 * z57)).toNatClampNeg (z75 / 2)) (fun m85 => jX12_chance_25 d x1 m85 K y1 (y2 + 1) (y3 + 1))))))))))) : jX12_chance_25 d x1 M K y1 y2 y3 := by
  unfold jX12_chance_25
  refine mm_iload_n (j := 3) dX12_chance_25 rfl rfl ?_
  refine mm_iload_n (j := 1) dX12_chance_26 rfl rfl ?_
  refine mm_icmp_ge (tgt := 94) dX12_chance_27 (by decide) (fun hc => ?_) (fun hc => ?_)
  · rw [if_pos hc] at h
    refine mm_iload_n (j := 2) dX12_chance_94 rfl rfl ?_
    exact mm_iret dX12_chance_95 rfl (Nat.le_refl 0) (Nat.le_refl 0) ⟨_, rfl, rfl, hG, h⟩
  · rw [if_neg hc] at h
    refine mm_aload_n (j := 0) dX12_chance_30 rfl rfl ?_
    refine mm_bipush (x := 100) dX12_chance_31 rfl ?_
    refine mm_kVI [.int 100] dX12_chance_33 kX12_639 rfl sh_164 (by decide) (by decide) h (fun z33 m33 hG h => ?_)
    refine mm_aload_n (j := 0) dX12_chance_36 rfl rfl ?_
    refine mm_getR (ci := 12) (N := 116) (r := 191) dX12_chance_37 fX12_93 sh_164 rfl (g_164_36 hG) ?_
    refine mm_iconst (x := 3) dX12_chance_40 rfl ?_
    refine mm_iaload (N := 4) dX12_chance_41 sh_191 (by decide) ?_
    refine mm_icmp_ge (tgt := 84) dX12_chance_42 (by decide) (fun hc => ?_) (fun hc => ?_)
    · rw [if_pos hc] at h
      refine mm_aload_n (j := 0) dX12_chance_84 rfl rfl ?_
      refine mm_kVV [] dX12_chance_85 kX12_516 rfl sh_164 (by decide) (by decide) h (fun m85 hG h => ?_)
      refine mm_iinc (j := 3) (v := y3 + 1) (lv' := [(3, .int (y3 + 1)), (0, .ref 164), (1, .int y1), (2, .int y2)]) dX12_chance_88 rfl rfl (by decide) rfl ?_
      refine mm_goto (tgt := 25) dX12_chance_91 (by decide) ?_
      exact mm_sub [1, 2, 3, 0] rfl h
    · rw [if_neg hc] at h
      refine mm_aload_n (j := 0) dX12_chance_45 rfl rfl ?_
      refine mm_kVI [] dX12_chance_46 kX12_412 rfl sh_164 (by decide) (by decide) h (fun z46 m46 hG h => ?_)
      refine mm_if_le (tgt := 84) dX12_chance_49 (by decide) (fun hc => ?_) (fun hc => ?_)
      · rw [if_pos hc] at h
        refine mm_aload_n (j := 0) dX12_chance_84 rfl rfl ?_
        refine mm_kVV [] dX12_chance_85 kX12_516 rfl sh_164 (by decide) (by decide) h (fun m85 hG h => ?_)
        refine mm_iinc (j := 3) (v := y3 + 1) (lv' := [(3, .int (y3 + 1)), (0, .ref 164), (1, .int y1), (2, .int y2)]) dX12_chance_88 rfl rfl (by decide) rfl ?_
        refine mm_goto (tgt := 25) dX12_chance_91 (by decide) ?_
        exact mm_sub [1, 2, 3, 0] rfl h
      · rw [if_neg hc] at h
        refine mm_aload_n (j := 0) dX12_chance_52 rfl rfl ?_
        refine mm_aload_n (j := 0) dX12_chance_53 rfl rfl ?_
        refine mm_kVI [] dX12_chance_54 kX12_412 rfl sh_164 (by decide) (by decide) h (fun z54 m54 hG h => ?_)
        refine mm_kVI [.int z54] dX12_chance_57 kX12_639 rfl sh_164 (by decide) (by decide) h (fun z57 m57 hG h => ?_)
        refine mm_istore (lv' := [(4, .int z57), (0, .ref 164), (1, .int y1), (2, .int y2), (3, .int y3)]) dX12_chance_60 (by decide) rfl ?_
        refine mm_aload_n (j := 1) dX12_chance_62 rfl rfl ?_
        refine mm_getR (ci := 12) (N := 116) (r := 199) dX12_chance_63 fX12_118 sh_164 rfl (g_164_50 hG) ?_
        refine mm_iconst (x := 2) dX12_chance_66 rfl ?_
        refine mm_iconst (x := 3) dX12_chance_67 rfl ?_
        refine mm_iload (j := 0) dX12_chance_68 rfl ?_
        refine mm_imul dX12_chance_70 ?_
        refine mm_iadd dX12_chance_71 ?_
        refine mm_aload_n (j := 1) dX12_chance_72 rfl rfl ?_
        refine mm_iload (j := 0) dX12_chance_73 rfl ?_
        refine mm_kVI [.int z57] dX12_chance_75 kX12_465 rfl sh_164 (by decide) (by decide) h (fun z75 m75 hG h => ?_)
        refine mm_iconst (x := 2) dX12_chance_78 rfl ?_
        refine mm_idiv dX12_chance_79 (by decide) ?_
        obtain ⟨hi80, h⟩ := h
        refine mm_iastore (N := 204) dX12_chance_80 sh_199 hi80 ?_
        refine mm_iinc (j := 3) (v := y2 + 1) (lv' := [(2, .int (y2 + 1)), (4, .int z57), (0, .ref 164), (1, .int y1), (3, .int y3)]) dX12_chance_81 rfl rfl (by decide) rfl ?_
        refine mm_aload_n (j := 2) dX12_chance_84 rfl rfl ?_
        refine mm_kVV [] dX12_chance_85 kX12_516 rfl sh_164 (by decide) (by decide) h (fun m85 hG h => ?_)
        refine mm_iinc (j := 4) (v := y3 + 1) (lv' := [(3, .int (y3 + 1)), (2, .int (y2 + 1)), (4, .int z57), (0, .ref 164), (1, .int y1)]) dX12_chance_88 rfl rfl (by decide) rfl ?_
        refine mm_goto (tgt := 25) dX12_chance_91 (by decide) ?_
        exact mm_sub [3, 4, 1, 0] rfl h
set_option maxRecDepth 100000 in
set_option maxHeartbeats 4000000 in
theorem rX12_qCode {d : Nat} {x1 : Int32} {M : mm_M} {K : mm_M → Prop} (hG : mm_G M.2.2) (h : vp_in (M.1 164 105) 1700 ∧ K (mm_uI (mm_uI M 239 (M.1 164 105).toNatClampNeg x1) 164 105 (((mm_uI M 239 (M.1 164 105).toNatClampNeg x1).1 164 105) + 1))) : mm_CV mX12_qCode d [.ref 164, .int x1] M K := by
  show mm_W mX12_qCode d 0 0 0 [(0, .ref 164), (1, .int x1)] [] mm_SH M 0 0 (mm_PV K)
  refine mm_aload_n (j := 0) dX12_qCode_0 rfl rfl ?_
  refine mm_getR (ci := 12) (N := 116) (r := 239) dX12_qCode_1 fX12_243 sh_164 rfl (g_164_104 hG) ?_
  refine mm_aload_n (j := 0) dX12_qCode_4 rfl rfl ?_
  refine mm_getI (ci := 12) (N := 116) dX12_qCode_5 fX12_354 sh_164 rfl ?_
  refine mm_iload_n (j := 1) dX12_qCode_8 rfl rfl ?_
  obtain ⟨hi9, h⟩ := h
  refine mm_iastore (N := 1700) dX12_qCode_9 sh_239 hi9 ?_
  refine mm_aload_n (j := 0) dX12_qCode_10 rfl rfl ?_
  refine mm_dup dX12_qCode_11 rfl ?_
  refine mm_getI (ci := 12) (N := 116) dX12_qCode_12 fX12_354 sh_164 rfl ?_
  refine mm_iconst (x := 1) dX12_qCode_15 rfl ?_
  refine mm_iadd dX12_qCode_16 ?_
  refine mm_putI (ci := 12) (N := 116) dX12_qCode_17 fX12_354 sh_164 (by decide +kernel) rfl rfl rfl ?_
  exact mm_vret dX12_qCode_20 rfl (Nat.le_refl 0) (Nat.le_refl 0) ⟨rfl, rfl, hG, h⟩
set_option maxRecDepth 100000 in
set_option maxHeartbeats 4000000 in
theorem rX12_qOpens {d : Nat} {x1 : Int32} {x2 : Int32} {M : mm_M} {K : mm_M → Prop} (hG : mm_G M.2.2) (h : if (M.1 164 5) = 0 then (if (M.1 164 108) = 6 then (mm_CV mX12_fail d [.ref 164, .int 4, .int x2] M (fun m20 => K m20)) else (vp_in ((mm_uI M 164 108 ((M.1 164 108) + 1)).1 164 107) 1700 ∧ K (mm_uI (mm_uI (mm_uI M 164 108 ((M.1 164 108) + 1)) 240 ((mm_uI M 164 108 ((M.1 164 108) + 1)).1 164 107).toNatClampNeg x1) 164 107 (((mm_uI (mm_uI M 164 108 ((M.1 164 108) + 1)) 240 ((mm_uI M 164 108 ((M.1 164 108) + 1)).1 164 107).toNatClampNeg x1).1 164 107) + 1)))) else (K M)) : mm_CV mX12_qOpens (d + 1) [.ref 164, .int x1, .int x2] M K := by
  show mm_W mX12_qOpens (d + 1) 0 0 0 [(0, .ref 164), (1, .int x1), (2, .int x2)] [] mm_SH M 0 0 (mm_PV K)
  refine mm_aload_n (j := 0) dX12_qOpens_0 rfl rfl ?_
  refine mm_getI (ci := 12) (N := 116) dX12_qOpens_1 fX12_260 sh_164 rfl ?_
  refine mm_if_eq (tgt := 8) dX12_qOpens_4 (by decide) (fun hc => ?_) (fun hc => ?_)
  · rw [if_pos hc] at h
    refine mm_aload_n (j := 0) dX12_qOpens_8 rfl rfl ?_
    refine mm_getI (ci := 12) (N := 116) dX12_qOpens_9 fX12_360 sh_164 rfl ?_
    refine mm_bipush (x := 6) dX12_qOpens_12 rfl ?_
    refine mm_icmp_ne (tgt := 24) dX12_qOpens_14 (by decide) (fun hc => ?_) (fun hc => ?_)
    · rw [if_neg hc] at h
      refine mm_aload_n (j := 0) dX12_qOpens_24 rfl rfl ?_
      refine mm_dup dX12_qOpens_25 rfl ?_
      refine mm_getI (ci := 12) (N := 116) dX12_qOpens_26 fX12_360 sh_164 rfl ?_
      refine mm_iconst (x := 1) dX12_qOpens_29 rfl ?_
      refine mm_iadd dX12_qOpens_30 ?_
      refine mm_putI (ci := 12) (N := 116) dX12_qOpens_31 fX12_360 sh_164 (by decide +kernel) rfl rfl rfl ?_
      refine mm_aload_n (j := 0) dX12_qOpens_34 rfl rfl ?_
      refine mm_getR (ci := 12) (N := 116) (r := 240) dX12_qOpens_35 fX12_246 sh_164 rfl (g_164_106 hG) ?_
      refine mm_aload_n (j := 0) dX12_qOpens_38 rfl rfl ?_
      refine mm_getI (ci := 12) (N := 116) dX12_qOpens_39 fX12_357 sh_164 rfl ?_
      refine mm_iload_n (j := 1) dX12_qOpens_42 rfl rfl ?_
      obtain ⟨hi43, h⟩ := h
      refine mm_iastore (N := 1700) dX12_qOpens_43 sh_240 hi43 ?_
      refine mm_aload_n (j := 0) dX12_qOpens_44 rfl rfl ?_
      refine mm_dup dX12_qOpens_45 rfl ?_
      refine mm_getI (ci := 12) (N := 116) dX12_qOpens_46 fX12_357 sh_164 rfl ?_
      refine mm_iconst (x := 1) dX12_qOpens_49 rfl ?_
      refine mm_iadd dX12_qOpens_50 ?_
      refine mm_putI (ci := 12) (N := 116) dX12_qOpens_51 fX12_357 sh_164 (by decide +kernel) rfl rfl rfl ?_
      exact mm_vret dX12_qOpens_54 rfl (Nat.le_refl 0) (Nat.le_refl 0) ⟨rfl, rfl, hG, h⟩
    · rw [if_pos hc] at h
      refine mm_aload_n (j := 0) dX12_qOpens_17 rfl rfl ?_
      refine mm_iconst (x := 4) dX12_qOpens_18 rfl ?_
      refine mm_iload_n (j := 2) dX12_qOpens_19 rfl rfl ?_
      refine mm_kVV [.int 4, .int x2] dX12_qOpens_20 kX12_290 rfl sh_164 (by decide) (by decide) h (fun m20 hG h => ?_)
      exact mm_vret dX12_qOpens_23 rfl (Nat.le_refl 0) (Nat.le_refl 0) ⟨rfl, rfl, hG, h⟩
  · rw [if_neg hc] at h
    exact mm_vret dX12_qOpens_7 rfl (Nat.le_refl 0) (Nat.le_refl 0) ⟨rfl, rfl, hG, h⟩
set_option maxRecDepth 100000 in
set_option maxHeartbeats 4000000 in
theorem rX12_qIsOn {d : Nat} {x1 : Int32} {M : mm_M} {K : Int32 → mm_M → Prop} (hG : mm_G M.2.2) (h : if (M.1 164 107) ≤ 0 then (K 0 M) else (vp_in ((M.1 164 107) - 1) 1700 ∧ if (M.1 240 ((M.1 164 107) - 1).toNatClampNeg) = x1 then (K 1 M) else (K 0 M))) : mm_CI mX12_qIsOn d [.ref 164, .int x1] M K := by
  show mm_W mX12_qIsOn d 0 0 0 [(0, .ref 164), (1, .int x1)] [] mm_SH M 0 0 (mm_PI K)
  refine mm_aload_n (j := 0) dX12_qIsOn_0 rfl rfl ?_
  refine mm_getI (ci := 12) (N := 116) dX12_qIsOn_1 fX12_357 sh_164 rfl ?_
  refine mm_if_le (tgt := 26) dX12_qIsOn_4 (by decide) (fun hc => ?_) (fun hc => ?_)
  · rw [if_pos hc] at h
    refine mm_iconst (x := 0) dX12_qIsOn_26 rfl ?_
    exact mm_zret dX12_qIsOn_27 rfl rfl (Nat.le_refl 0) (Nat.le_refl 0) ⟨_, rfl, rfl, hG, h⟩
  · rw [if_neg hc] at h
    refine mm_aload_n (j := 0) dX12_qIsOn_7 rfl rfl ?_
    refine mm_getR (ci := 12) (N := 116) (r := 240) dX12_qIsOn_8 fX12_246 sh_164 rfl (g_164_106 hG) ?_
    refine mm_aload_n (j := 0) dX12_qIsOn_11 rfl rfl ?_
    refine mm_getI (ci := 12) (N := 116) dX12_qIsOn_12 fX12_357 sh_164 rfl ?_
    refine mm_iconst (x := 1) dX12_qIsOn_15 rfl ?_
    refine mm_isub dX12_qIsOn_16 ?_
    obtain ⟨hi17, h⟩ := h
    refine mm_iaload (N := 1700) dX12_qIsOn_17 sh_240 hi17 ?_
    refine mm_iload_n (j := 1) dX12_qIsOn_18 rfl rfl ?_
    refine mm_icmp_ne (tgt := 26) dX12_qIsOn_19 (by decide) (fun hc => ?_) (fun hc => ?_)
    · rw [if_neg hc] at h
      refine mm_iconst (x := 0) dX12_qIsOn_26 rfl ?_
      exact mm_zret dX12_qIsOn_27 rfl rfl (Nat.le_refl 0) (Nat.le_refl 0) ⟨_, rfl, rfl, hG, h⟩
    · rw [if_pos hc] at h
      refine mm_iconst (x := 1) dX12_qIsOn_22 rfl ?_
      refine mm_goto (tgt := 27) dX12_qIsOn_23 (by decide) ?_
      exact mm_zret dX12_qIsOn_27 rfl rfl (Nat.le_refl 0) (Nat.le_refl 0) ⟨_, rfl, rfl, hG, h⟩
set_option maxRecDepth 100000 in
set_option maxHeartbeats 4000000 in
theorem rX12_qDrops {d : Nat} {M : mm_M} {K : mm_M → Prop} (hG : mm_G M.2.2) (h : vp_in ((mm_uI M 164 107 ((M.1 164 107) - 1)).1 164 107) 1700 ∧ mm_CV mX12_qCode d [.ref 164, .int ((mm_uI M 164 107 ((M.1 164 107) - 1)).1 240 ((mm_uI M 164 107 ((M.1 164 107) - 1)).1 164 107).toNatClampNeg)] (mm_uI M 164 107 ((M.1 164 107) - 1)) (fun m20 => K m20)) : mm_CV mX12_qDrops (d + 1) [.ref 164] M K := by
  show mm_W mX12_qDrops (d + 1) 0 0 0 [(0, .ref 164)] [] mm_SH M 0 0 (mm_PV K)
  refine mm_aload_n (j := 0) dX12_qDrops_0 rfl rfl ?_
  refine mm_dup dX12_qDrops_1 rfl ?_
  refine mm_getI (ci := 12) (N := 116) dX12_qDrops_2 fX12_357 sh_164 rfl ?_
  refine mm_iconst (x := 1) dX12_qDrops_5 rfl ?_
  refine mm_isub dX12_qDrops_6 ?_
  refine mm_putI (ci := 12) (N := 116) dX12_qDrops_7 fX12_357 sh_164 (by decide +kernel) rfl rfl rfl ?_
  refine mm_aload_n (j := 0) dX12_qDrops_10 rfl rfl ?_
  refine mm_aload_n (j := 0) dX12_qDrops_11 rfl rfl ?_
  refine mm_getR (ci := 12) (N := 116) (r := 240) dX12_qDrops_12 fX12_246 sh_164 rfl (g_164_106 hG) ?_
  refine mm_aload_n (j := 0) dX12_qDrops_15 rfl rfl ?_
  refine mm_getI (ci := 12) (N := 116) dX12_qDrops_16 fX12_357 sh_164 rfl ?_
  obtain ⟨hi19, h⟩ := h
  refine mm_iaload (N := 1700) dX12_qDrops_19 sh_240 hi19 ?_
  refine mm_kVV [.int ((mm_uI M 164 107 ((M.1 164 107) - 1)).1 240 ((mm_uI M 164 107 ((M.1 164 107) - 1)).1 164 107).toNatClampNeg)] dX12_qDrops_20 kX12_642 rfl sh_164 (by decide) (by decide) h (fun m20 hG h => ?_)
  exact mm_vret dX12_qDrops_23 rfl (Nat.le_refl 0) (Nat.le_refl 0) ⟨rfl, rfl, hG, h⟩
set_option maxRecDepth 100000 in
set_option maxHeartbeats 4000000 in
theorem rX12_qIsBracket {d : Nat} {x0 : Int32} {M : mm_M} {K : Int32 → mm_M → Prop} (hG : mm_G M.2.2) (h : if x0 < 20 then (K 0 M) else (if 24 < x0 then (K 0 M) else (K 1 M))) : mm_CI mX12_qIsBracket d [.int x0] M K := by
  show mm_W mX12_qIsBracket d 0 0 0 [(0, .int x0)] [] mm_SH M 0 0 (mm_PI K)
  refine mm_iload_n (j := 0) dX12_qIsBracket_0 rfl rfl ?_
  refine mm_bipush (x := 20) dX12_qIsBracket_1 rfl ?_
  refine mm_icmp_lt (tgt := 16) dX12_qIsBracket_3 (by decide) (fun hc => ?_) (fun hc => ?_)
  · rw [if_pos hc] at h
    refine mm_iconst (x := 0) dX12_qIsBracket_16 rfl ?_
    exact mm_zret dX12_qIsBracket_17 rfl rfl (Nat.le_refl 0) (Nat.le_refl 0) ⟨_, rfl, rfl, hG, h⟩
  · rw [if_neg hc] at h
    refine mm_iload_n (j := 0) dX12_qIsBracket_6 rfl rfl ?_
    refine mm_bipush (x := 24) dX12_qIsBracket_7 rfl ?_
    refine mm_icmp_gt (tgt := 16) dX12_qIsBracket_9 (by decide) (fun hc => ?_) (fun hc => ?_)
    · rw [if_pos hc] at h
      refine mm_iconst (x := 0) dX12_qIsBracket_16 rfl ?_
      exact mm_zret dX12_qIsBracket_17 rfl rfl (Nat.le_refl 0) (Nat.le_refl 0) ⟨_, rfl, rfl, hG, h⟩
    · rw [if_neg hc] at h
      refine mm_iconst (x := 1) dX12_qIsBracket_12 rfl ?_
      refine mm_goto (tgt := 17) dX12_qIsBracket_13 (by decide) ?_
      exact mm_zret dX12_qIsBracket_17 rfl rfl (Nat.le_refl 0) (Nat.le_refl 0) ⟨_, rfl, rfl, hG, h⟩
def jX12_qBracket_7 (d : Nat) (M : mm_M) (K : Int32 → mm_M → Prop) (y1 : Int32) : Prop := mm_W mX12_qBracket (d + 1) 0 0 7 [(0, .ref 164), (1, .int y1)] [] mm_SH M 0 0 (mm_PI K)
set_option maxRecDepth 100000 in
set_option maxHeartbeats 4000000 in
theorem rX12_qBracket {d : Nat} {M : mm_M} {K : Int32 → mm_M → Prop} (hG : mm_G M.2.2) (h : jX12_qBracket_7 d M K ((M.1 164 107) - 1)) : mm_CI mX12_qBracket (d + 1) [.ref 164] M K := by
  show mm_W mX12_qBracket (d + 1) 0 0 0 [(0, .ref 164)] [] mm_SH M 0 0 (mm_PI K)
  refine mm_aload_n (j := 0) dX12_qBracket_0 rfl rfl ?_
  refine mm_getI (ci := 12) (N := 116) dX12_qBracket_1 fX12_357 sh_164 rfl ?_
  refine mm_iconst (x := 1) dX12_qBracket_4 rfl ?_
  refine mm_isub dX12_qBracket_5 ?_
  refine mm_istore_n (lv' := [(1, .int ((M.1 164 107) - 1)), (0, .ref 164)]) dX12_qBracket_6 rfl (by decide) rfl ?_
  exact mm_sub [1, 0] rfl h
set_option maxRecDepth 100000 in
set_option maxHeartbeats 4000000 in
theorem lX12_qBracket_7 {d : Nat} {M : mm_M} {K : Int32 → mm_M → Prop} {y1 : Int32} (hG : mm_G M.2.2) (h : if y1 < (M.1 164 109) then (if y1 < (M.1 164 109) then (K (-1) M) else (vp_in y1 1700 ∧ K (M.1 240 (y1).toNatClampNeg) M)) else (vp_in y1 1700 ∧ mm_CI mX12_qIsBracket d [.int (M.1 240 (y1).toNatClampNeg)] M (fun z21 m21 => if z21 = 0 then (jX12_qBracket_7 d m21 K (y1 + (-1))) else (if y1 < (m21.1 164 109) then (K (-1) m21) else (vp_in y1 1700 ∧ K (m21.1 240 (y1).toNatClampNeg) m21))))) : jX12_qBracket_7 d  M K y1 := by
  unfold jX12_qBracket_7
  refine mm_iload_n (j := 1) dX12_qBracket_7 rfl rfl ?_
  refine mm_aload_n (j := 0) dX12_qBracket_8 rfl rfl ?_
  refine mm_getI (ci := 12) (N := 116) dX12_qBracket_9 fX12_363 sh_164 rfl ?_
  refine mm_icmp_lt (tgt := 33) dX12_qBracket_12 (by decide) (fun hc => ?_) (fun hc => ?_)
  · rw [if_pos hc] at h
    refine mm_iload_n (j := 1) dX12_qBracket_33 rfl rfl ?_
    refine mm_aload_n (j := 0) dX12_qBracket_34 rfl rfl ?_
    refine mm_getI (ci := 12) (N := 116) dX12_qBracket_35 fX12_363 sh_164 rfl ?_
    refine mm_icmp_lt (tgt := 50) dX12_qBracket_38 (by decide) (fun hc => ?_) (fun hc => ?_)
    · rw [if_pos hc] at h
      refine mm_iconst (x := (-1)) dX12_qBracket_50 rfl ?_
      exact mm_iret dX12_qBracket_51 rfl (Nat.le_refl 0) (Nat.le_refl 0) ⟨_, rfl, rfl, hG, h⟩
    · rw [if_neg hc] at h
      refine mm_aload_n (j := 0) dX12_qBracket_41 rfl rfl ?_
      refine mm_getR (ci := 12) (N := 116) (r := 240) dX12_qBracket_42 fX12_246 sh_164 rfl (g_164_106 hG) ?_
      refine mm_iload_n (j := 1) dX12_qBracket_45 rfl rfl ?_
      obtain ⟨hi46, h⟩ := h
      refine mm_iaload (N := 1700) dX12_qBracket_46 sh_240 hi46 ?_
      refine mm_goto (tgt := 51) dX12_qBracket_47 (by decide) ?_
      exact mm_iret dX12_qBracket_51 rfl (Nat.le_refl 0) (Nat.le_refl 0) ⟨_, rfl, rfl, hG, h⟩
  · rw [if_neg hc] at h
    refine mm_aload_n (j := 0) dX12_qBracket_15 rfl rfl ?_
    refine mm_getR (ci := 12) (N := 116) (r := 240) dX12_qBracket_16 fX12_246 sh_164 rfl (g_164_106 hG) ?_
    refine mm_iload_n (j := 1) dX12_qBracket_19 rfl rfl ?_
    obtain ⟨hi20, h⟩ := h
    refine mm_iaload (N := 1700) dX12_qBracket_20 sh_240 hi20 ?_
    refine mm_kSI [.int (M.1 240 (y1).toNatClampNeg)] dX12_qBracket_21 kX12_645 rfl (by decide) (by decide) h (fun z21 m21 hG h => ?_)
    refine mm_if_ne (tgt := 33) dX12_qBracket_24 (by decide) (fun hc => ?_) (fun hc => ?_)
    · rw [if_neg hc] at h
      refine mm_iload_n (j := 1) dX12_qBracket_33 rfl rfl ?_
      refine mm_aload_n (j := 0) dX12_qBracket_34 rfl rfl ?_
      refine mm_getI (ci := 12) (N := 116) dX12_qBracket_35 fX12_363 sh_164 rfl ?_
      refine mm_icmp_lt (tgt := 50) dX12_qBracket_38 (by decide) (fun hc => ?_) (fun hc => ?_)
      · rw [if_pos hc] at h
        refine mm_iconst (x := (-1)) dX12_qBracket_50 rfl ?_
        exact mm_iret dX12_qBracket_51 rfl (Nat.le_refl 0) (Nat.le_refl 0) ⟨_, rfl, rfl, hG, h⟩
      · rw [if_neg hc] at h
        refine mm_aload_n (j := 0) dX12_qBracket_41 rfl rfl ?_
        refine mm_getR (ci := 12) (N := 116) (r := 240) dX12_qBracket_42 fX12_246 sh_164 rfl (g_164_106 hG) ?_
        refine mm_iload_n (j := 1) dX12_qBracket_45 rfl rfl ?_
        obtain ⟨hi46, h⟩ := h
        refine mm_iaload (N := 1700) dX12_qBracket_46 sh_240 hi46 ?_
        refine mm_goto (tgt := 51) dX12_qBracket_47 (by decide) ?_
        exact mm_iret dX12_qBracket_51 rfl (Nat.le_refl 0) (Nat.le_refl 0) ⟨_, rfl, rfl, hG, h⟩
    · rw [if_pos hc] at h
      refine mm_iinc (j := 1) (v := y1 + (-1)) (lv' := [(1, .int (y1 + (-1))), (0, .ref 164)]) dX12_qBracket_27 rfl rfl (by decide) rfl ?_
      refine mm_goto (tgt := 7) dX12_qBracket_30 (by decide) ?_
      exact mm_sub [1, 0] rfl h
def jX12_qDropsToBracket_0 (d : Nat) (M : mm_M) (K : mm_M → Prop) : Prop := mm_W mX12_qDropsToBracket (d + 1) 0 0 0 [(0, .ref 164)] [] mm_SH M 0 0 (mm_PV K)
set_option maxRecDepth 100000 in
set_option maxHeartbeats 4000000 in
theorem rX12_qDropsToBracket {d : Nat} {M : mm_M} {K : mm_M → Prop} (hG : mm_G M.2.2) (h : if (M.1 164 107) ≤ (M.1 164 109) then (K M) else (vp_in ((M.1 164 107) - 1) 1700 ∧ mm_CI mX12_qIsBracket d [.int (M.1 240 ((M.1 164 107) - 1).toNatClampNeg)] M (fun z22 m22 => if z22 = 0 then (mm_CV mX12_qDrops d [.ref 164] m22 (fun m29 => jX12_qDropsToBracket_0 d m29 K)) else (K m22)))) : mm_CV mX12_qDropsToBracket (d + 1) [.ref 164] M K := by
  show mm_W mX12_qDropsToBracket (d + 1) 0 0 0 [(0, .ref 164)] [] mm_SH M 0 0 (mm_PV K)
  refine mm_aload_n (j := 0) dX12_qDropsToBracket_0 rfl rfl ?_
  refine mm_getI (ci := 12) (N := 116) dX12_qDropsToBracket_1 fX12_357 sh_164 rfl ?_
  refine mm_aload_n (j := 0) dX12_qDropsToBracket_4 rfl rfl ?_
  refine mm_getI (ci := 12) (N := 116) dX12_qDropsToBracket_5 fX12_363 sh_164 rfl ?_
  refine mm_icmp_le (tgt := 35) dX12_qDropsToBracket_8 (by decide) (fun hc => ?_) (fun hc => ?_)
  · rw [if_pos hc] at h
    exact mm_vret dX12_qDropsToBracket_35 rfl (Nat.le_refl 0) (Nat.le_refl 0) ⟨rfl, rfl, hG, h⟩
  · rw [if_neg hc] at h
    refine mm_aload_n (j := 0) dX12_qDropsToBracket_11 rfl rfl ?_
    refine mm_getR (ci := 12) (N := 116) (r := 240) dX12_qDropsToBracket_12 fX12_246 sh_164 rfl (g_164_106 hG) ?_
    refine mm_aload_n (j := 0) dX12_qDropsToBracket_15 rfl rfl ?_
    refine mm_getI (ci := 12) (N := 116) dX12_qDropsToBracket_16 fX12_357 sh_164 rfl ?_
    refine mm_iconst (x := 1) dX12_qDropsToBracket_19 rfl ?_
    refine mm_isub dX12_qDropsToBracket_20 ?_
    obtain ⟨hi21, h⟩ := h
    refine mm_iaload (N := 1700) dX12_qDropsToBracket_21 sh_240 hi21 ?_
    refine mm_kSI [.int (M.1 240 ((M.1 164 107) - 1).toNatClampNeg)] dX12_qDropsToBracket_22 kX12_645 rfl (by decide) (by decide) h (fun z22 m22 hG h => ?_)
    refine mm_if_ne (tgt := 35) dX12_qDropsToBracket_25 (by decide) (fun hc => ?_) (fun hc => ?_)
    · rw [if_neg hc] at h
      exact mm_vret dX12_qDropsToBracket_35 rfl (Nat.le_refl 0) (Nat.le_refl 0) ⟨rfl, rfl, hG, h⟩
    · rw [if_pos hc] at h
      refine mm_aload_n (j := 0) dX12_qDropsToBracket_28 rfl rfl ?_
      refine mm_kVV [] dX12_qDropsToBracket_29 kX12_648 rfl sh_164 (by decide) (by decide) h (fun m29 hG h => ?_)
      refine mm_goto (tgt := 0) dX12_qDropsToBracket_32 (by decide) ?_
      exact h
set_option maxRecDepth 100000 in
set_option maxHeartbeats 4000000 in
theorem lX12_qDropsToBracket_0 {d : Nat} {M : mm_M} {K : mm_M → Prop} (hG : mm_G M.2.2) (h : if (M.1 164 107) ≤ (M.1 164 109) then (K M) else (vp_in ((M.1 164 107) - 1) 1700 ∧ mm_CI mX12_qIsBracket d [.int (M.1 240 ((M.1 164 107) - 1).toNatClampNeg)] M (fun z22 m22 => if z22 = 0 then (mm_CV mX12_qDrops d [.ref 164] m22 (fun m29 => jX12_qDropsToBracket_0 d m29 K)) else (K m22)))) : jX12_qDropsToBracket_0 d  M K  := by
  unfold jX12_qDropsToBracket_0
  refine mm_aload_n (j := 0) dX12_qDropsToBracket_0 rfl rfl ?_
  refine mm_getI (ci := 12) (N := 116) dX12_qDropsToBracket_1 fX12_357 sh_164 rfl ?_
  refine mm_aload_n (j := 0) dX12_qDropsToBracket_4 rfl rfl ?_
  refine mm_getI (ci := 12) (N := 116) dX12_qDropsToBracket_5 fX12_363 sh_164 rfl ?_
  refine mm_icmp_le (tgt := 35) dX12_qDropsToBracket_8 (by decide) (fun hc => ?_) (fun hc => ?_)
  · rw [if_pos hc] at h
    exact mm_vret dX12_qDropsToBracket_35 rfl (Nat.le_refl 0) (Nat.le_refl 0) ⟨rfl, rfl, hG, h⟩
  · rw [if_neg hc] at h
    refine mm_aload_n (j := 0) dX12_qDropsToBracket_11 rfl rfl ?_
    refine mm_getR (ci := 12) (N := 116) (r := 240) dX12_qDropsToBracket_12 fX12_246 sh_164 rfl (g_164_106 hG) ?_
    refine mm_aload_n (j := 0) dX12_qDropsToBracket_15 rfl rfl ?_
    refine mm_getI (ci := 12) (N := 116) dX12_qDropsToBracket_16 fX12_357 sh_164 rfl ?_
    refine mm_iconst (x := 1) dX12_qDropsToBracket_19 rfl ?_
    refine mm_isub dX12_qDropsToBracket_20 ?_
    obtain ⟨hi21, h⟩ := h
    refine mm_iaload (N := 1700) dX12_qDropsToBracket_21 sh_240 hi21 ?_
    refine mm_kSI [.int (M.1 240 ((M.1 164 107) - 1).toNatClampNeg)] dX12_qDropsToBracket_22 kX12_645 rfl (by decide) (by decide) h (fun z22 m22 hG h => ?_)
    refine mm_if_ne (tgt := 35) dX12_qDropsToBracket_25 (by decide) (fun hc => ?_) (fun hc => ?_)
    · rw [if_neg hc] at h
      exact mm_vret dX12_qDropsToBracket_35 rfl (Nat.le_refl 0) (Nat.le_refl 0) ⟨rfl, rfl, hG, h⟩
    · rw [if_pos hc] at h
      refine mm_aload_n (j := 0) dX12_qDropsToBracket_28 rfl rfl ?_
      refine mm_kVV [] dX12_qDropsToBracket_29 kX12_648 rfl sh_164 (by decide) (by decide) h (fun m29 hG h => ?_)
      refine mm_goto (tgt := 0) dX12_qDropsToBracket_32 (by decide) ?_
      exact h
