set_option maxRecDepth 100000 in
set_option maxHeartbeats 4000000 in
theorem rJ6_bitCount_0f7a4 {d : Nat} {x0 : Int32} {M : mm_M} {K : Int32 → mm_M → Prop} (hG : mm_G M.2.2) (h : K ((((((((x0 - (((x0.toUInt32 >>> ((1 : Int32).toUInt32 &&& Int32.toUInt32 31)).toInt32) &&& 1431655765)) &&& 858993459) + ((((x0 - (((x0.toUInt32 >>> ((1 : Int32).toUInt32 &&& Int32.toUInt32 31)).toInt32) &&& 1431655765)).toUInt32 >>> ((2 : Int32).toUInt32 &&& Int32.toUInt32 31)).toInt32) &&& 858993459)) + (((((x0 - (((x0.toUInt32 >>> ((1 : Int32).toUInt32 &&& Int32.toUInt32 31)).toInt32) &&& 1431655765)) &&& 858993459) + ((((x0 - (((x0.toUInt32 >>> ((1 : Int32).toUInt32 &&& Int32.toUInt32 31)).toInt32) &&& 1431655765)).toUInt32 >>> ((2 : Int32).toUInt32 &&& Int32.toUInt32 31)).toInt32) &&& 858993459)).toUInt32 >>> ((4 : Int32).toUInt32 &&& Int32.toUInt32 31)).toInt32)) &&& 252645135) + (((((((x0 - (((x0.toUInt32 >>> ((1 : Int32).toUInt32 &&& Int32.toUInt32 31)).toInt32) &&& 1431655765)) &&& 858993459) + ((((x0 - (((x0.toUInt32 >>> ((1 : Int32).toUInt32 &&& Int32.toUInt32 31)).toInt32) &&& 1431655765)).toUInt32 >>> ((2 : Int32).toUInt32 &&& Int32.toUInt32 31)).toInt32) &&& 858993459)) + (((((x0 - (((x0.toUInt32 >>> ((1 : Int32).toUInt32 &&& Int32.toUInt32 31)).toInt32) &&& 1431655765)) &&& 858993459) + ((((x0 - (((x0.toUInt32 >>> ((1 : Int32).toUInt32 &&& Int32.toUInt32 31)).toInt32) &&& 1431655765)).toUInt32 >>> ((2 : Int32).toUInt32 &&& Int32.toUInt32 31)).toInt32) &&& 858993459)).toUInt32 >>> ((4 : Int32).toUInt32 &&& Int32.toUInt32 31)).toInt32)) &&& 252645135).toUInt32 >>> ((8 : Int32).toUInt32 &&& Int32.toUInt32 31)).toInt32)) + ((((((((x0 - (((x0.toUInt32 >>> ((1 : Int32).toUInt32 &&& Int32.toUInt32 31)).toInt32) &&& 1431655765)) &&& 858993459) + ((((x0 - (((x0.toUInt32 >>> ((1 : Int32).toUInt32 &&& Int32.toUInt32 31)).toInt32) &&& 1431655765)).toUInt32 >>> ((2 : Int32).toUInt32 &&& Int32.toUInt32 31)).toInt32) &&& 858993459)) + (((((x0 - (((x0.toUInt32 >>> ((1 : Int32).toUInt32 &&& Int32.toUInt32 31)).toInt32) &&& 1431655765)) &&& 858993459) + ((((x0 - (((x0.toUInt32 >>> ((1 : Int32).toUInt32 &&& Int32.toUInt32 31)).toInt32) &&& 1431655765)).toUInt32 >>> ((2 : Int32).toUInt32 &&& Int32.toUInt32 31)).toInt32) &&& 858993459)).toUInt32 >>> ((4 : Int32).toUInt32 &&& Int32.toUInt32 31)).toInt32)) &&& 252645135) + (((((((x0 - (((x0.toUInt32 >>> ((1 : Int32).toUInt32 &&& Int32.toUInt32 31)).toInt32) &&& 1431655765)) &&& 858993459) + ((((x0 - (((x0.toUInt32 >>> ((1 : Int32).toUInt32 &&& Int32.toUInt32 31)).toInt32) &&& 1431655765)).toUInt32 >>> ((2 : Int32).toUInt32 &&& Int32.toUInt32 31)).toInt32) &&& 858993459)) + (((((x0 - (((x0.toUInt32 >>> ((1 : Int32).toUInt32 &&& Int32.toUInt32 31)).toInt32) &&& 1431655765)) &&& 858993459) + ((((x0 - (((x0.toUInt32 >>> ((1 : Int32).toUInt32 &&& Int32.toUInt32 31)).toInt32) &&& 1431655765)).toUInt32 >>> ((2 : Int32).toUInt32 &&& Int32.toUInt32 31)).toInt32) &&& 858993459)).toUInt32 >>> ((4 : Int32).toUInt32 &&& Int32.toUInt32 31)).toInt32)) &&& 252645135).toUInt32 >>> ((8 : Int32).toUInt32 &&& Int32.toUInt32 31)).toInt32)).toUInt32 >>> ((16 : Int32).toUInt32 &&& Int32.toUInt32 31)).toInt32)) &&& 63) M) : mm_CI mJ6_bitCount_0f7a4 d [.int x0] M K := by
  show mm_W mJ6_bitCount_0f7a4 d 0 0 0 [(0, .int x0)] [] mm_SH M 0 0 (mm_PI K)
  refine mm_iload_n (pc := 0) (j := 0) dJ6_bitCount_0f7a4_0 rfl rfl ?_
  refine mm_iload_n (pc := 1) (j := 0) dJ6_bitCount_0f7a4_1 rfl rfl ?_
  refine mm_iconst (pc := 2) (x := 1) dJ6_bitCount_0f7a4_2 rfl ?_
  refine mm_iushr (pc := 3) dJ6_bitCount_0f7a4_3 rfl ?_
  refine mm_ldcw (pc := 4) (x := 1431655765) dJ6_bitCount_0f7a4_4 cJ6_265 ?_
  refine mm_iand (pc := 7) dJ6_bitCount_0f7a4_7 ?_
  refine mm_isub (pc := 8) dJ6_bitCount_0f7a4_8 ?_
  refine mm_istore_n (pc := 9) (lv' := [(0, .int (x0 - (((x0.toUInt32 >>> ((1 : Int32).toUInt32 &&& Int32.toUInt32 31)).toInt32) &&& 1431655765)))]) dJ6_bitCount_0f7a4_9 rfl (by decide) rfl ?_
  refine mm_iload_n (pc := 10) (j := 0) dJ6_bitCount_0f7a4_10 rfl rfl ?_
  refine mm_ldcw (pc := 11) (x := 858993459) dJ6_bitCount_0f7a4_11 cJ6_266 ?_
  refine mm_iand (pc := 14) dJ6_bitCount_0f7a4_14 ?_
  refine mm_iload_n (pc := 15) (j := 0) dJ6_bitCount_0f7a4_15 rfl rfl ?_
  refine mm_iconst (pc := 16) (x := 2) dJ6_bitCount_0f7a4_16 rfl ?_
  refine mm_iushr (pc := 17) dJ6_bitCount_0f7a4_17 rfl ?_
  refine mm_ldcw (pc := 18) (x := 858993459) dJ6_bitCount_0f7a4_18 cJ6_266 ?_
  refine mm_iand (pc := 21) dJ6_bitCount_0f7a4_21 ?_
  refine mm_iadd (pc := 22) dJ6_bitCount_0f7a4_22 ?_
  refine mm_istore_n (pc := 23) (lv' := [(0, .int (((x0 - (((x0.toUInt32 >>> ((1 : Int32).toUInt32 &&& Int32.toUInt32 31)).toInt32) &&& 1431655765)) &&& 858993459) + ((((x0 - (((x0.toUInt32 >>> ((1 : Int32).toUInt32 &&& Int32.toUInt32 31)).toInt32) &&& 1431655765)).toUInt32 >>> ((2 : Int32).toUInt32 &&& Int32.toUInt32 31)).toInt32) &&& 858993459)))]) dJ6_bitCount_0f7a4_23 rfl (by decide) rfl ?_
  refine mm_iload_n (pc := 24) (j := 0) dJ6_bitCount_0f7a4_24 rfl rfl ?_
  refine mm_iload_n (pc := 25) (j := 0) dJ6_bitCount_0f7a4_25 rfl rfl ?_
  refine mm_iconst (pc := 26) (x := 4) dJ6_bitCount_0f7a4_26 rfl ?_
  refine mm_iushr (pc := 27) dJ6_bitCount_0f7a4_27 rfl ?_
  refine mm_iadd (pc := 28) dJ6_bitCount_0f7a4_28 ?_
  refine mm_ldcw (pc := 29) (x := 252645135) dJ6_bitCount_0f7a4_29 cJ6_267 ?_
  refine mm_iand (pc := 32) dJ6_bitCount_0f7a4_32 ?_
  refine mm_istore_n (pc := 33) (lv' := [(0, .int (((((x0 - (((x0.toUInt32 >>> ((1 : Int32).toUInt32 &&& Int32.toUInt32 31)).toInt32) &&& 1431655765)) &&& 858993459) + ((((x0 - (((x0.toUInt32 >>> ((1 : Int32).toUInt32 &&& Int32.toUInt32 31)).toInt32) &&& 1431655765)).toUInt32 >>> ((2 : Int32).toUInt32 &&& Int32.toUInt32 31)).toInt32) &&& 858993459)) + (((((x0 - (((x0.toUInt32 >>> ((1 : Int32).toUInt32 &&& Int32.toUInt32 31)).toInt32) &&& 1431655765)) &&& 858993459) + ((((x0 - (((x0.toUInt32 >>> ((1 : Int32).toUInt32 &&& Int32.toUInt32 31)).toInt32) &&& 1431655765)).toUInt32 >>> ((2 : Int32).toUInt32 &&& Int32.toUInt32 31)).toInt32) &&& 858993459)).toUInt32 >>> ((4 : Int32).toUInt32 &&& Int32.toUInt32 31)).toInt32)) &&& 252645135))]) dJ6_bitCount_0f7a4_33 rfl (by decide) rfl ?_
  refine mm_iload_n (pc := 34) (j := 0) dJ6_bitCount_0f7a4_34 rfl rfl ?_
  refine mm_iload_n (pc := 35) (j := 0) dJ6_bitCount_0f7a4_35 rfl rfl ?_
  refine mm_bipush (pc := 36) (x := 8) dJ6_bitCount_0f7a4_36 rfl ?_
  refine mm_iushr (pc := 38) dJ6_bitCount_0f7a4_38 rfl ?_
  refine mm_iadd (pc := 39) dJ6_bitCount_0f7a4_39 ?_
  refine mm_istore_n (pc := 40) (lv' := [(0, .int ((((((x0 - (((x0.toUInt32 >>> ((1 : Int32).toUInt32 &&& Int32.toUInt32 31)).toInt32) &&& 1431655765)) &&& 858993459) + ((((x0 - (((x0.toUInt32 >>> ((1 : Int32).toUInt32 &&& Int32.toUInt32 31)).toInt32) &&& 1431655765)).toUInt32 >>> ((2 : Int32).toUInt32 &&& Int32.toUInt32 31)).toInt32) &&& 858993459)) + (((((x0 - (((x0.toUInt32 >>> ((1 : Int32).toUInt32 &&& Int32.toUInt32 31)).toInt32) &&& 1431655765)) &&& 858993459) + ((((x0 - (((x0.toUInt32 >>> ((1 : Int32).toUInt32 &&& Int32.toUInt32 31)).toInt32) &&& 1431655765)).toUInt32 >>> ((2 : Int32).toUInt32 &&& Int32.toUInt32 31)).toInt32) &&& 858993459)).toUInt32 >>> ((4 : Int32).toUInt32 &&& Int32.toUInt32 31)).toInt32)) &&& 252645135) + (((((((x0 - (((x0.toUInt32 >>> ((1 : Int32).toUInt32 &&& Int32.toUInt32 31)).toInt32) &&& 1431655765)) &&& 858993459) + ((((x0 - (((x0.toUInt32 >>> ((1 : Int32).toUInt32 &&& Int32.toUInt32 31)).toInt32) &&& 1431655765)).toUInt32 >>> ((2 : Int32).toUInt32 &&& Int32.toUInt32 31)).toInt32) &&& 858993459)) + (((((x0 - (((x0.toUInt32 >>> ((1 : Int32).toUInt32 &&& Int32.toUInt32 31)).toInt32) &&& 1431655765)) &&& 858993459) + ((((x0 - (((x0.toUInt32 >>> ((1 : Int32).toUInt32 &&& Int32.toUInt32 31)).toInt32) &&& 1431655765)).toUInt32 >>> ((2 : Int32).toUInt32 &&& Int32.toUInt32 31)).toInt32) &&& 858993459)).toUInt32 >>> ((4 : Int32).toUInt32 &&& Int32.toUInt32 31)).toInt32)) &&& 252645135).toUInt32 >>> ((8 : Int32).toUInt32 &&& Int32.toUInt32 31)).toInt32)))]) dJ6_bitCount_0f7a4_40 rfl (by decide) rfl ?_
  refine mm_iload_n (pc := 41) (j := 0) dJ6_bitCount_0f7a4_41 rfl rfl ?_
  refine mm_iload_n (pc := 42) (j := 0) dJ6_bitCount_0f7a4_42 rfl rfl ?_
  refine mm_bipush (pc := 43) (x := 16) dJ6_bitCount_0f7a4_43 rfl ?_
  refine mm_iushr (pc := 45) dJ6_bitCount_0f7a4_45 rfl ?_
  refine mm_iadd (pc := 46) dJ6_bitCount_0f7a4_46 ?_
  refine mm_istore_n (pc := 47) (lv' := [(0, .int (((((((x0 - (((x0.toUInt32 >>> ((1 : Int32).toUInt32 &&& Int32.toUInt32 31)).toInt32) &&& 1431655765)) &&& 858993459) + ((((x0 - (((x0.toUInt32 >>> ((1 : Int32).toUInt32 &&& Int32.toUInt32 31)).toInt32) &&& 1431655765)).toUInt32 >>> ((2 : Int32).toUInt32 &&& Int32.toUInt32 31)).toInt32) &&& 858993459)) + (((((x0 - (((x0.toUInt32 >>> ((1 : Int32).toUInt32 &&& Int32.toUInt32 31)).toInt32) &&& 1431655765)) &&& 858993459) + ((((x0 - (((x0.toUInt32 >>> ((1 : Int32).toUInt32 &&& Int32.toUInt32 31)).toInt32) &&& 1431655765)).toUInt32 >>> ((2 : Int32).toUInt32 &&& Int32.toUInt32 31)).toInt32) &&& 858993459)).toUInt32 >>> ((4 : Int32).toUInt32 &&& Int32.toUInt32 31)).toInt32)) &&& 252645135) + (((((((x0 - (((x0.toUInt32 >>> ((1 : Int32).toUInt32 &&& Int32.toUInt32 31)).toInt32) &&& 1431655765)) &&& 858993459) + ((((x0 - (((x0.toUInt32 >>> ((1 : Int32).toUInt32 &&& Int32.toUInt32 31)).toInt32) &&& 1431655765)).toUInt32 >>> ((2 : Int32).toUInt32 &&& Int32.toUInt32 31)).toInt32) &&& 858993459)) + (((((x0 - (((x0.toUInt32 >>> ((1 : Int32).toUInt32 &&& Int32.toUInt32 31)).toInt32) &&& 1431655765)) &&& 858993459) + ((((x0 - (((x0.toUInt32 >>> ((1 : Int32).toUInt32 &&& Int32.toUInt32 31)).toInt32) &&& 1431655765)).toUInt32 >>> ((2 : Int32).toUInt32 &&& Int32.toUInt32 31)).toInt32) &&& 858993459)).toUInt32 >>> ((4 : Int32).toUInt32 &&& Int32.toUInt32 31)).toInt32)) &&& 252645135).toUInt32 >>> ((8 : Int32).toUInt32 &&& Int32.toUInt32 31)).toInt32)) + ((((((((x0 - (((x0.toUInt32 >>> ((1 : Int32).toUInt32 &&& Int32.toUInt32 31)).toInt32) &&& 1431655765)) &&& 858993459) + ((((x0 - (((x0.toUInt32 >>> ((1 : Int32).toUInt32 &&& Int32.toUInt32 31)).toInt32) &&& 1431655765)).toUInt32 >>> ((2 : Int32).toUInt32 &&& Int32.toUInt32 31)).toInt32) &&& 858993459)) + (((((x0 - (((x0.toUInt32 >>> ((1 : Int32).toUInt32 &&& Int32.toUInt32 31)).toInt32) &&& 1431655765)) &&& 858993459) + ((((x0 - (((x0.toUInt32 >>> ((1 : Int32).toUInt32 &&& Int32.toUInt32 31)).toInt32) &&& 1431655765)).toUInt32 >>> ((2 : Int32).toUInt32 &&& Int32.toUInt32 31)).toInt32) &&& 858993459)).toUInt32 >>> ((4 : Int32).toUInt32 &&& Int32.toUInt32 31)).toInt32)) &&& 252645135) + (((((((x0 - (((x0.toUInt32 >>> ((1 : Int32).toUInt32 &&& Int32.toUInt32 31)).toInt32) &&& 1431655765)) &&& 858993459) + ((((x0 - (((x0.toUInt32 >>> ((1 : Int32).toUInt32 &&& Int32.toUInt32 31)).toInt32) &&& 1431655765)).toUInt32 >>> ((2 : Int32).toUInt32 &&& Int32.toUInt32 31)).toInt32) &&& 858993459)) + (((((x0 - (((x0.toUInt32 >>> ((1 : Int32).toUInt32 &&& Int32.toUInt32 31)).toInt32) &&& 1431655765)) &&& 858993459) + ((((x0 - (((x0.toUInt32 >>> ((1 : Int32).toUInt32 &&& Int32.toUInt32 31)).toInt32) &&& 1431655765)).toUInt32 >>> ((2 : Int32).toUInt32 &&& Int32.toUInt32 31)).toInt32) &&& 858993459)).toUInt32 >>> ((4 : Int32).toUInt32 &&& Int32.toUInt32 31)).toInt32)) &&& 252645135).toUInt32 >>> ((8 : Int32).toUInt32 &&& Int32.toUInt32 31)).toInt32)).toUInt32 >>> ((16 : Int32).toUInt32 &&& Int32.toUInt32 31)).toInt32)))]) dJ6_bitCount_0f7a4_47 rfl (by decide) rfl ?_
  refine mm_iload_n (pc := 48) (j := 0) dJ6_bitCount_0f7a4_48 rfl rfl ?_
  refine mm_bipush (pc := 49) (x := 63) dJ6_bitCount_0f7a4_49 rfl ?_
  refine mm_iand (pc := 51) dJ6_bitCount_0f7a4_51 ?_
  exact mm_iret (pc := 52) dJ6_bitCount_0f7a4_52 rfl (Nat.le_refl 0) (Nat.le_refl 0) ⟨_, rfl, rfl, hG, h⟩
def jJ7_fill_53178_5 (d : Nat) (r0 : Nat) (n0 : Nat) (x1 : Int32) (M : mm_M) (K : mm_M → Prop) (y1 : Int32) (y2 : Int32) (y3 : Int32) : Prop := mm_W mJ7_fill_53178 d 0 0 5 [(0, .ref r0), (1, .int y1), (2, .int y2), (3, .int y3)] [] mm_SH M 0 0 (mm_PV K)
set_option maxRecDepth 100000 in
set_option maxHeartbeats 4000000 in
theorem rJ7_fill_53178 {d : Nat} {r0 : Nat} {n0 : Nat} {x1 : Int32} {M : mm_M} {K : mm_M → Prop} (hr0 : mm_SH[r0]? = some (0, n0)) (hG : mm_G M.2.2) (h : jJ7_fill_53178_5 d r0 n0 x1 M K x1 0 (nI n0)) : mm_CV mJ7_fill_53178 d [.ref r0, .int x1] M K := by
  show mm_W mJ7_fill_53178 d 0 0 0 [(0, .ref r0), (1, .int x1)] [] mm_SH M 0 0 (mm_PV K)
  refine mm_iconst (pc := 0) (x := 0) dJ7_fill_53178_0 rfl ?_
  refine mm_istore_n (pc := 1) (lv' := [(2, .int 0), (0, .ref r0), (1, .int x1)]) dJ7_fill_53178_1 rfl (by decide) rfl ?_
  refine mm_aload_n (pc := 2) (j := 1) dJ7_fill_53178_2 rfl rfl ?_
  refine mm_alen (pc := 3) (t := 0) (N := n0) dJ7_fill_53178_3 hr0 (by decide) ?_
  refine mm_istore_n (pc := 4) (lv' := [(3, .int (nI n0)), (2, .int 0), (0, .ref r0), (1, .int x1)]) dJ7_fill_53178_4 rfl (by decide) rfl ?_
  exact mm_sub [2, 3, 1, 0] rfl h
set_option maxRecDepth 100000 in
set_option maxHeartbeats 4000000 in
theorem lJ7_fill_53178_5 {d : Nat} {r0 : Nat} {n0 : Nat} {x1 : Int32} {M : mm_M} {K : mm_M → Prop} {y1 : Int32} {y2 : Int32} {y3 : Int32} (hr0 : mm_SH[r0]? = some (0, n0)) (hG : mm_G M.2.2) (h : if y3 ≤ y2 then (K M) else (vp_in y2 n0 ∧ jJ7_fill_53178_5 d r0 n0 x1 (mm_uI M r0 y2.toNatClampNeg y1) K y1 (y2 + 1) y3)) : jJ7_fill_53178_5 d r0 n0 x1 M K y1 y2 y3 := by
  unfold jJ7_fill_53178_5
  refine mm_iload_n (pc := 5) (j := 2) dJ7_fill_53178_5 rfl rfl ?_
  refine mm_iload_n (pc := 6) (j := 3) dJ7_fill_53178_6 rfl rfl ?_
  refine mm_icmp_ge (pc := 7) (tgt := 20) dJ7_fill_53178_7 (by decide) (fun hc => ?_) (fun hc => ?_)
  · have h := mm_ift hc h
    exact mm_vret (pc := 20) dJ7_fill_53178_20 rfl (Nat.le_refl 0) (Nat.le_refl 0) ⟨rfl, rfl, hG, h⟩
  · have h := mm_iff hc h
    refine mm_aload_n (pc := 10) (j := 0) dJ7_fill_53178_10 rfl rfl ?_
    refine mm_iload_n (pc := 11) (j := 2) dJ7_fill_53178_11 rfl rfl ?_
    refine mm_iload_n (pc := 12) (j := 1) dJ7_fill_53178_12 rfl rfl ?_
    obtain ⟨hi13, h⟩ := h
    refine mm_iastore (pc := 13) (N := n0) dJ7_fill_53178_13 hr0 hi13 ?_
    refine mm_iinc (pc := 14) (j := 2) (v := y2 + 1) (lv' := [(2, .int (y2 + 1)), (0, .ref r0), (1, .int y1), (3, .int y3)]) dJ7_fill_53178_14 rfl rfl (by decide) rfl ?_
    refine mm_goto (pc := 17) (tgt := 5) dJ7_fill_53178_17 (by decide) ?_
    exact mm_sub [1, 2, 0, 3] rfl h
